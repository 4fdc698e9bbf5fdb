section
-- ===== PART A: goes FIRST, ahead of the names: the tables' words, and 'selects' of the private methods out of them =====
/-- a private method of a class that the tables say can be made, by its rows of tables_1 -/
def lw_okq (q : MethodName × Nat) : Prop := (q.1.cls ≠ "java/lang/invoke/MethodHandle" ∧ q.1.cls ≠ "java/lang/invoke/VarHandle") ∧ Cond.instantiable q.1.cls q.2 ∈ tables_1 ∧ Cond.privateMethod q.1 ∈ tables_1 ∧ Cond.instanceMethod q.1 ∈ tables_1
theorem lw_p0 : lw_okq (⟨"StormHarbours$Text", "toBegin", "()V"⟩, 9) := ⟨⟨by decide +kernel, by decide +kernel⟩, List.mem_of_getElem? (i := 25) (by decide +kernel), List.mem_of_getElem? (i := 334) (by decide +kernel), List.mem_of_getElem? (i := 335) (by decide +kernel)⟩
theorem lw_p1 : lw_okq (⟨"StormHarbours$Text", "readItem", "()Z"⟩, 9) := ⟨⟨by decide +kernel, by decide +kernel⟩, List.mem_of_getElem? (i := 25) (by decide +kernel), List.mem_of_getElem? (i := 338) (by decide +kernel), List.mem_of_getElem? (i := 339) (by decide +kernel)⟩
theorem lw_p2 : lw_okq (⟨"StormHarbours$Text", "readNumber", "(II)Z"⟩, 9) := ⟨⟨by decide +kernel, by decide +kernel⟩, List.mem_of_getElem? (i := 25) (by decide +kernel), List.mem_of_getElem? (i := 361) (by decide +kernel), List.mem_of_getElem? (i := 362) (by decide +kernel)⟩
theorem lw_p3 : lw_okq (⟨"StormHarbours$Text", "isSound", "()Z"⟩, 9) := ⟨⟨by decide +kernel, by decide +kernel⟩, List.mem_of_getElem? (i := 25) (by decide +kernel), List.mem_of_getElem? (i := 365) (by decide +kernel), List.mem_of_getElem? (i := 366) (by decide +kernel)⟩
theorem lw_p4 : lw_okq (⟨"StormHarbours$Text", "tally", "()V"⟩, 9) := ⟨⟨by decide +kernel, by decide +kernel⟩, List.mem_of_getElem? (i := 25) (by decide +kernel), List.mem_of_getElem? (i := 369) (by decide +kernel), List.mem_of_getElem? (i := 370) (by decide +kernel)⟩
theorem lw_p5 : lw_okq (⟨"StormHarbours$Sea", "openHoursOf", "(II)I"⟩, 15) := ⟨⟨by decide +kernel, by decide +kernel⟩, List.mem_of_getElem? (i := 62) (by decide +kernel), List.mem_of_getElem? (i := 402) (by decide +kernel), List.mem_of_getElem? (i := 403) (by decide +kernel)⟩
theorem lw_p6 : lw_okq (⟨"StormHarbours$Sea", "reckonBank", "(II)V"⟩, 15) := ⟨⟨by decide +kernel, by decide +kernel⟩, List.mem_of_getElem? (i := 62) (by decide +kernel), List.mem_of_getElem? (i := 406) (by decide +kernel), List.mem_of_getElem? (i := 407) (by decide +kernel)⟩
theorem lw_p7 : lw_okq (⟨"StormHarbours$Sea", "reckonArrivals", "(II)V"⟩, 15) := ⟨⟨by decide +kernel, by decide +kernel⟩, List.mem_of_getElem? (i := 62) (by decide +kernel), List.mem_of_getElem? (i := 415) (by decide +kernel), List.mem_of_getElem? (i := 416) (by decide +kernel)⟩
theorem lw_p8 : lw_okq (⟨"StormHarbours$Passage", "arrivalOf", "(IILStormHarbours$Plans;)I"⟩, 8) := ⟨⟨by decide +kernel, by decide +kernel⟩, List.mem_of_getElem? (i := 198) (by decide +kernel), List.mem_of_getElem? (i := 563) (by decide +kernel), List.mem_of_getElem? (i := 564) (by decide +kernel)⟩
theorem lw_p9 : lw_okq (⟨"StormHarbours$Passage", "putInOrder", "()V"⟩, 8) := ⟨⟨by decide +kernel, by decide +kernel⟩, List.mem_of_getElem? (i := 198) (by decide +kernel), List.mem_of_getElem? (i := 569) (by decide +kernel), List.mem_of_getElem? (i := 570) (by decide +kernel)⟩
theorem lw_p10 : lw_okq (⟨"StormHarbours$Passage", "goesAhead", "(II)Z"⟩, 8) := ⟨⟨by decide +kernel, by decide +kernel⟩, List.mem_of_getElem? (i := 198) (by decide +kernel), List.mem_of_getElem? (i := 573) (by decide +kernel), List.mem_of_getElem? (i := 574) (by decide +kernel)⟩
theorem lw_p11 : lw_okq (⟨"StormHarbours$Passage", "letIn", "(IILStormHarbours$Plans;)V"⟩, 8) := ⟨⟨by decide +kernel, by decide +kernel⟩, List.mem_of_getElem? (i := 198) (by decide +kernel), List.mem_of_getElem? (i := 577) (by decide +kernel), List.mem_of_getElem? (i := 578) (by decide +kernel)⟩
theorem lw_p12 : lw_okq (⟨"StormHarbours$Passage", "letInAt", "(IIILStormHarbours$Plans;)I"⟩, 8) := ⟨⟨by decide +kernel, by decide +kernel⟩, List.mem_of_getElem? (i := 198) (by decide +kernel), List.mem_of_getElem? (i := 583) (by decide +kernel), List.mem_of_getElem? (i := 584) (by decide +kernel)⟩
theorem lw_p13 : lw_okq (⟨"StormHarbours$Passage", "worthOfSort", "(IILStormHarbours$Plans;)J"⟩, 8) := ⟨⟨by decide +kernel, by decide +kernel⟩, List.mem_of_getElem? (i := 198) (by decide +kernel), List.mem_of_getElem? (i := 587) (by decide +kernel), List.mem_of_getElem? (i := 588) (by decide +kernel)⟩
theorem lw_p14 : lw_okq (⟨"StormHarbours", "worthByRule", "(II)J"⟩, 10) := ⟨⟨by decide +kernel, by decide +kernel⟩, List.mem_of_getElem? (i := 17) (by decide +kernel), List.mem_of_getElem? (i := 646) (by decide +kernel), List.mem_of_getElem? (i := 647) (by decide +kernel)⟩
theorem lw_p15 : lw_okq (⟨"StormHarbours$Rules", "runs", "(IIIILStormHarbours$Plans;)Z"⟩, 2) := ⟨⟨by decide +kernel, by decide +kernel⟩, List.mem_of_getElem? (i := 232) (by decide +kernel), List.mem_of_getElem? (i := 659) (by decide +kernel), List.mem_of_getElem? (i := 660) (by decide +kernel)⟩
def lw_privs_1 : List (MethodName × Nat) := [(⟨"StormHarbours$Text", "toBegin", "()V"⟩, 9), (⟨"StormHarbours$Text", "readItem", "()Z"⟩, 9), (⟨"StormHarbours$Text", "readNumber", "(II)Z"⟩, 9), (⟨"StormHarbours$Text", "isSound", "()Z"⟩, 9), (⟨"StormHarbours$Text", "tally", "()V"⟩, 9), (⟨"StormHarbours$Sea", "openHoursOf", "(II)I"⟩, 15), (⟨"StormHarbours$Sea", "reckonBank", "(II)V"⟩, 15), (⟨"StormHarbours$Sea", "reckonArrivals", "(II)V"⟩, 15), (⟨"StormHarbours$Passage", "arrivalOf", "(IILStormHarbours$Plans;)I"⟩, 8), (⟨"StormHarbours$Passage", "putInOrder", "()V"⟩, 8), (⟨"StormHarbours$Passage", "goesAhead", "(II)Z"⟩, 8), (⟨"StormHarbours$Passage", "letIn", "(IILStormHarbours$Plans;)V"⟩, 8), (⟨"StormHarbours$Passage", "letInAt", "(IIILStormHarbours$Plans;)I"⟩, 8), (⟨"StormHarbours$Passage", "worthOfSort", "(IILStormHarbours$Plans;)J"⟩, 8), (⟨"StormHarbours", "worthByRule", "(II)J"⟩, 10), (⟨"StormHarbours$Rules", "runs", "(IIIILStormHarbours$Plans;)Z"⟩, 2)]
theorem lw_r1 : ∀ q ∈ lw_privs_1, lw_okq q := List.forall_mem_cons.mpr ⟨lw_p0, List.forall_mem_cons.mpr ⟨lw_p1, List.forall_mem_cons.mpr ⟨lw_p2, List.forall_mem_cons.mpr ⟨lw_p3, List.forall_mem_cons.mpr ⟨lw_p4, List.forall_mem_cons.mpr ⟨lw_p5, List.forall_mem_cons.mpr ⟨lw_p6, List.forall_mem_cons.mpr ⟨lw_p7, List.forall_mem_cons.mpr ⟨lw_p8, List.forall_mem_cons.mpr ⟨lw_p9, List.forall_mem_cons.mpr ⟨lw_p10, List.forall_mem_cons.mpr ⟨lw_p11, List.forall_mem_cons.mpr ⟨lw_p12, List.forall_mem_cons.mpr ⟨lw_p13, List.forall_mem_cons.mpr ⟨lw_p14, List.forall_mem_cons.mpr ⟨lw_p15, fun _ h => absurd h List.not_mem_nil⟩⟩⟩⟩⟩⟩⟩⟩⟩⟩⟩⟩⟩⟩⟩⟩
theorem lw_p16 : lw_okq (⟨"StormHarbours$Rules", "boatsGone", "(ILStormHarbours$Plans;)I"⟩, 2) := ⟨⟨by decide +kernel, by decide +kernel⟩, List.mem_of_getElem? (i := 232) (by decide +kernel), List.mem_of_getElem? (i := 663) (by decide +kernel), List.mem_of_getElem? (i := 664) (by decide +kernel)⟩
theorem lw_p17 : lw_okq (⟨"StormHarbours$Rules", "likeliest", "(II)I"⟩, 2) := ⟨⟨by decide +kernel, by decide +kernel⟩, List.mem_of_getElem? (i := 232) (by decide +kernel), List.mem_of_getElem? (i := 667) (by decide +kernel), List.mem_of_getElem? (i := 668) (by decide +kernel)⟩
theorem lw_p18 : lw_okq (⟨"StormHarbours$Lone", "bestOfGroups", "(III)J"⟩, 1) := ⟨⟨by decide +kernel, by decide +kernel⟩, List.mem_of_getElem? (i := 245) (by decide +kernel), List.mem_of_getElem? (i := 690) (by decide +kernel), List.mem_of_getElem? (i := 691) (by decide +kernel)⟩
theorem lw_p19 : lw_okq (⟨"StormHarbours$Lone", "bestFrom", "(III)J"⟩, 1) := ⟨⟨by decide +kernel, by decide +kernel⟩, List.mem_of_getElem? (i := 245) (by decide +kernel), List.mem_of_getElem? (i := 695) (by decide +kernel), List.mem_of_getElem? (i := 696) (by decide +kernel)⟩
theorem lw_p20 : lw_okq (⟨"StormHarbours$Lone", "sumOfStaying", "(III)J"⟩, 1) := ⟨⟨by decide +kernel, by decide +kernel⟩, List.mem_of_getElem? (i := 245) (by decide +kernel), List.mem_of_getElem? (i := 699) (by decide +kernel), List.mem_of_getElem? (i := 700) (by decide +kernel)⟩
theorem lw_p21 : lw_okq (⟨"StormHarbours$Lone", "sumOfRunning", "(IIII)J"⟩, 1) := ⟨⟨by decide +kernel, by decide +kernel⟩, List.mem_of_getElem? (i := 245) (by decide +kernel), List.mem_of_getElem? (i := 704) (by decide +kernel), List.mem_of_getElem? (i := 705) (by decide +kernel)⟩
theorem lw_p22 : lw_okq (⟨"StormHarbours", "meanOfGun", "(I)J"⟩, 10) := ⟨⟨by decide +kernel, by decide +kernel⟩, List.mem_of_getElem? (i := 17) (by decide +kernel), List.mem_of_getElem? (i := 737) (by decide +kernel), List.mem_of_getElem? (i := 738) (by decide +kernel)⟩
theorem lw_p23 : lw_okq (⟨"StormHarboursModel", "begins", "(I)V"⟩, 21) := ⟨⟨by decide +kernel, by decide +kernel⟩, List.mem_of_getElem? (i := 799) (by decide +kernel), List.mem_of_getElem? (i := 805) (by decide +kernel), List.mem_of_getElem? (i := 806) (by decide +kernel)⟩
theorem lw_p24 : lw_okq (⟨"StormHarboursModel", "anew", "()V"⟩, 21) := ⟨⟨by decide +kernel, by decide +kernel⟩, List.mem_of_getElem? (i := 799) (by decide +kernel), List.mem_of_getElem? (i := 809) (by decide +kernel), List.mem_of_getElem? (i := 810) (by decide +kernel)⟩
theorem lw_p25 : lw_okq (⟨"StormHarboursModel", "reads", "()I"⟩, 21) := ⟨⟨by decide +kernel, by decide +kernel⟩, List.mem_of_getElem? (i := 799) (by decide +kernel), List.mem_of_getElem? (i := 894) (by decide +kernel), List.mem_of_getElem? (i := 895) (by decide +kernel)⟩
theorem lw_p26 : lw_okq (⟨"StormHarboursModel", "byteAt", "(I)I"⟩, 21) := ⟨⟨by decide +kernel, by decide +kernel⟩, List.mem_of_getElem? (i := 799) (by decide +kernel), List.mem_of_getElem? (i := 898) (by decide +kernel), List.mem_of_getElem? (i := 899) (by decide +kernel)⟩
theorem lw_p27 : lw_okq (⟨"StormHarboursModel", "readsItem", "(I)V"⟩, 21) := ⟨⟨by decide +kernel, by decide +kernel⟩, List.mem_of_getElem? (i := 799) (by decide +kernel), List.mem_of_getElem? (i := 902) (by decide +kernel), List.mem_of_getElem? (i := 903) (by decide +kernel)⟩
theorem lw_p28 : lw_okq (⟨"StormHarboursModel", "readsHarbour", "()V"⟩, 21) := ⟨⟨by decide +kernel, by decide +kernel⟩, List.mem_of_getElem? (i := 799) (by decide +kernel), List.mem_of_getElem? (i := 906) (by decide +kernel), List.mem_of_getElem? (i := 907) (by decide +kernel)⟩
theorem lw_p29 : lw_okq (⟨"StormHarboursModel", "draft", "(I)I"⟩, 21) := ⟨⟨by decide +kernel, by decide +kernel⟩, List.mem_of_getElem? (i := 799) (by decide +kernel), List.mem_of_getElem? (i := 910) (by decide +kernel), List.mem_of_getElem? (i := 911) (by decide +kernel)⟩
theorem lw_p30 : lw_okq (⟨"StormHarboursModel", "number", "(III)I"⟩, 21) := ⟨⟨by decide +kernel, by decide +kernel⟩, List.mem_of_getElem? (i := 799) (by decide +kernel), List.mem_of_getElem? (i := 914) (by decide +kernel), List.mem_of_getElem? (i := 915) (by decide +kernel)⟩
theorem lw_p31 : lw_okq (⟨"StormHarboursModel", "puts", "(II)V"⟩, 21) := ⟨⟨by decide +kernel, by decide +kernel⟩, List.mem_of_getElem? (i := 799) (by decide +kernel), List.mem_of_getElem? (i := 918) (by decide +kernel), List.mem_of_getElem? (i := 919) (by decide +kernel)⟩
def lw_privs_2 : List (MethodName × Nat) := [(⟨"StormHarbours$Rules", "boatsGone", "(ILStormHarbours$Plans;)I"⟩, 2), (⟨"StormHarbours$Rules", "likeliest", "(II)I"⟩, 2), (⟨"StormHarbours$Lone", "bestOfGroups", "(III)J"⟩, 1), (⟨"StormHarbours$Lone", "bestFrom", "(III)J"⟩, 1), (⟨"StormHarbours$Lone", "sumOfStaying", "(III)J"⟩, 1), (⟨"StormHarbours$Lone", "sumOfRunning", "(IIII)J"⟩, 1), (⟨"StormHarbours", "meanOfGun", "(I)J"⟩, 10), (⟨"StormHarboursModel", "begins", "(I)V"⟩, 21), (⟨"StormHarboursModel", "anew", "()V"⟩, 21), (⟨"StormHarboursModel", "reads", "()I"⟩, 21), (⟨"StormHarboursModel", "byteAt", "(I)I"⟩, 21), (⟨"StormHarboursModel", "readsItem", "(I)V"⟩, 21), (⟨"StormHarboursModel", "readsHarbour", "()V"⟩, 21), (⟨"StormHarboursModel", "draft", "(I)I"⟩, 21), (⟨"StormHarboursModel", "number", "(III)I"⟩, 21), (⟨"StormHarboursModel", "puts", "(II)V"⟩, 21)]
theorem lw_r2 : ∀ q ∈ lw_privs_2, lw_okq q := List.forall_mem_cons.mpr ⟨lw_p16, List.forall_mem_cons.mpr ⟨lw_p17, List.forall_mem_cons.mpr ⟨lw_p18, List.forall_mem_cons.mpr ⟨lw_p19, List.forall_mem_cons.mpr ⟨lw_p20, List.forall_mem_cons.mpr ⟨lw_p21, List.forall_mem_cons.mpr ⟨lw_p22, List.forall_mem_cons.mpr ⟨lw_p23, List.forall_mem_cons.mpr ⟨lw_p24, List.forall_mem_cons.mpr ⟨lw_p25, List.forall_mem_cons.mpr ⟨lw_p26, List.forall_mem_cons.mpr ⟨lw_p27, List.forall_mem_cons.mpr ⟨lw_p28, List.forall_mem_cons.mpr ⟨lw_p29, List.forall_mem_cons.mpr ⟨lw_p30, List.forall_mem_cons.mpr ⟨lw_p31, fun _ h => absurd h List.not_mem_nil⟩⟩⟩⟩⟩⟩⟩⟩⟩⟩⟩⟩⟩⟩⟩⟩
theorem lw_p32 : lw_okq (⟨"StormHarboursModel", "readsSort", "()V"⟩, 21) := ⟨⟨by decide +kernel, by decide +kernel⟩, List.mem_of_getElem? (i := 799) (by decide +kernel), List.mem_of_getElem? (i := 922) (by decide +kernel), List.mem_of_getElem? (i := 923) (by decide +kernel)⟩
theorem lw_p33 : lw_okq (⟨"StormHarboursModel", "readsStorm", "()V"⟩, 21) := ⟨⟨by decide +kernel, by decide +kernel⟩, List.mem_of_getElem? (i := 799) (by decide +kernel), List.mem_of_getElem? (i := 926) (by decide +kernel), List.mem_of_getElem? (i := 927) (by decide +kernel)⟩
theorem lw_p34 : lw_okq (⟨"StormHarboursModel", "isStorm", "(I)Z"⟩, 21) := ⟨⟨by decide +kernel, by decide +kernel⟩, List.mem_of_getElem? (i := 799) (by decide +kernel), List.mem_of_getElem? (i := 938) (by decide +kernel), List.mem_of_getElem? (i := 939) (by decide +kernel)⟩
theorem lw_p35 : lw_okq (⟨"StormHarboursModel", "strength", "(II)I"⟩, 21) := ⟨⟨by decide +kernel, by decide +kernel⟩, List.mem_of_getElem? (i := 799) (by decide +kernel), List.mem_of_getElem? (i := 942) (by decide +kernel), List.mem_of_getElem? (i := 943) (by decide +kernel)⟩
theorem lw_p36 : lw_okq (⟨"StormHarboursModel", "glass", "(II)I"⟩, 21) := ⟨⟨by decide +kernel, by decide +kernel⟩, List.mem_of_getElem? (i := 799) (by decide +kernel), List.mem_of_getElem? (i := 946) (by decide +kernel), List.mem_of_getElem? (i := 947) (by decide +kernel)⟩
theorem lw_p37 : lw_okq (⟨"StormHarboursModel", "isHarbour", "(I)Z"⟩, 21) := ⟨⟨by decide +kernel, by decide +kernel⟩, List.mem_of_getElem? (i := 799) (by decide +kernel), List.mem_of_getElem? (i := 954) (by decide +kernel), List.mem_of_getElem? (i := 955) (by decide +kernel)⟩
theorem lw_p38 : lw_okq (⟨"StormHarboursModel", "isOpen", "(III)Z"⟩, 21) := ⟨⟨by decide +kernel, by decide +kernel⟩, List.mem_of_getElem? (i := 799) (by decide +kernel), List.mem_of_getElem? (i := 958) (by decide +kernel), List.mem_of_getElem? (i := 959) (by decide +kernel)⟩
theorem lw_p39 : lw_okq (⟨"StormHarboursModel", "isSort", "(I)Z"⟩, 21) := ⟨⟨by decide +kernel, by decide +kernel⟩, List.mem_of_getElem? (i := 799) (by decide +kernel), List.mem_of_getElem? (i := 966) (by decide +kernel), List.mem_of_getElem? (i := 967) (by decide +kernel)⟩
theorem lw_p40 : lw_okq (⟨"StormHarboursModel", "riskOf", "(III)I"⟩, 21) := ⟨⟨by decide +kernel, by decide +kernel⟩, List.mem_of_getElem? (i := 799) (by decide +kernel), List.mem_of_getElem? (i := 970) (by decide +kernel), List.mem_of_getElem? (i := 971) (by decide +kernel)⟩
theorem lw_p41 : lw_okq (⟨"StormHarboursModel", "reachOf", "(IIII)I"⟩, 21) := ⟨⟨by decide +kernel, by decide +kernel⟩, List.mem_of_getElem? (i := 799) (by decide +kernel), List.mem_of_getElem? (i := 978) (by decide +kernel), List.mem_of_getElem? (i := 979) (by decide +kernel)⟩
theorem lw_p42 : lw_okq (⟨"StormHarboursModel", "away", "(II)I"⟩, 21) := ⟨⟨by decide +kernel, by decide +kernel⟩, List.mem_of_getElem? (i := 799) (by decide +kernel), List.mem_of_getElem? (i := 982) (by decide +kernel), List.mem_of_getElem? (i := 983) (by decide +kernel)⟩
theorem lw_p43 : lw_okq (⟨"StormHarboursModel", "madeBy", "(III)I"⟩, 21) := ⟨⟨by decide +kernel, by decide +kernel⟩, List.mem_of_getElem? (i := 799) (by decide +kernel), List.mem_of_getElem? (i := 986) (by decide +kernel), List.mem_of_getElem? (i := 987) (by decide +kernel)⟩
theorem lw_p44 : lw_okq (⟨"StormHarboursModel", "asPlanned", "()V"⟩, 21) := ⟨⟨by decide +kernel, by decide +kernel⟩, List.mem_of_getElem? (i := 799) (by decide +kernel), List.mem_of_getElem? (i := 999) (by decide +kernel), List.mem_of_getElem? (i := 1000) (by decide +kernel)⟩
theorem lw_p45 : lw_okq (⟨"StormHarboursModel", "goesBy", "(IZ)J"⟩, 21) := ⟨⟨by decide +kernel, by decide +kernel⟩, List.mem_of_getElem? (i := 799) (by decide +kernel), List.mem_of_getElem? (i := 1003) (by decide +kernel), List.mem_of_getElem? (i := 1004) (by decide +kernel)⟩
theorem lw_p46 : lw_okq (⟨"StormHarboursModel", "nextIn", "(IIIZ)I"⟩, 21) := ⟨⟨by decide +kernel, by decide +kernel⟩, List.mem_of_getElem? (i := 799) (by decide +kernel), List.mem_of_getElem? (i := 1008) (by decide +kernel), List.mem_of_getElem? (i := 1009) (by decide +kernel)⟩
theorem lw_p47 : lw_okq (⟨"StormHarboursModel", "weightOf", "(I)I"⟩, 21) := ⟨⟨by decide +kernel, by decide +kernel⟩, List.mem_of_getElem? (i := 799) (by decide +kernel), List.mem_of_getElem? (i := 1012) (by decide +kernel), List.mem_of_getElem? (i := 1013) (by decide +kernel)⟩
def lw_privs_3 : List (MethodName × Nat) := [(⟨"StormHarboursModel", "readsSort", "()V"⟩, 21), (⟨"StormHarboursModel", "readsStorm", "()V"⟩, 21), (⟨"StormHarboursModel", "isStorm", "(I)Z"⟩, 21), (⟨"StormHarboursModel", "strength", "(II)I"⟩, 21), (⟨"StormHarboursModel", "glass", "(II)I"⟩, 21), (⟨"StormHarboursModel", "isHarbour", "(I)Z"⟩, 21), (⟨"StormHarboursModel", "isOpen", "(III)Z"⟩, 21), (⟨"StormHarboursModel", "isSort", "(I)Z"⟩, 21), (⟨"StormHarboursModel", "riskOf", "(III)I"⟩, 21), (⟨"StormHarboursModel", "reachOf", "(IIII)I"⟩, 21), (⟨"StormHarboursModel", "away", "(II)I"⟩, 21), (⟨"StormHarboursModel", "madeBy", "(III)I"⟩, 21), (⟨"StormHarboursModel", "asPlanned", "()V"⟩, 21), (⟨"StormHarboursModel", "goesBy", "(IZ)J"⟩, 21), (⟨"StormHarboursModel", "nextIn", "(IIIZ)I"⟩, 21), (⟨"StormHarboursModel", "weightOf", "(I)I"⟩, 21)]
theorem lw_r3 : ∀ q ∈ lw_privs_3, lw_okq q := List.forall_mem_cons.mpr ⟨lw_p32, List.forall_mem_cons.mpr ⟨lw_p33, List.forall_mem_cons.mpr ⟨lw_p34, List.forall_mem_cons.mpr ⟨lw_p35, List.forall_mem_cons.mpr ⟨lw_p36, List.forall_mem_cons.mpr ⟨lw_p37, List.forall_mem_cons.mpr ⟨lw_p38, List.forall_mem_cons.mpr ⟨lw_p39, List.forall_mem_cons.mpr ⟨lw_p40, List.forall_mem_cons.mpr ⟨lw_p41, List.forall_mem_cons.mpr ⟨lw_p42, List.forall_mem_cons.mpr ⟨lw_p43, List.forall_mem_cons.mpr ⟨lw_p44, List.forall_mem_cons.mpr ⟨lw_p45, List.forall_mem_cons.mpr ⟨lw_p46, List.forall_mem_cons.mpr ⟨lw_p47, fun _ h => absurd h List.not_mem_nil⟩⟩⟩⟩⟩⟩⟩⟩⟩⟩⟩⟩⟩⟩⟩⟩
theorem lw_p48 : lw_okq (⟨"StormHarboursModel", "hour", "(III)V"⟩, 21) := ⟨⟨by decide +kernel, by decide +kernel⟩, List.mem_of_getElem? (i := 799) (by decide +kernel), List.mem_of_getElem? (i := 1016) (by decide +kernel), List.mem_of_getElem? (i := 1017) (by decide +kernel)⟩
theorem lw_p49 : lw_okq (⟨"StormHarboursModel", "boats", "()I"⟩, 21) := ⟨⟨by decide +kernel, by decide +kernel⟩, List.mem_of_getElem? (i := 799) (by decide +kernel), List.mem_of_getElem? (i := 1025) (by decide +kernel), List.mem_of_getElem? (i := 1026) (by decide +kernel)⟩
theorem lw_p50 : lw_okq (⟨"StormHarboursModel", "firstOf", "(I)I"⟩, 21) := ⟨⟨by decide +kernel, by decide +kernel⟩, List.mem_of_getElem? (i := 799) (by decide +kernel), List.mem_of_getElem? (i := 1033) (by decide +kernel), List.mem_of_getElem? (i := 1034) (by decide +kernel)⟩
theorem lw_p51 : lw_okq (⟨"StormHarboursModel", "meanOf", "(ZI)J"⟩, 21) := ⟨⟨by decide +kernel, by decide +kernel⟩, List.mem_of_getElem? (i := 799) (by decide +kernel), List.mem_of_getElem? (i := 1041) (by decide +kernel), List.mem_of_getElem? (i := 1042) (by decide +kernel)⟩
theorem lw_p52 : lw_okq (⟨"StormHarboursModel", "isThought", "(I)Z"⟩, 21) := ⟨⟨by decide +kernel, by decide +kernel⟩, List.mem_of_getElem? (i := 799) (by decide +kernel), List.mem_of_getElem? (i := 1045) (by decide +kernel), List.mem_of_getElem? (i := 1046) (by decide +kernel)⟩
theorem lw_p53 : lw_okq (⟨"StormHarboursModel", "tenths", "(I)I"⟩, 21) := ⟨⟨by decide +kernel, by decide +kernel⟩, List.mem_of_getElem? (i := 799) (by decide +kernel), List.mem_of_getElem? (i := 1049) (by decide +kernel), List.mem_of_getElem? (i := 1050) (by decide +kernel)⟩
theorem lw_p54 : lw_okq (⟨"StormHarboursModel", "ruled", "(II)V"⟩, 21) := ⟨⟨by decide +kernel, by decide +kernel⟩, List.mem_of_getElem? (i := 799) (by decide +kernel), List.mem_of_getElem? (i := 1076) (by decide +kernel), List.mem_of_getElem? (i := 1077) (by decide +kernel)⟩
theorem lw_p55 : lw_okq (⟨"StormHarboursModel", "openest", "(II)I"⟩, 21) := ⟨⟨by decide +kernel, by decide +kernel⟩, List.mem_of_getElem? (i := 799) (by decide +kernel), List.mem_of_getElem? (i := 1080) (by decide +kernel), List.mem_of_getElem? (i := 1081) (by decide +kernel)⟩
theorem lw_p56 : lw_okq (⟨"StormHarboursModel", "getsIn", "(III)I"⟩, 21) := ⟨⟨by decide +kernel, by decide +kernel⟩, List.mem_of_getElem? (i := 799) (by decide +kernel), List.mem_of_getElem? (i := 1084) (by decide +kernel), List.mem_of_getElem? (i := 1085) (by decide +kernel)⟩
theorem lw_p57 : lw_okq (⟨"StormHarboursModel", "nearest", "(I)I"⟩, 21) := ⟨⟨by decide +kernel, by decide +kernel⟩, List.mem_of_getElem? (i := 799) (by decide +kernel), List.mem_of_getElem? (i := 1088) (by decide +kernel), List.mem_of_getElem? (i := 1089) (by decide +kernel)⟩
theorem lw_p58 : lw_okq (⟨"StormHarboursModel", "laysAlone", "(I)V"⟩, 21) := ⟨⟨by decide +kernel, by decide +kernel⟩, List.mem_of_getElem? (i := 799) (by decide +kernel), List.mem_of_getElem? (i := 1100) (by decide +kernel), List.mem_of_getElem? (i := 1101) (by decide +kernel)⟩
theorem lw_p59 : lw_okq (⟨"StormHarboursModel", "wayOf", "(IIII)J"⟩, 21) := ⟨⟨by decide +kernel, by decide +kernel⟩, List.mem_of_getElem? (i := 799) (by decide +kernel), List.mem_of_getElem? (i := 1104) (by decide +kernel), List.mem_of_getElem? (i := 1105) (by decide +kernel)⟩
theorem lw_p60 : lw_okq (⟨"StormHarboursModel", "staying", "(II)J"⟩, 21) := ⟨⟨by decide +kernel, by decide +kernel⟩, List.mem_of_getElem? (i := 799) (by decide +kernel), List.mem_of_getElem? (i := 1108) (by decide +kernel), List.mem_of_getElem? (i := 1109) (by decide +kernel)⟩
theorem lw_p61 : lw_okq (⟨"StormHarboursModel", "running", "(III)J"⟩, 21) := ⟨⟨by decide +kernel, by decide +kernel⟩, List.mem_of_getElem? (i := 799) (by decide +kernel), List.mem_of_getElem? (i := 1112) (by decide +kernel), List.mem_of_getElem? (i := 1113) (by decide +kernel)⟩
theorem lw_p62 : lw_okq (⟨"StormHarboursModel", "seeing", "(II)J"⟩, 21) := ⟨⟨by decide +kernel, by decide +kernel⟩, List.mem_of_getElem? (i := 799) (by decide +kernel), List.mem_of_getElem? (i := 1116) (by decide +kernel), List.mem_of_getElem? (i := 1117) (by decide +kernel)⟩
theorem lw_p63 : lw_okq (⟨"StormHarboursModel", "betters", "(IZ)Z"⟩, 21) := ⟨⟨by decide +kernel, by decide +kernel⟩, List.mem_of_getElem? (i := 799) (by decide +kernel), List.mem_of_getElem? (i := 1128) (by decide +kernel), List.mem_of_getElem? (i := 1129) (by decide +kernel)⟩
def lw_privs_4 : List (MethodName × Nat) := [(⟨"StormHarboursModel", "hour", "(III)V"⟩, 21), (⟨"StormHarboursModel", "boats", "()I"⟩, 21), (⟨"StormHarboursModel", "firstOf", "(I)I"⟩, 21), (⟨"StormHarboursModel", "meanOf", "(ZI)J"⟩, 21), (⟨"StormHarboursModel", "isThought", "(I)Z"⟩, 21), (⟨"StormHarboursModel", "tenths", "(I)I"⟩, 21), (⟨"StormHarboursModel", "ruled", "(II)V"⟩, 21), (⟨"StormHarboursModel", "openest", "(II)I"⟩, 21), (⟨"StormHarboursModel", "getsIn", "(III)I"⟩, 21), (⟨"StormHarboursModel", "nearest", "(I)I"⟩, 21), (⟨"StormHarboursModel", "laysAlone", "(I)V"⟩, 21), (⟨"StormHarboursModel", "wayOf", "(IIII)J"⟩, 21), (⟨"StormHarboursModel", "staying", "(II)J"⟩, 21), (⟨"StormHarboursModel", "running", "(III)J"⟩, 21), (⟨"StormHarboursModel", "seeing", "(II)J"⟩, 21), (⟨"StormHarboursModel", "betters", "(IZ)Z"⟩, 21)]
theorem lw_r4 : ∀ q ∈ lw_privs_4, lw_okq q := List.forall_mem_cons.mpr ⟨lw_p48, List.forall_mem_cons.mpr ⟨lw_p49, List.forall_mem_cons.mpr ⟨lw_p50, List.forall_mem_cons.mpr ⟨lw_p51, List.forall_mem_cons.mpr ⟨lw_p52, List.forall_mem_cons.mpr ⟨lw_p53, List.forall_mem_cons.mpr ⟨lw_p54, List.forall_mem_cons.mpr ⟨lw_p55, List.forall_mem_cons.mpr ⟨lw_p56, List.forall_mem_cons.mpr ⟨lw_p57, List.forall_mem_cons.mpr ⟨lw_p58, List.forall_mem_cons.mpr ⟨lw_p59, List.forall_mem_cons.mpr ⟨lw_p60, List.forall_mem_cons.mpr ⟨lw_p61, List.forall_mem_cons.mpr ⟨lw_p62, List.forall_mem_cons.mpr ⟨lw_p63, fun _ h => absurd h List.not_mem_nil⟩⟩⟩⟩⟩⟩⟩⟩⟩⟩⟩⟩⟩⟩⟩⟩
theorem lw_p64 : lw_okq (⟨"StormHarboursModel", "gunAt", "(I)J"⟩, 21) := ⟨⟨by decide +kernel, by decide +kernel⟩, List.mem_of_getElem? (i := 799) (by decide +kernel), List.mem_of_getElem? (i := 1136) (by decide +kernel), List.mem_of_getElem? (i := 1137) (by decide +kernel)⟩
def lw_privs_5 : List (MethodName × Nat) := [(⟨"StormHarboursModel", "gunAt", "(I)J"⟩, 21)]
theorem lw_r5 : ∀ q ∈ lw_privs_5, lw_okq q := List.forall_mem_cons.mpr ⟨lw_p64, fun _ h => absurd h List.not_mem_nil⟩
def lw_privs : List (MethodName × Nat) := lw_privs_1 ++ (lw_privs_2 ++ (lw_privs_3 ++ (lw_privs_4 ++ (lw_privs_5))))
def lw_tbl : List Cond := k2_sels lw_privs ++ tables_1
theorem lw_privs_ok : ∀ q ∈ lw_privs, lw_okq q := by
  show ∀ q ∈ lw_privs_1 ++ (lw_privs_2 ++ (lw_privs_3 ++ (lw_privs_4 ++ (lw_privs_5)))), lw_okq q
  exact List.forall_mem_append.mpr ⟨lw_r1, List.forall_mem_append.mpr ⟨lw_r2, List.forall_mem_append.mpr ⟨lw_r3, List.forall_mem_append.mpr ⟨lw_r4, lw_r5⟩⟩⟩⟩
-- ===== end of PART A; then your names; then what follows =====
end
section
/-! ===== BEGIN words of one list among another's, by their places ===== -/
theorem goodIn_r {big : List Cond} (ws : List Cond) (ps : List Nat) (hp : ws = ps.filterMap (fun i => big[i]?)) (h : ws.all goodWord = true) : GoodIn big ws := by
  intro w hw
  have h1 := List.all_eq_true.mp h w hw
  rw [hp] at hw
  obtain ⟨i, -, hi⟩ := List.mem_filterMap.mp hw
  have hm : w ∈ big := by first | exact List.mem_of_getElem? hi | exact List.getElem?_mem hi
  exact ⟨hm, good_of_word h1⟩
theorem goodIn_app {big a b : List Cond} (ha : GoodIn big a) (hb : GoodIn big b) : GoodIn big (a ++ b) := fun w h => (List.mem_append.mp h).elim (ha w) (hb w)
theorem goodIn_ca {big a b : List Cond} {c : Cond} (ha : GoodIn big (c :: a)) (hb : GoodIn big b) : GoodIn big (c :: (a ++ b)) := fun w h => (List.mem_cons.mp h).elim (fun e => ha w (List.mem_cons.mpr (Or.inl e))) (fun h => (List.mem_append.mp h).elim (fun h => ha w (List.mem_cons.mpr (Or.inr h))) (hb w))
theorem goodIn_sub {big ws : List Cond} (hm : ∀ w ∈ ws, w ∈ big) (h : ws.all goodWord = true) : GoodIn big ws := fun w hw => ⟨hm w hw, good_of_word (List.all_eq_true.mp h w hw)⟩
/-! ===== END ===== -/

/-! ===== BEGIN new T[n][m]: the outer array a place, the inner ones among the pooled ===== -/
/-- f, but v at every address of l -/
def vr_up {α : Type} (f : Nat → α) (l : List Nat) (v : α) : Nat → α := fun a => if a ∈ l then v else f a
theorem vr_up_in {α : Type} {f : Nat → α} {l : List Nat} {v : α} {a : Nat} (h : a ∈ l) : vr_up f l v a = v := if_pos h
theorem vr_up_ne {α : Type} {f : Nat → α} {l : List Nat} {v : α} {a : Nat} (h : a ∉ l) : vr_up f l v a = f a := if_neg h
theorem vr_rows {L l : List Nat} {f : Nat → va_E} {e : va_E} (h : ∀ a, a ∈ l → a ∉ L) : va_pl L f ++ l.map (fun a => (a, e)) = va_pl (L ++ l) (vr_up f l e) := by
  unfold va_pl
  rw [List.map_append]
  congr 1
  · apply List.map_congr_left
    intro a ha
    rw [vr_up_ne (fun q => h a q ha)]
  · apply List.map_congr_left
    intro a ha
    rw [vr_up_in ha]
theorem vr_lay {X rows : va_W} {x : Nat × va_E} {pl : va_W} {D : va_G} {cl : List vw_C} {H : Heap} (hP : va_P D cl (((X ++ pl) ++ [x]) ++ rows) H) : va_P D cl ((X ++ [x]) ++ (pl ++ rows)) H := by
  rw [List.append_assoc (X ++ pl)] at hP
  have h := va_P.swap hP
  rw [← List.append_assoc X] at h
  have h2 := va_P.swap h
  rw [List.append_assoc (X ++ [x])] at h2
  exact h2
theorem vr_layD {X rows : va_W} {x : Nat × va_E} {pl : va_W} {A : Nat → Prop} (hD : va_D A (((X ++ pl) ++ [x]) ++ rows)) : va_D A ((X ++ [x]) ++ (pl ++ rows)) := by
  rw [List.append_assoc (X ++ pl)] at hD
  have h := va_D.swap hD
  rw [← List.append_assoc X] at h
  have h2 := va_D.swap h
  rw [List.append_assoc (X ++ [x])] at h2
  exact h2
theorem vr_outer (c : ClassId) (N h0 : Nat) : ∀ i : Nat, Jvm.Free.Multi.outerC c N h0 i = arrV c N (fun j => va_rf (if j < i then some (h0 + 1 + j) else none))
  | 0 => by
    show ({ cls := c, slots := Array.replicate N .null, vm := .none } : Cell) = _
    rw [arrV_new]
    refine congrArg (arrV c N) (funext fun j => ?_)
    simp [va_rf]
  | i + 1 => by
    show (Jvm.Free.Multi.outerC c N h0 i).setSlot i (.ref (h0 + 1 + i)) = _
    rw [vr_outer c N h0 i, arrV_store]
    refine congrArg (arrV c N) (funext fun j => ?_)
    by_cases e : j = i
    · subst e
      simp [updV, va_rf]
    · by_cases h : j < i
      · simp [updV, e, h, Nat.lt_succ_of_lt h]
      · simp [updV, e, h, show ¬ j < i + 1 by omega]
def va_AOA (ty : FieldType) (U : State) : Prop := (Cond.arrayOver (.array ty)).before #[] U = true
theorem va_AOA.use {ty : FieldType} {A : Array Value} {U : State} (h : va_AOA ty U) : (Cond.arrayOver (.array ty)).before A U = true := h
section VGM
variable {p : Program} {l : Launch} {e : Env} {R : Room} {s : State} {m : MethodId} {args : Array Value} {below : List Frame} {meth : Method} {c : Code} {H : Heap} {locs : List Loc} {cells slots : Nat} {Q : State → Prop}
variable {cc : ByteArray} {pc : Nat} {ls : Array Slot} {rest : List Value} {D : va_G} {cl : List vw_C} {A : Nat → Prop} {a : Nat} {tys : List (ClassId × FieldType)} {ws : va_W} {H0 : Heap}
theorem va_mna {X : va_W} {L : List Nat} {f : Nat → va_E} {cc : ByteArray} (hexec : p.tables.exec = Jvm.exec) (hb : c.code = cc) {own : String} {index : Nat} {ty : FieldType} {cy : ClassId} (hown : s.vm.findClass own = some m.cls) (hclink : (Cond.classLink own index ("[" ++ (FieldType.array ty).toString)).before args s = true) (hover : va_AOA ty s) (harr : (Cond.arrayClass ty).before args s = true) (hcy : s.vm.findClass (FieldType.array ty).toString = some cy)
    (hK : va_K D cl tys s) (hP : va_P D cl (X ++ va_pl L f) H) (hD : va_D A (X ++ va_pl L f)) (hS : va_S A H0 H locs) (hA : ∀ q, H0.size ≤ q → A q) {n k : Int32} {N' K' : Nat} {z : vp_A} (hn : ¬ n < 0) (hk : ¬ k < 0) (hN : n.toNatClampNeg = N') (hM : k.toNatClampNeg = K')
    (hb1 : N' * 4 ≤ 536870912) (hb2 : K' * componentBytes ty ≤ 536870912) (hb3 : K' ≤ 536870912) (hdf : fits ty (defaultValue ty) = true) (hdd : (defaultValue ty).isDefault = true) (hcells : cells + (1 + N') ≤ R.cells) (hslots : slots + (N' + N' * K') ≤ R.slots) (hz : ∀ c : ClassId, Jvm.Free.Multi.innerC c K' (defaultValue ty) = vp_cell c z) (hdg : decode cc pc = .ok (.multianewarray index 2, 4))
    (kk : ∀ (q : Nat) (r : Nat → Nat) (cA : ClassId) (H1 : Heap), (∀ i j : Nat, i < N' → j < N' → r i = r j → i = j) → (∀ i : Nat, i < N' → r i ∉ L) → va_K D cl (tys ++ [(cA, .array ty)]) s →
      va_P D cl ((X ++ [(q, .inl (cA, N', .inr (.inr (.inr (.inr (fun i => if i < N' then some (r i) else none))))))]) ++ va_pl (L ++ (List.range N').map r) (vr_up f ((List.range N').map r) (.inl (cy, z)))) H1 → va_D A ((X ++ [(q, .inl (cA, N', .inr (.inr (.inr (.inr (fun i => if i < N' then some (r i) else none))))))]) ++ va_pl (L ++ (List.range N').map r) (vr_up f ((List.range N').map r) (.inl (cy, z)))) → va_S A H0 H1 locs →
      W p l e R s m args below meth c H1 locs (cells + 1 + N') (slots + N' + N' * K') Q (F0 m (pc + 4) ls (.ref q :: rest))) : W p l e R s m args below meth c H locs cells slots Q (F0 m pc ls (.int k :: .int n :: rest)) := by
  subst hN
  subst hM
  intro T hT Xs
  obtain ⟨vm₁, cA, comp, -, fA, fC, hO, -, X', step⟩ := Xs.multianewarray2F hexec hown hclink (va_AOA.use hover) harr (g := F0 m pc ls (.int k :: .int n :: rest)) rfl (by rw [hb]; exact hdg) rfl hn hk hb1 hb2 hb3 hdf hdd hcells hslots
  have ec : some cy = some comp := hcy.symm.trans fC
  cases ec
  generalize hF : Jvm.Free.Multi.fill (T.setVm vm₁) cA cy n.toNatClampNeg k.toNatClampNeg (defaultValue ty) n.toNatClampNeg = F at X' step
  have hTh : (T.setVm vm₁).heap = H := hT
  obtain ⟨f1, f2, -, -⟩ := Jvm.Free.Multi.fill_facts (T.setVm vm₁) cA cy n.toNatClampNeg k.toNatClampNeg (defaultValue ty) n.toNatClampNeg
  rw [hF, hTh] at f1 f2
  have hold : ∀ x : Nat, x < H.size → F.heap[x]? = H[x]? := fun x hx => by
    have := Jvm.Free.Multi.fill_old (T.setVm vm₁) cA cy n.toNatClampNeg k.toNatClampNeg (defaultValue ty) (a := x) (by rw [hTh]; exact hx) n.toNatClampNeg
    rw [hF, hTh] at this
    exact this
  have hrow : ∀ j : Nat, j < n.toNatClampNeg → F.heap[H.size + 1 + j]? = some (vp_cell cy z) := fun j hj => by
    have := Jvm.Free.Multi.fill_inner (T.setVm vm₁) cA cy n.toNatClampNeg k.toNatClampNeg (defaultValue ty) n.toNatClampNeg j hj
    rw [hF, hTh, hz] at this
    exact this
  have hout : Jvm.Free.Multi.outerC cA n.toNatClampNeg H.size n.toNatClampNeg = vp_cell cA (n.toNatClampNeg, .inr (.inr (.inr (.inr (fun i => if i < n.toNatClampNeg then some (H.size + 1 + i) else none))))) := by
    rw [vp_cell_q]
    exact vr_outer cA n.toNatClampNeg H.size n.toNatClampNeg
  rw [hout] at f2
  have hlt : ∀ a, a ∈ L → a < H.size := fun a ha => by
    obtain ⟨k9, hk9⟩ := va_pl_get (X := X) (f := f) ha
    exact (hP k9 _ hk9).lt
  have hnl : ∀ i : Nat, i < n.toNatClampNeg → H.size + 1 + i ∉ L := fun i _ h => by
    have := hlt _ h
    omega
  have hnm : ∀ a, a ∈ (List.range n.toNatClampNeg).map (fun i => H.size + 1 + i) → a ∉ L := fun a ha h => by
    obtain ⟨i, -, rfl⟩ := List.mem_map.mp ha
    have := hlt _ h
    omega
  have hP0 : va_P D cl (X ++ va_pl L f) F.heap := hP.kept (fun k9 x hx => hold x.1 ((hP k9 x hx).lt))
  have hP1 : va_P D cl ((X ++ va_pl L f) ++ [(H.size, .inl (cA, n.toNatClampNeg, .inr (.inr (.inr (.inr (fun i => if i < n.toNatClampNeg then some (H.size + 1 + i) else none))))))]) F.heap := hP0.app (fun k9 x hx => by
    have h0 : k9 < 1 := (List.getElem?_eq_some_iff.mp hx).1
    rw [show k9 = 0 by omega] at hx
    cases hx
    exact f2)
  have hP2 : va_P D cl (((X ++ va_pl L f) ++ [(H.size, .inl (cA, n.toNatClampNeg, .inr (.inr (.inr (.inr (fun i => if i < n.toNatClampNeg then some (H.size + 1 + i) else none))))))]) ++ ((List.range n.toNatClampNeg).map (fun i => H.size + 1 + i)).map (fun a => (a, .inl (cy, z)))) F.heap := hP1.app (fun k9 x hx => by
    obtain ⟨a, ha, rfl⟩ := List.mem_map.mp (List.mem_of_getElem? hx)
    obtain ⟨i, hi, rfl⟩ := List.mem_map.mp ha
    exact hrow i (List.mem_range.mp hi))
  have hD2 : va_D A (((X ++ va_pl L f) ++ [(H.size, .inl (cA, n.toNatClampNeg, .inr (.inr (.inr (.inr (fun i => if i < n.toNatClampNeg then some (H.size + 1 + i) else none))))))]) ++ ((List.range n.toNatClampNeg).map (fun i => H.size + 1 + i)).map (fun a => (a, .inl (cy, z)))) := by
    have hD1 := hD.push (e := .inl (cA, n.toNatClampNeg, .inr (.inr (.inr (.inr (fun i => if i < n.toNatClampNeg then some (H.size + 1 + i) else none)))))) hP rfl (hA _ hS.1)
    generalize hW1 : (X ++ va_pl L f) ++ [(H.size, .inl (cA, n.toNatClampNeg, .inr (.inr (.inr (.inr (fun i => if i < n.toNatClampNeg then some (H.size + 1 + i) else none))))))] = W1 at hD1 hP1 ⊢
    have hle : ∀ (k9 : Nat) (x : Nat × va_E), W1[k9]? = some x → x.1 ≤ H.size := fun k9 x hx => by
      rw [← hW1] at hx
      by_cases hl : k9 < (X ++ va_pl L f).length
      · rw [List.getElem?_append_left hl] at hx
        exact Nat.le_of_lt ((hP k9 x hx).lt)
      · rw [List.getElem?_append_right (by omega)] at hx
        have h0 : k9 - (X ++ va_pl L f).length < 1 := (List.getElem?_eq_some_iff.mp hx).1
        rw [show k9 - (X ++ va_pl L f).length = 0 by omega] at hx
        cases hx
        exact Nat.le_refl _
    have hr : ∀ (k9 : Nat) (x : Nat × va_E), (((List.range n.toNatClampNeg).map (fun i => H.size + 1 + i)).map (fun a => ((a, .inl (cy, z)) : Nat × va_E)))[k9]? = some x → x.1 = H.size + 1 + k9 := fun k9 x hx => by
      rw [List.getElem?_map, List.getElem?_map] at hx
      by_cases h9 : k9 < n.toNatClampNeg
      · rw [List.getElem?_range h9] at hx
        cases hx
        rfl
      · have hn0 : (List.range n.toNatClampNeg)[k9]? = none := List.getElem?_eq_none (by rw [List.length_range]; omega)
        rw [hn0] at hx
        cases hx
    refine ⟨fun i j x y hi hj hxy => ?_, fun k9 x hx => ?_⟩
    · by_cases h1 : i < W1.length <;> by_cases h2 : j < W1.length
      · rw [List.getElem?_append_left h1] at hi
        rw [List.getElem?_append_left h2] at hj
        exact hD1.1 i j x y hi hj hxy
      · rw [List.getElem?_append_left h1] at hi
        rw [List.getElem?_append_right (by omega)] at hj
        have := hle _ _ hi
        have := hr _ _ hj
        omega
      · rw [List.getElem?_append_right (by omega)] at hi
        rw [List.getElem?_append_left h2] at hj
        have := hle _ _ hj
        have := hr _ _ hi
        omega
      · rw [List.getElem?_append_right (by omega)] at hi hj
        have := hr _ _ hi
        have := hr _ _ hj
        omega
    · by_cases h1 : k9 < W1.length
      · rw [List.getElem?_append_left h1] at hx
        exact hD1.2 k9 x hx
      · rw [List.getElem?_append_right (by omega)] at hx
        have := hr _ _ hx
        exact hA _ (by have := hS.1; omega)
  have hAr : ArrOfT s cA (.array ty) := fun N9 z9 => by
    obtain ⟨-, k9, hk9, cm9, hkk9⟩ := (hO 0 0 0).1
    exact ⟨(fun q hq => by cases hq), k9, hk9, cm9, hkk9⟩
  have hK2 : va_K D cl (tys ++ [(cA, .array ty)]) s := ⟨hK.1, fun k9 x hx => by
    by_cases hl : k9 < tys.length
    · rw [List.getElem?_append_left hl] at hx
      exact hK.2 k9 x hx
    · rw [List.getElem?_append_right (by omega)] at hx
      have h0 : k9 - tys.length < 1 := (List.getElem?_eq_some_iff.mp hx).1
      rw [show k9 - tys.length = 0 by omega] at hx
      cases hx
      exact ⟨hAr, fA⟩⟩
  obtain ⟨t, a1, b1⟩ := kk H.size (fun i => H.size + 1 + i) cA F.heap (fun i j _ _ h => by have h9 : H.size + 1 + i = H.size + 1 + j := h; omega) hnl hK2 (by rw [← vr_rows hnm]; exact vr_lay hP2) (by rw [← vr_rows hnm]; exact vr_layD hD2) ⟨by rw [f1]; have := hS.1; omega, fun x h1 h2 => (hold x (Nat.lt_of_lt_of_le h1 hS.1)).trans (hS.2.1 x h1 h2), hS.2.2⟩ F rfl X'
  refine ⟨t, step t ?_, b1⟩
  have e : T.heap.size = H.size := by rw [hT]
  rw [e]
  exact a1
end VGM
/-! ===== END ===== -/

/-! ===== BEGIN printed: names, fields, word lists, decode rows ===== -/
def RX0 : String := "StormHarbours$Council"
def TX0 : u_T := fun k => match k with
  | 0 => ("StormHarbours$Council", "sea", "LStormHarbours$Sea;", true)
  | 1 => ("StormHarbours$Council", "watch", "LStormHarbours$Watch;", true)
  | _ => ("StormHarbours$Council", "passage", "LStormHarbours$Passage;", true)
def tyX0 : Nat → FieldType := fun k => match k with
  | 0 => .object "StormHarbours$Sea"
  | 1 => .object "StormHarbours$Watch"
  | _ => .object "StormHarbours$Passage"
abbrev wsX00 : List Cond := u_ws RX0 TX0 3
theorem nmX0 : ∀ a, a < 3 → ∀ b, b < 3 → a ≠ b → (TX0 a).2.1 ≠ (TX0 b).2.1 := by decide +kernel
theorem tyX0_ok : ∀ k, k < 3 → parseFieldDescriptor (TX0 k).2.2.1 = some (tyX0 k) := by decide +kernel
abbrev cX0_init : ByteArray := prog_2_method_1_code
def yX0_init : MethodName := ⟨RX0, "<init>", "(LStormHarbours$Sea;LStormHarbours$Watch;LStormHarbours$Passage;)V"⟩
abbrev cX0_improves : ByteArray := prog_2_method_2_code
def yX0_improves : MethodName := ⟨RX0, "improves", "(II)Z"⟩
def RX1 : String := "StormHarbours$Lone"
def TX1 : u_T := fun k => match k with
  | _ => ("StormHarbours$Lone", "sea", "LStormHarbours$Sea;", true)
def tyX1 : Nat → FieldType := fun k => match k with
  | _ => .object "StormHarbours$Sea"
abbrev wsX10 : List Cond := u_ws RX1 TX1 1
theorem nmX1 : ∀ a, a < 1 → ∀ b, b < 1 → a ≠ b → (TX1 a).2.1 ≠ (TX1 b).2.1 := by decide +kernel
theorem tyX1_ok : ∀ k, k < 1 → parseFieldDescriptor (TX1 k).2.2.1 = some (tyX1 k) := by decide +kernel
abbrev cX1_init : ByteArray := prog_3_method_1_code
def yX1_init : MethodName := ⟨RX1, "<init>", "(LStormHarbours$Sea;)V"⟩
abbrev cX1_choice : ByteArray := prog_3_method_2_code
def yX1_choice : MethodName := ⟨RX1, "choice", "(III)I"⟩
abbrev cX1_bestOfGroups : ByteArray := prog_3_method_3_code
def yX1_bestOfGroups : MethodName := ⟨RX1, "bestOfGroups", "(III)J"⟩
abbrev cX1_bestFrom : ByteArray := prog_3_method_4_code
def yX1_bestFrom : MethodName := ⟨RX1, "bestFrom", "(III)J"⟩
abbrev cX1_sumOfStaying : ByteArray := prog_3_method_5_code
def yX1_sumOfStaying : MethodName := ⟨RX1, "sumOfStaying", "(III)J"⟩
abbrev cX1_sumOfRunning : ByteArray := prog_3_method_6_code
def yX1_sumOfRunning : MethodName := ⟨RX1, "sumOfRunning", "(IIII)J"⟩
def RX2 : String := "StormHarbours$Passage"
def TX2 : u_T := fun k => match k with
  | 0 => ("StormHarbours$Passage", "sea", "LStormHarbours$Sea;", true)
  | 1 => ("StormHarbours$Passage", "slowed", "I", false)
  | 2 => ("StormHarbours$Passage", "slowSpeed", "I", false)
  | 3 => ("StormHarbours$Passage", "dearFirst", "Z", false)
  | 4 => ("StormHarbours$Passage", "arrival", "[I", true)
  | 5 => ("StormHarbours$Passage", "order", "[I", true)
  | 6 => ("StormHarbours$Passage", "inside", "[I", true)
  | _ => ("StormHarbours$Passage", "entry", "[[I", true)
def tyX2 : Nat → FieldType := fun k => match k with
  | 0 => .object "StormHarbours$Sea"
  | 1 => .int
  | 2 => .int
  | 3 => .boolean
  | 4 => .array .int
  | 5 => .array .int
  | 6 => .array .int
  | _ => .array (.array .int)
abbrev wsX20 : List Cond := u_ws RX2 TX2 8
theorem nmX2 : ∀ a, a < 8 → ∀ b, b < 8 → a ≠ b → (TX2 a).2.1 ≠ (TX2 b).2.1 := by decide +kernel
theorem tyX2_ok : ∀ k, k < 8 → parseFieldDescriptor (TX2 k).2.2.1 = some (tyX2 k) := by decide +kernel
abbrev cX2_init : ByteArray := prog_4_method_1_code
def yX2_init : MethodName := ⟨RX2, "<init>", "(LStormHarbours$Sea;)V"⟩
abbrev cX2_asUsual : ByteArray := prog_4_method_2_code
def yX2_asUsual : MethodName := ⟨RX2, "asUsual", "()V"⟩
abbrev cX2_inConvoy : ByteArray := prog_4_method_3_code
def yX2_inConvoy : MethodName := ⟨RX2, "inConvoy", "(II)V"⟩
abbrev cX2_dearestFirst : ByteArray := prog_4_method_4_code
def yX2_dearestFirst : MethodName := ⟨RX2, "dearestFirst", "()V"⟩
abbrev cX2_meanOf : ByteArray := prog_4_method_5_code
def yX2_meanOf : MethodName := ⟨RX2, "meanOf", "(LStormHarbours$Plans;II)J"⟩
abbrev cX2_worthOf : ByteArray := prog_4_method_6_code
def yX2_worthOf : MethodName := ⟨RX2, "worthOf", "(ILStormHarbours$Plans;I)J"⟩
abbrev cX2_worthOfSort : ByteArray := prog_4_method_7_code
def yX2_worthOfSort : MethodName := ⟨RX2, "worthOfSort", "(IILStormHarbours$Plans;)J"⟩
abbrev cX2_sail : ByteArray := prog_4_method_8_code
def yX2_sail : MethodName := ⟨RX2, "sail", "(ILStormHarbours$Plans;)V"⟩
abbrev cX2_arrivalOf : ByteArray := prog_4_method_9_code
def yX2_arrivalOf : MethodName := ⟨RX2, "arrivalOf", "(IILStormHarbours$Plans;)I"⟩
abbrev cX2_putInOrder : ByteArray := prog_4_method_10_code
def yX2_putInOrder : MethodName := ⟨RX2, "putInOrder", "()V"⟩
abbrev cX2_goesAhead : ByteArray := prog_4_method_11_code
def yX2_goesAhead : MethodName := ⟨RX2, "goesAhead", "(II)Z"⟩
abbrev cX2_letIn : ByteArray := prog_4_method_12_code
def yX2_letIn : MethodName := ⟨RX2, "letIn", "(IILStormHarbours$Plans;)V"⟩
abbrev cX2_letInAt : ByteArray := prog_4_method_13_code
def yX2_letInAt : MethodName := ⟨RX2, "letInAt", "(IIILStormHarbours$Plans;)I"⟩
def RX3 : String := "StormHarbours$Plans"
def TX3 : u_T := fun k => match k with
  | 0 => ("StormHarbours$Plans", "hour", "[I", true)
  | _ => ("StormHarbours$Plans", "harbour", "[I", true)
def tyX3 : Nat → FieldType := fun k => match k with
  | 0 => .array .int
  | _ => .array .int
abbrev wsX30 : List Cond := u_ws RX3 TX3 2
theorem nmX3 : ∀ a, a < 2 → ∀ b, b < 2 → a ≠ b → (TX3 a).2.1 ≠ (TX3 b).2.1 := by decide +kernel
theorem tyX3_ok : ∀ k, k < 2 → parseFieldDescriptor (TX3 k).2.2.1 = some (tyX3 k) := by decide +kernel
abbrev cX3_init : ByteArray := prog_5_method_1_code
def yX3_init : MethodName := ⟨RX3, "<init>", "()V"⟩
abbrev cX3_send : ByteArray := prog_5_method_2_code
def yX3_send : MethodName := ⟨RX3, "send", "(III)V"⟩
abbrev cX3_stayAll : ByteArray := prog_5_method_3_code
def yX3_stayAll : MethodName := ⟨RX3, "stayAll", "()V"⟩
abbrev cX3_copyFrom : ByteArray := prog_5_method_4_code
def yX3_copyFrom : MethodName := ⟨RX3, "copyFrom", "(LStormHarbours$Plans;)V"⟩
abbrev cX3_told : ByteArray := prog_5_method_5_code
def yX3_told : MethodName := ⟨RX3, "told", "(I)I"⟩
def RX4 : String := "StormHarbours$Rules"
def TX4 : u_T := fun k => match k with
  | 0 => ("StormHarbours$Rules", "sea", "LStormHarbours$Sea;", true)
  | _ => ("StormHarbours$Rules", "watch", "LStormHarbours$Watch;", true)
def tyX4 : Nat → FieldType := fun k => match k with
  | 0 => .object "StormHarbours$Sea"
  | _ => .object "StormHarbours$Watch"
abbrev wsX40 : List Cond := u_ws RX4 TX4 2
theorem nmX4 : ∀ a, a < 2 → ∀ b, b < 2 → a ≠ b → (TX4 a).2.1 ≠ (TX4 b).2.1 := by decide +kernel
theorem tyX4_ok : ∀ k, k < 2 → parseFieldDescriptor (TX4 k).2.2.1 = some (tyX4 k) := by decide +kernel
abbrev cX4_init : ByteArray := prog_6_method_1_code
def yX4_init : MethodName := ⟨RX4, "<init>", "(LStormHarbours$Sea;LStormHarbours$Watch;)V"⟩
abbrev cX4_follow : ByteArray := prog_6_method_2_code
def yX4_follow : MethodName := ⟨RX4, "follow", "(IILStormHarbours$Plans;)V"⟩
abbrev cX4_runs : ByteArray := prog_6_method_3_code
def yX4_runs : MethodName := ⟨RX4, "runs", "(IIIILStormHarbours$Plans;)Z"⟩
abbrev cX4_boatsGone : ByteArray := prog_6_method_4_code
def yX4_boatsGone : MethodName := ⟨RX4, "boatsGone", "(ILStormHarbours$Plans;)I"⟩
abbrev cX4_likeliest : ByteArray := prog_6_method_5_code
def yX4_likeliest : MethodName := ⟨RX4, "likeliest", "(II)I"⟩
def RX5 : String := "StormHarbours$Sea"
def TX5 : u_T := fun k => match k with
  | 0 => ("StormHarbours$Sea", "harbourCount", "I", false)
  | 1 => ("StormHarbours$Sea", "sortCount", "I", false)
  | 2 => ("StormHarbours$Sea", "stormCount", "I", false)
  | 3 => ("StormHarbours$Sea", "harbours", "[[I", true)
  | 4 => ("StormHarbours$Sea", "sorts", "[[I", true)
  | 5 => ("StormHarbours$Sea", "storms", "[[I", true)
  | 6 => ("StormHarbours$Sea", "miles", "[[I", true)
  | 7 => ("StormHarbours$Sea", "glass", "[[I", true)
  | 8 => ("StormHarbours$Sea", "loss", "[I", true)
  | 9 => ("StormHarbours$Sea", "slow", "I", false)
  | 10 => ("StormHarbours$Sea", "strength", "[[I", true)
  | 11 => ("StormHarbours$Sea", "openHours", "[[I", true)
  | 12 => ("StormHarbours$Sea", "alive", "[[I", true)
  | 13 => ("StormHarbours$Sea", "fished", "[[J", true)
  | _ => ("StormHarbours$Sea", "arrivals", "[[I", true)
def tyX5 : Nat → FieldType := fun k => match k with
  | 0 => .int
  | 1 => .int
  | 2 => .int
  | 3 => .array (.array .int)
  | 4 => .array (.array .int)
  | 5 => .array (.array .int)
  | 6 => .array (.array .int)
  | 7 => .array (.array .int)
  | 8 => .array .int
  | 9 => .int
  | 10 => .array (.array .int)
  | 11 => .array (.array .int)
  | 12 => .array (.array .int)
  | 13 => .array (.array .long)
  | _ => .array (.array .int)
abbrev wsX50 : List Cond := u_ws RX5 TX5 15
theorem nmX5 : ∀ a, a < 15 → ∀ b, b < 15 → a ≠ b → (TX5 a).2.1 ≠ (TX5 b).2.1 := by decide +kernel
theorem tyX5_ok : ∀ k, k < 15 → parseFieldDescriptor (TX5 k).2.2.1 = some (tyX5 k) := by decide +kernel
abbrev cX5_init : ByteArray := prog_7_method_1_code
def yX5_init : MethodName := ⟨RX5, "<init>", "()V"⟩
abbrev cX5_clear : ByteArray := prog_7_method_2_code
def yX5_clear : MethodName := ⟨RX5, "clear", "()V"⟩
abbrev cX5_take : ByteArray := prog_7_method_3_code
def yX5_take : MethodName := ⟨RX5, "take", "(I[I)V"⟩
abbrev cX5_copyRow : ByteArray := prog_7_method_4_code
def yX5_copyRow : MethodName := ⟨RX5, "copyRow", "([I[I)V"⟩
abbrev cX5_reckon : ByteArray := prog_7_method_5_code
def yX5_reckon : MethodName := ⟨RX5, "reckon", "()V"⟩
abbrev cX5_strengthOf : ByteArray := prog_7_method_6_code
def yX5_strengthOf : MethodName := ⟨RX5, "strengthOf", "([II)I"⟩
abbrev cX5_openHoursOf : ByteArray := prog_7_method_7_code
def yX5_openHoursOf : MethodName := ⟨RX5, "openHoursOf", "(II)I"⟩
abbrev cX5_reckonBank : ByteArray := prog_7_method_8_code
def yX5_reckonBank : MethodName := ⟨RX5, "reckonBank", "(II)V"⟩
abbrev cX5_reckonArrivals : ByteArray := prog_7_method_9_code
def yX5_reckonArrivals : MethodName := ⟨RX5, "reckonArrivals", "(II)V"⟩
abbrev cX5_arrivalAt : ByteArray := prog_7_method_10_code
def yX5_arrivalAt : MethodName := ⟨RX5, "arrivalAt", "(IIII)I"⟩
abbrev cX5_arrival : ByteArray := prog_7_method_11_code
def yX5_arrival : MethodName := ⟨RX5, "arrival", "(IIII)I"⟩
abbrev cX5_entryAlone : ByteArray := prog_7_method_12_code
def yX5_entryAlone : MethodName := ⟨RX5, "entryAlone", "(IIII)I"⟩
abbrev cX5_aliveAt : ByteArray := prog_7_method_13_code
def yX5_aliveAt : MethodName := ⟨RX5, "aliveAt", "(III)I"⟩
abbrev cX5_fishedTill : ByteArray := prog_7_method_14_code
def yX5_fishedTill : MethodName := ⟨RX5, "fishedTill", "(III)J"⟩
abbrev cX5_isOpen : ByteArray := prog_7_method_15_code
def yX5_isOpen : MethodName := ⟨RX5, "isOpen", "(III)Z"⟩
abbrev cX5_riskOf : ByteArray := prog_7_method_16_code
def yX5_riskOf : MethodName := ⟨RX5, "riskOf", "(III)I"⟩
abbrev cX5_nearest : ByteArray := prog_7_method_17_code
def yX5_nearest : MethodName := ⟨RX5, "nearest", "(I)I"⟩
abbrev cX5_leastSpeed : ByteArray := prog_7_method_18_code
def yX5_leastSpeed : MethodName := ⟨RX5, "leastSpeed", "(I)I"⟩
abbrev cX5_allBoats : ByteArray := prog_7_method_19_code
def yX5_allBoats : MethodName := ⟨RX5, "allBoats", "()I"⟩
abbrev cX5_allSorts : ByteArray := prog_7_method_20_code
def yX5_allSorts : MethodName := ⟨RX5, "allSorts", "()I"⟩
abbrev cX5_allStorms : ByteArray := prog_7_method_21_code
def yX5_allStorms : MethodName := ⟨RX5, "allStorms", "()I"⟩
abbrev cX5_telling : ByteArray := prog_7_method_22_code
def yX5_telling : MethodName := ⟨RX5, "telling", "(III)I"⟩
abbrev cX5_drawnBy : ByteArray := prog_7_method_23_code
def yX5_drawnBy : MethodName := ⟨RX5, "drawnBy", "(I)I"⟩
abbrev cX5_isHarbour : ByteArray := prog_7_method_24_code
def yX5_isHarbour : MethodName := ⟨RX5, "isHarbour", "(I)Z"⟩
abbrev cX5_isSort : ByteArray := prog_7_method_25_code
def yX5_isSort : MethodName := ⟨RX5, "isSort", "(I)Z"⟩
abbrev cX5_isStorm : ByteArray := prog_7_method_26_code
def yX5_isStorm : MethodName := ⟨RX5, "isStorm", "(I)Z"⟩
def RX6 : String := "StormHarbours$Text"
def TX6 : u_T := fun k => match k with
  | 0 => ("StormHarbours$Text", "bytes", "[B", true)
  | 1 => ("StormHarbours$Text", "length", "I", false)
  | 2 => ("StormHarbours$Text", "at", "I", false)
  | 3 => ("StormHarbours$Text", "letter", "I", false)
  | 4 => ("StormHarbours$Text", "numbers", "[I", true)
  | 5 => ("StormHarbours$Text", "harbours", "I", false)
  | 6 => ("StormHarbours$Text", "sorts", "I", false)
  | 7 => ("StormHarbours$Text", "storms", "I", false)
  | _ => ("StormHarbours$Text", "tenths", "I", false)
def tyX6 : Nat → FieldType := fun k => match k with
  | 0 => .array .byte
  | 1 => .int
  | 2 => .int
  | 3 => .int
  | 4 => .array .int
  | 5 => .int
  | 6 => .int
  | 7 => .int
  | _ => .int
abbrev wsX60 : List Cond := u_ws RX6 TX6 9
theorem nmX6 : ∀ a, a < 9 → ∀ b, b < 9 → a ≠ b → (TX6 a).2.1 ≠ (TX6 b).2.1 := by decide +kernel
theorem tyX6_ok : ∀ k, k < 9 → parseFieldDescriptor (TX6 k).2.2.1 = some (tyX6 k) := by decide +kernel
abbrev cX6_init : ByteArray := prog_8_method_1_code
def yX6_init : MethodName := ⟨RX6, "<init>", "()V"⟩
abbrev cX6_append : ByteArray := prog_8_method_2_code
def yX6_append : MethodName := ⟨RX6, "append", "(B)V"⟩
abbrev cX6_clear : ByteArray := prog_8_method_3_code
def yX6_clear : MethodName := ⟨RX6, "clear", "()V"⟩
abbrev cX6_firstFault : ByteArray := prog_8_method_4_code
def yX6_firstFault : MethodName := ⟨RX6, "firstFault", "()I"⟩
abbrev cX6_isWhole : ByteArray := prog_8_method_5_code
def yX6_isWhole : MethodName := ⟨RX6, "isWhole", "()Z"⟩
abbrev cX6_fill : ByteArray := prog_8_method_6_code
def yX6_fill : MethodName := ⟨RX6, "fill", "(LStormHarbours$Sea;)V"⟩
abbrev cX6_toBegin : ByteArray := prog_8_method_7_code
def yX6_toBegin : MethodName := ⟨RX6, "toBegin", "()V"⟩
abbrev cX6_readItem : ByteArray := prog_8_method_8_code
def yX6_readItem : MethodName := ⟨RX6, "readItem", "()Z"⟩
abbrev cX6_readNumber : ByteArray := prog_8_method_9_code
def yX6_readNumber : MethodName := ⟨RX6, "readNumber", "(II)Z"⟩
abbrev cX6_isSound : ByteArray := prog_8_method_10_code
def yX6_isSound : MethodName := ⟨RX6, "isSound", "()Z"⟩
abbrev cX6_tally : ByteArray := prog_8_method_11_code
def yX6_tally : MethodName := ⟨RX6, "tally", "()V"⟩
abbrev cX6_limitsOf : ByteArray := prog_8_method_12_code
def yX6_limitsOf : MethodName := ⟨RX6, "limitsOf", "(I)[I"⟩
def RX7 : String := "StormHarbours$Watch"
def TX7 : u_T := fun k => match k with
  | 0 => ("StormHarbours$Watch", "plans", "LStormHarbours$Plans;", true)
  | 1 => ("StormHarbours$Watch", "glassAt", "I", false)
  | 2 => ("StormHarbours$Watch", "herdAt", "I", false)
  | 3 => ("StormHarbours$Watch", "hour", "I", false)
  | _ => ("StormHarbours$Watch", "thought", "I", false)
def tyX7 : Nat → FieldType := fun k => match k with
  | 0 => .object "StormHarbours$Plans"
  | 1 => .int
  | 2 => .int
  | 3 => .int
  | _ => .int
abbrev wsX70 : List Cond := u_ws RX7 TX7 5
theorem nmX7 : ∀ a, a < 5 → ∀ b, b < 5 → a ≠ b → (TX7 a).2.1 ≠ (TX7 b).2.1 := by decide +kernel
theorem tyX7_ok : ∀ k, k < 5 → parseFieldDescriptor (TX7 k).2.2.1 = some (tyX7 k) := by decide +kernel
abbrev cX7_init : ByteArray := prog_9_method_1_code
def yX7_init : MethodName := ⟨RX7, "<init>", "()V"⟩
abbrev cX7_begin : ByteArray := prog_9_method_2_code
def yX7_begin : MethodName := ⟨RX7, "begin", "(I)V"⟩
abbrev cX7_copyFrom : ByteArray := prog_9_method_3_code
def yX7_copyFrom : MethodName := ⟨RX7, "copyFrom", "(LStormHarbours$Watch;)V"⟩
def RX8 : String := "StormHarbours"
def TX8 : u_T := fun k => match k with
  | 0 => ("StormHarbours", "text", "LStormHarbours$Text;", true)
  | 1 => ("StormHarbours", "sea", "LStormHarbours$Sea;", true)
  | 2 => ("StormHarbours", "watch", "LStormHarbours$Watch;", true)
  | 3 => ("StormHarbours", "kept", "[LStormHarbours$Watch;", true)
  | 4 => ("StormHarbours", "keptCount", "I", false)
  | 5 => ("StormHarbours", "passage", "LStormHarbours$Passage;", true)
  | 6 => ("StormHarbours", "rules", "LStormHarbours$Rules;", true)
  | 7 => ("StormHarbours", "lone", "LStormHarbours$Lone;", true)
  | 8 => ("StormHarbours", "council", "LStormHarbours$Council;", true)
  | _ => ("StormHarbours", "trial", "LStormHarbours$Plans;", true)
def tyX8 : Nat → FieldType := fun k => match k with
  | 0 => .object "StormHarbours$Text"
  | 1 => .object "StormHarbours$Sea"
  | 2 => .object "StormHarbours$Watch"
  | 3 => .array (.object "StormHarbours$Watch")
  | 4 => .int
  | 5 => .object "StormHarbours$Passage"
  | 6 => .object "StormHarbours$Rules"
  | 7 => .object "StormHarbours$Lone"
  | 8 => .object "StormHarbours$Council"
  | _ => .object "StormHarbours$Plans"
abbrev wsX80 : List Cond := u_ws RX8 TX8 10
theorem nmX8 : ∀ a, a < 10 → ∀ b, b < 10 → a ≠ b → (TX8 a).2.1 ≠ (TX8 b).2.1 := by decide +kernel
theorem tyX8_ok : ∀ k, k < 10 → parseFieldDescriptor (TX8 k).2.2.1 = some (tyX8 k) := by decide +kernel
abbrev cX8_init : ByteArray := prog_1_method_1_code
def yX8_init : MethodName := ⟨RX8, "<init>", "()V"⟩
abbrev cX8_write : ByteArray := prog_1_method_2_code
def yX8_write : MethodName := ⟨RX8, "write", "(IJ)I"⟩
abbrev cX8_wipe : ByteArray := prog_1_method_3_code
def yX8_wipe : MethodName := ⟨RX8, "wipe", "()I"⟩
abbrev cX8_fault : ByteArray := prog_1_method_4_code
def yX8_fault : MethodName := ⟨RX8, "fault", "()I"⟩
abbrev cX8_lay : ByteArray := prog_1_method_5_code
def yX8_lay : MethodName := ⟨RX8, "lay", "()I"⟩
abbrev cX8_storm : ByteArray := prog_1_method_6_code
def yX8_storm : MethodName := ⟨RX8, "storm", "(III)I"⟩
abbrev cX8_open : ByteArray := prog_1_method_7_code
def yX8_open : MethodName := ⟨RX8, "open", "(III)I"⟩
abbrev cX8_risk : ByteArray := prog_1_method_8_code
def yX8_risk : MethodName := ⟨RX8, "risk", "(III)I"⟩
abbrev cX8_reach : ByteArray := prog_1_method_9_code
def yX8_reach : MethodName := ⟨RX8, "reach", "(IIII)I"⟩
abbrev cX8_plan : ByteArray := prog_1_method_10_code
def yX8_plan : MethodName := ⟨RX8, "plan", "(III)I"⟩
abbrev cX8_value : ByteArray := prog_1_method_11_code
def yX8_value : MethodName := ⟨RX8, "value", "(I)J"⟩
abbrev cX8_in : ByteArray := prog_1_method_12_code
def yX8_in : MethodName := ⟨RX8, "in", "(II)I"⟩
abbrev cX8_lives : ByteArray := prog_1_method_13_code
def yX8_lives : MethodName := ⟨RX8, "lives", "(III)I"⟩
abbrev cX8_mean : ByteArray := prog_1_method_14_code
def yX8_mean : MethodName := ⟨RX8, "mean", "()J"⟩
abbrev cX8_shut : ByteArray := prog_1_method_15_code
def yX8_shut : MethodName := ⟨RX8, "shut", "(I)I"⟩
abbrev cX8_sign : ByteArray := prog_1_method_16_code
def yX8_sign : MethodName := ⟨RX8, "sign", "(I)I"⟩
abbrev cX8_now : ByteArray := prog_1_method_17_code
def yX8_now : MethodName := ⟨RX8, "now", "(I)I"⟩
abbrev cX8_set : ByteArray := prog_1_method_18_code
def yX8_set : MethodName := ⟨RX8, "set", "(II)I"⟩
abbrev cX8_by : ByteArray := prog_1_method_19_code
def yX8_by : MethodName := ⟨RX8, "by", "(I)J"⟩
abbrev cX8_ran : ByteArray := prog_1_method_20_code
def yX8_ran : MethodName := ⟨RX8, "ran", "(III)I"⟩
abbrev cX8_alone : ByteArray := prog_1_method_21_code
def yX8_alone : MethodName := ⟨RX8, "alone", "(I)J"⟩
abbrev cX8_does : ByteArray := prog_1_method_22_code
def yX8_does : MethodName := ⟨RX8, "does", "(III)I"⟩
abbrev cX8_better : ByteArray := prog_1_method_23_code
def yX8_better : MethodName := ⟨RX8, "better", "(Z)I"⟩
abbrev cX8_gun : ByteArray := prog_1_method_24_code
def yX8_gun : MethodName := ⟨RX8, "gun", "(I)J"⟩
abbrev cX8_bestGun : ByteArray := prog_1_method_25_code
def yX8_bestGun : MethodName := ⟨RX8, "bestGun", "()I"⟩
abbrev cX8_convoy : ByteArray := prog_1_method_26_code
def yX8_convoy : MethodName := ⟨RX8, "convoy", "(III)J"⟩
abbrev cX8_first : ByteArray := prog_1_method_27_code
def yX8_first : MethodName := ⟨RX8, "first", "()J"⟩
abbrev cX8_night : ByteArray := prog_1_method_28_code
def yX8_night : MethodName := ⟨RX8, "night", "(III)J"⟩
abbrev cX8_keep : ByteArray := prog_1_method_29_code
def yX8_keep : MethodName := ⟨RX8, "keep", "()I"⟩
abbrev cX8_back : ByteArray := prog_1_method_30_code
def yX8_back : MethodName := ⟨RX8, "back", "()I"⟩
abbrev cX8_count : ByteArray := prog_1_method_31_code
def yX8_count : MethodName := ⟨RX8, "count", "(I)I"⟩
abbrev cX8_worthByRule : ByteArray := prog_1_method_32_code
def yX8_worthByRule : MethodName := ⟨RX8, "worthByRule", "(II)J"⟩
abbrev cX8_meanOfGun : ByteArray := prog_1_method_33_code
def yX8_meanOfGun : MethodName := ⟨RX8, "meanOfGun", "(I)J"⟩
abbrev cX8_isHour : ByteArray := prog_1_method_34_code
def yX8_isHour : MethodName := ⟨RX8, "isHour", "(I)Z"⟩
abbrev cX8_isHourOrNever : ByteArray := prog_1_method_35_code
def yX8_isHourOrNever : MethodName := ⟨RX8, "isHourOrNever", "(I)Z"⟩
abbrev cX8_isRule : ByteArray := prog_1_method_36_code
def yX8_isRule : MethodName := ⟨RX8, "isRule", "(I)Z"⟩
def RX9 : String := "StormHarboursModel"
def TX9 : u_T := fun k => match k with
  | 0 => ("StormHarboursModel", "thrown", "I", false)
  | 1 => ("StormHarboursModel", "sea", "[I", true)
  | 2 => ("StormHarboursModel", "now", "[I", true)
  | 3 => ("StormHarboursModel", "kept", "[I", true)
  | 4 => ("StormHarboursModel", "keptMany", "I", false)
  | 5 => ("StormHarboursModel", "text", "[I", true)
  | 6 => ("StormHarboursModel", "typed", "I", false)
  | 7 => ("StormHarboursModel", "at", "I", false)
  | 8 => ("StormHarboursModel", "isWell", "Z", false)
  | 9 => ("StormHarboursModel", "hours", "[I", true)
  | 10 => ("StormHarboursModel", "goals", "[I", true)
  | 11 => ("StormHarboursModel", "speeds", "[I", true)
  | 12 => ("StormHarboursModel", "boatSort", "[I", true)
  | 13 => ("StormHarboursModel", "came", "[I", true)
  | 14 => ("StormHarboursModel", "miles", "[I", true)
  | 15 => ("StormHarboursModel", "lives", "[I", true)
  | 16 => ("StormHarboursModel", "isSafe", "[Z", true)
  | 17 => ("StormHarboursModel", "inside", "[I", true)
  | 18 => ("StormHarboursModel", "valueOf", "[J", true)
  | 19 => ("StormHarboursModel", "ways", "[J", true)
  | _ => ("StormHarboursModel", "bests", "[J", true)
def tyX9 : Nat → FieldType := fun k => match k with
  | 0 => .int
  | 1 => .array .int
  | 2 => .array .int
  | 3 => .array .int
  | 4 => .int
  | 5 => .array .int
  | 6 => .int
  | 7 => .int
  | 8 => .boolean
  | 9 => .array .int
  | 10 => .array .int
  | 11 => .array .int
  | 12 => .array .int
  | 13 => .array .int
  | 14 => .array .int
  | 15 => .array .int
  | 16 => .array .boolean
  | 17 => .array .int
  | 18 => .array .long
  | 19 => .array .long
  | _ => .array .long
abbrev wsX90 : List Cond := u_ws RX9 TX9 21
theorem nmX9 : ∀ a, a < 21 → ∀ b, b < 21 → a ≠ b → (TX9 a).2.1 ≠ (TX9 b).2.1 := by decide +kernel
theorem tyX9_ok : ∀ k, k < 21 → parseFieldDescriptor (TX9 k).2.2.1 = some (tyX9 k) := by decide +kernel
abbrev cX9_init : ByteArray := prog_11_method_1_code
def yX9_init : MethodName := ⟨RX9, "<init>", "()V"⟩
abbrev cX9_isIn : ByteArray := prog_11_method_3_code
def yX9_isIn : MethodName := ⟨RX9, "isIn", "(III)Z"⟩
abbrev cX9_begins : ByteArray := prog_11_method_4_code
def yX9_begins : MethodName := ⟨RX9, "begins", "(I)V"⟩
abbrev cX9_anew : ByteArray := prog_11_method_5_code
def yX9_anew : MethodName := ⟨RX9, "anew", "()V"⟩
abbrev cX9_write : ByteArray := prog_11_method_6_code
def yX9_write : MethodName := ⟨RX9, "write", "(IJ)I"⟩
abbrev cX9_wipe : ByteArray := prog_11_method_7_code
def yX9_wipe : MethodName := ⟨RX9, "wipe", "()I"⟩
abbrev cX9_byteAt : ByteArray := prog_11_method_8_code
def yX9_byteAt : MethodName := ⟨RX9, "byteAt", "(I)I"⟩
abbrev cX9_number : ByteArray := prog_11_method_9_code
def yX9_number : MethodName := ⟨RX9, "number", "(III)I"⟩
abbrev cX9_draft : ByteArray := prog_11_method_10_code
def yX9_draft : MethodName := ⟨RX9, "draft", "(I)I"⟩
abbrev cX9_puts : ByteArray := prog_11_method_11_code
def yX9_puts : MethodName := ⟨RX9, "puts", "(II)V"⟩
abbrev cX9_readsHarbour : ByteArray := prog_11_method_12_code
def yX9_readsHarbour : MethodName := ⟨RX9, "readsHarbour", "()V"⟩
abbrev cX9_readsSort : ByteArray := prog_11_method_13_code
def yX9_readsSort : MethodName := ⟨RX9, "readsSort", "()V"⟩
abbrev cX9_readsStorm : ByteArray := prog_11_method_14_code
def yX9_readsStorm : MethodName := ⟨RX9, "readsStorm", "()V"⟩
abbrev cX9_readsItem : ByteArray := prog_11_method_15_code
def yX9_readsItem : MethodName := ⟨RX9, "readsItem", "(I)V"⟩
abbrev cX9_reads : ByteArray := prog_11_method_16_code
def yX9_reads : MethodName := ⟨RX9, "reads", "()I"⟩
abbrev cX9_fault : ByteArray := prog_11_method_17_code
def yX9_fault : MethodName := ⟨RX9, "fault", "()I"⟩
abbrev cX9_lay : ByteArray := prog_11_method_18_code
def yX9_lay : MethodName := ⟨RX9, "lay", "()I"⟩
abbrev cX9_isStorm : ByteArray := prog_11_method_19_code
def yX9_isStorm : MethodName := ⟨RX9, "isStorm", "(I)Z"⟩
abbrev cX9_isSort : ByteArray := prog_11_method_20_code
def yX9_isSort : MethodName := ⟨RX9, "isSort", "(I)Z"⟩
abbrev cX9_isHarbour : ByteArray := prog_11_method_21_code
def yX9_isHarbour : MethodName := ⟨RX9, "isHarbour", "(I)Z"⟩
abbrev cX9_strength : ByteArray := prog_11_method_22_code
def yX9_strength : MethodName := ⟨RX9, "strength", "(II)I"⟩
abbrev cX9_glass : ByteArray := prog_11_method_23_code
def yX9_glass : MethodName := ⟨RX9, "glass", "(II)I"⟩
abbrev cX9_isOpen : ByteArray := prog_11_method_24_code
def yX9_isOpen : MethodName := ⟨RX9, "isOpen", "(III)Z"⟩
abbrev cX9_riskOf : ByteArray := prog_11_method_25_code
def yX9_riskOf : MethodName := ⟨RX9, "riskOf", "(III)I"⟩
abbrev cX9_away : ByteArray := prog_11_method_26_code
def yX9_away : MethodName := ⟨RX9, "away", "(II)I"⟩
abbrev cX9_madeBy : ByteArray := prog_11_method_27_code
def yX9_madeBy : MethodName := ⟨RX9, "madeBy", "(III)I"⟩
abbrev cX9_storm : ByteArray := prog_11_method_28_code
def yX9_storm : MethodName := ⟨RX9, "storm", "(III)I"⟩
abbrev cX9_open : ByteArray := prog_11_method_29_code
def yX9_open : MethodName := ⟨RX9, "open", "(III)I"⟩
abbrev cX9_risk : ByteArray := prog_11_method_30_code
def yX9_risk : MethodName := ⟨RX9, "risk", "(III)I"⟩
abbrev cX9_reachOf : ByteArray := prog_11_method_31_code
def yX9_reachOf : MethodName := ⟨RX9, "reachOf", "(IIII)I"⟩
abbrev cX9_reach : ByteArray := prog_11_method_32_code
def yX9_reach : MethodName := ⟨RX9, "reach", "(IIII)I"⟩
abbrev cX9_plan : ByteArray := prog_11_method_33_code
def yX9_plan : MethodName := ⟨RX9, "plan", "(III)I"⟩
abbrev cX9_asPlanned : ByteArray := prog_11_method_34_code
def yX9_asPlanned : MethodName := ⟨RX9, "asPlanned", "()V"⟩
abbrev cX9_boats : ByteArray := prog_11_method_35_code
def yX9_boats : MethodName := ⟨RX9, "boats", "()I"⟩
abbrev cX9_weightOf : ByteArray := prog_11_method_36_code
def yX9_weightOf : MethodName := ⟨RX9, "weightOf", "(I)I"⟩
abbrev cX9_nextIn : ByteArray := prog_11_method_37_code
def yX9_nextIn : MethodName := ⟨RX9, "nextIn", "(IIIZ)I"⟩
abbrev cX9_goesBy : ByteArray := prog_11_method_38_code
def yX9_goesBy : MethodName := ⟨RX9, "goesBy", "(IZ)J"⟩
abbrev cX9_hour : ByteArray := prog_11_method_39_code
def yX9_hour : MethodName := ⟨RX9, "hour", "(III)V"⟩
abbrev cX9_value : ByteArray := prog_11_method_40_code
def yX9_value : MethodName := ⟨RX9, "value", "(I)J"⟩
abbrev cX9_in : ByteArray := prog_11_method_41_code
def yX9_in : MethodName := ⟨RX9, "in", "(II)I"⟩
abbrev cX9_firstOf : ByteArray := prog_11_method_42_code
def yX9_firstOf : MethodName := ⟨RX9, "firstOf", "(I)I"⟩
abbrev cX9_lives : ByteArray := prog_11_method_43_code
def yX9_lives : MethodName := ⟨RX9, "lives", "(III)I"⟩
abbrev cX9_isThought : ByteArray := prog_11_method_44_code
def yX9_isThought : MethodName := ⟨RX9, "isThought", "(I)Z"⟩
abbrev cX9_tenths : ByteArray := prog_11_method_45_code
def yX9_tenths : MethodName := ⟨RX9, "tenths", "(I)I"⟩
abbrev cX9_meanOf : ByteArray := prog_11_method_46_code
def yX9_meanOf : MethodName := ⟨RX9, "meanOf", "(ZI)J"⟩
abbrev cX9_mean : ByteArray := prog_11_method_47_code
def yX9_mean : MethodName := ⟨RX9, "mean", "()J"⟩
abbrev cX9_shut : ByteArray := prog_11_method_48_code
def yX9_shut : MethodName := ⟨RX9, "shut", "(I)I"⟩
abbrev cX9_sign : ByteArray := prog_11_method_49_code
def yX9_sign : MethodName := ⟨RX9, "sign", "(I)I"⟩
abbrev cX9_now : ByteArray := prog_11_method_50_code
def yX9_now : MethodName := ⟨RX9, "now", "(I)I"⟩
abbrev cX9_set : ByteArray := prog_11_method_51_code
def yX9_set : MethodName := ⟨RX9, "set", "(II)I"⟩
abbrev cX9_nearest : ByteArray := prog_11_method_52_code
def yX9_nearest : MethodName := ⟨RX9, "nearest", "(I)I"⟩
abbrev cX9_getsIn : ByteArray := prog_11_method_53_code
def yX9_getsIn : MethodName := ⟨RX9, "getsIn", "(III)I"⟩
abbrev cX9_openest : ByteArray := prog_11_method_54_code
def yX9_openest : MethodName := ⟨RX9, "openest", "(II)I"⟩
abbrev cX9_ruled : ByteArray := prog_11_method_55_code
def yX9_ruled : MethodName := ⟨RX9, "ruled", "(II)V"⟩
abbrev cX9_isRule : ByteArray := prog_11_method_56_code
def yX9_isRule : MethodName := ⟨RX9, "isRule", "(I)Z"⟩
abbrev cX9_by : ByteArray := prog_11_method_57_code
def yX9_by : MethodName := ⟨RX9, "by", "(I)J"⟩
abbrev cX9_ran : ByteArray := prog_11_method_58_code
def yX9_ran : MethodName := ⟨RX9, "ran", "(III)I"⟩
abbrev cX9_wayOf : ByteArray := prog_11_method_59_code
def yX9_wayOf : MethodName := ⟨RX9, "wayOf", "(IIII)J"⟩
abbrev cX9_laysAlone : ByteArray := prog_11_method_60_code
def yX9_laysAlone : MethodName := ⟨RX9, "laysAlone", "(I)V"⟩
abbrev cX9_running : ByteArray := prog_11_method_61_code
def yX9_running : MethodName := ⟨RX9, "running", "(III)J"⟩
abbrev cX9_staying : ByteArray := prog_11_method_62_code
def yX9_staying : MethodName := ⟨RX9, "staying", "(II)J"⟩
abbrev cX9_seeing : ByteArray := prog_11_method_63_code
def yX9_seeing : MethodName := ⟨RX9, "seeing", "(II)J"⟩
abbrev cX9_alone : ByteArray := prog_11_method_64_code
def yX9_alone : MethodName := ⟨RX9, "alone", "(I)J"⟩
abbrev cX9_does : ByteArray := prog_11_method_65_code
def yX9_does : MethodName := ⟨RX9, "does", "(III)I"⟩
abbrev cX9_betters : ByteArray := prog_11_method_66_code
def yX9_betters : MethodName := ⟨RX9, "betters", "(IZ)Z"⟩
abbrev cX9_better : ByteArray := prog_11_method_67_code
def yX9_better : MethodName := ⟨RX9, "better", "(Z)I"⟩
abbrev cX9_gunAt : ByteArray := prog_11_method_68_code
def yX9_gunAt : MethodName := ⟨RX9, "gunAt", "(I)J"⟩
abbrev cX9_gun : ByteArray := prog_11_method_69_code
def yX9_gun : MethodName := ⟨RX9, "gun", "(I)J"⟩
abbrev cX9_bestGun : ByteArray := prog_11_method_70_code
def yX9_bestGun : MethodName := ⟨RX9, "bestGun", "()I"⟩
abbrev cX9_convoy : ByteArray := prog_11_method_71_code
def yX9_convoy : MethodName := ⟨RX9, "convoy", "(III)J"⟩
abbrev cX9_first : ByteArray := prog_11_method_72_code
def yX9_first : MethodName := ⟨RX9, "first", "()J"⟩
abbrev cX9_night : ByteArray := prog_11_method_73_code
def yX9_night : MethodName := ⟨RX9, "night", "(III)J"⟩
abbrev cX9_keep : ByteArray := prog_11_method_74_code
def yX9_keep : MethodName := ⟨RX9, "keep", "()I"⟩
abbrev cX9_back : ByteArray := prog_11_method_75_code
def yX9_back : MethodName := ⟨RX9, "back", "()I"⟩
abbrev cX9_count : ByteArray := prog_11_method_76_code
def yX9_count : MethodName := ⟨RX9, "count", "(I)I"⟩
def RJ9 : String := "java/lang/Math"
def TJ9 : u_T := fun k => match k with
  | _ => ("", "", "", false)
def tyJ9 : Nat → FieldType := fun k => match k with
  | _ => .int
abbrev wsJ90 : List Cond := u_ws RJ9 TJ9 0
theorem nmJ9 : ∀ a, a < 0 → ∀ b, b < 0 → a ≠ b → (TJ9 a).2.1 ≠ (TJ9 b).2.1 := by decide +kernel
theorem tyJ9_ok : ∀ k, k < 0 → parseFieldDescriptor (TJ9 k).2.2.1 = some (tyJ9 k) := by decide +kernel
abbrev cJ9_max_7cf53 : ByteArray := prog_12_method_65_code
def yJ9_max_7cf53 : MethodName := ⟨RJ9, "max", "(II)I"⟩
abbrev cJ9_max_f86c9 : ByteArray := prog_12_method_66_code
def yJ9_max_f86c9 : MethodName := ⟨RJ9, "max", "(JJ)J"⟩
abbrev cJ9_min_7cf53 : ByteArray := prog_12_method_69_code
def yJ9_min_7cf53 : MethodName := ⟨RJ9, "min", "(II)I"⟩
def RJ0 : String := "java/lang/String"
def TJ0 : u_T := fun k => match k with
  | _ => ("", "", "", false)
def tyJ0 : Nat → FieldType := fun k => match k with
  | _ => .int
abbrev wsJ00 : List Cond := u_ws RJ0 TJ0 0
theorem nmJ0 : ∀ a, a < 0 → ∀ b, b < 0 → a ≠ b → (TJ0 a).2.1 ≠ (TJ0 b).2.1 := by decide +kernel
theorem tyJ0_ok : ∀ k, k < 0 → parseFieldDescriptor (TJ0 k).2.2.1 = some (tyJ0 k) := by decide +kernel
abbrev cJ0_length_8abf5 : ByteArray := prog_13_method_54_code
def yJ0_length_8abf5 : MethodName := ⟨RJ0, "length", "()I"⟩
abbrev cJ0_charAt_5068e : ByteArray := prog_13_method_56_code
def yJ0_charAt_5068e : MethodName := ⟨RJ0, "charAt", "(I)C"⟩
abbrev cJ0_coder_7d493 : ByteArray := prog_13_method_152_code
def yJ0_coder_7d493 : MethodName := ⟨RJ0, "coder", "()B"⟩
abbrev cJ0_isLatin1_aae02 : ByteArray := prog_13_method_154_code
def yJ0_isLatin1_aae02 : MethodName := ⟨RJ0, "isLatin1", "()Z"⟩
abbrev cJ0_checkIndex_df160 : ByteArray := prog_13_method_155_code
def yJ0_checkIndex_df160 : MethodName := ⟨RJ0, "checkIndex", "(II)V"⟩
def RJ1 : String := "java/lang/StringLatin1"
def TJ1 : u_T := fun k => match k with
  | _ => ("", "", "", false)
def tyJ1 : Nat → FieldType := fun k => match k with
  | _ => .int
abbrev wsJ10 : List Cond := u_ws RJ1 TJ1 0
theorem nmJ1 : ∀ a, a < 0 → ∀ b, b < 0 → a ≠ b → (TJ1 a).2.1 ≠ (TJ1 b).2.1 := by decide +kernel
theorem tyJ1_ok : ∀ k, k < 0 → parseFieldDescriptor (TJ1 k).2.2.1 = some (tyJ1 k) := by decide +kernel
abbrev cJ1_charAt_3b067 : ByteArray := prog_14_method_2_code
def yJ1_charAt_3b067 : MethodName := ⟨RJ1, "charAt", "([BI)C"⟩
def RJ2 : String := "java/lang/StringUTF16"
def TJ2 : u_T := fun k => match k with
  | _ => ("", "", "", false)
def tyJ2 : Nat → FieldType := fun k => match k with
  | _ => .int
abbrev wsJ20 : List Cond := u_ws RJ2 TJ2 0
theorem nmJ2 : ∀ a, a < 0 → ∀ b, b < 0 → a ≠ b → (TJ2 a).2.1 ≠ (TJ2 b).2.1 := by decide +kernel
theorem tyJ2_ok : ∀ k, k < 0 → parseFieldDescriptor (TJ2 k).2.2.1 = some (tyJ2 k) := by decide +kernel
abbrev cJ2_getChar_3b067 : ByteArray := prog_15_method_5_code
def yJ2_getChar_3b067 : MethodName := ⟨RJ2, "getChar", "([BI)C"⟩
abbrev cJ2_length_9d52b : ByteArray := prog_15_method_6_code
def yJ2_length_9d52b : MethodName := ⟨RJ2, "length", "([B)I"⟩
abbrev cJ2_charAt_3b067 : ByteArray := prog_15_method_83_code
def yJ2_charAt_3b067 : MethodName := ⟨RJ2, "charAt", "([BI)C"⟩
abbrev cJ2_checkIndex_2214a : ByteArray := prog_15_method_91_code
def yJ2_checkIndex_2214a : MethodName := ⟨RJ2, "checkIndex", "(I[B)V"⟩
def RJ3 : String := "jdk/internal/util/Preconditions"
def TJ3 : u_T := fun k => match k with
  | _ => ("", "", "", false)
def tyJ3 : Nat → FieldType := fun k => match k with
  | _ => .int
abbrev wsJ30 : List Cond := u_ws RJ3 TJ3 0
theorem nmJ3 : ∀ a, a < 0 → ∀ b, b < 0 → a ≠ b → (TJ3 a).2.1 ≠ (TJ3 b).2.1 := by decide +kernel
theorem tyJ3_ok : ∀ k, k < 0 → parseFieldDescriptor (TJ3 k).2.2.1 = some (tyJ3 k) := by decide +kernel
abbrev cJ3_checkIndex_8e157 : ByteArray := prog_16_method_11_code
def yJ3_checkIndex_8e157 : MethodName := ⟨RJ3, "checkIndex", "(IILjava/util/function/BiFunction;)I"⟩
def RL : String := "StormHarboursLaw"
abbrev cL_law : ByteArray := code
def yL_law : MethodName := ⟨RL, "law", "([I)Z"⟩
abbrev vwCl : List vw_C := [(RX0, TX0, 3), (RX1, TX1, 1), (RX2, TX2, 8), (RX3, TX3, 2), (RX4, TX4, 2), (RX5, TX5, 15), (RX6, TX6, 9), (RX7, TX7, 5), (RX8, TX8, 10), (RX9, TX9, 21)]
end
section
theorem dX0_init_0 : decode cX0_init 0 = .ok (.aload_n 0, 1) := by decide +kernel
theorem dX0_init_1 : decode cX0_init 1 = .ok (.invokespecial 3, 3) := by decide +kernel
theorem dX0_init_4 : decode cX0_init 4 = .ok (.aload_n 0, 1) := by decide +kernel
theorem dX0_init_5 : decode cX0_init 5 = .ok (.aload_n 1, 1) := by decide +kernel
theorem dX0_init_6 : decode cX0_init 6 = .ok (.putfield 9, 3) := by decide +kernel
theorem dX0_init_9 : decode cX0_init 9 = .ok (.aload_n 0, 1) := by decide +kernel
theorem dX0_init_10 : decode cX0_init 10 = .ok (.aload_n 2, 1) := by decide +kernel
theorem dX0_init_11 : decode cX0_init 11 = .ok (.putfield 15, 3) := by decide +kernel
theorem dX0_init_14 : decode cX0_init 14 = .ok (.aload_n 0, 1) := by decide +kernel
theorem dX0_init_15 : decode cX0_init 15 = .ok (.aload_n 3, 1) := by decide +kernel
theorem dX0_init_16 : decode cX0_init 16 = .ok (.putfield 19, 3) := by decide +kernel
theorem dX0_init_19 : decode cX0_init 19 = .ok (.return_, 1) := by decide +kernel
theorem dX0_improves_0 : decode cX0_improves 0 = .ok (.aload_n 0, 1) := by decide +kernel
theorem dX0_improves_1 : decode cX0_improves 1 = .ok (.getfield 15, 3) := by decide +kernel
theorem dX0_improves_4 : decode cX0_improves 4 = .ok (.getfield 23, 3) := by decide +kernel
theorem dX0_improves_7 : decode cX0_improves 7 = .ok (.astore_n 3, 1) := by decide +kernel
theorem dX0_improves_8 : decode cX0_improves 8 = .ok (.aload_n 3, 1) := by decide +kernel
theorem dX0_improves_9 : decode cX0_improves 9 = .ok (.getfield 29, 3) := by decide +kernel
theorem dX0_improves_12 : decode cX0_improves 12 = .ok (.iload_n 1, 1) := by decide +kernel
theorem dX0_improves_13 : decode cX0_improves 13 = .ok (.iaload, 1) := by decide +kernel
theorem dX0_improves_14 : decode cX0_improves 14 = .ok (.istore 4, 2) := by decide +kernel
theorem dX0_improves_16 : decode cX0_improves 16 = .ok (.aload_n 3, 1) := by decide +kernel
theorem dX0_improves_17 : decode cX0_improves 17 = .ok (.getfield 35, 3) := by decide +kernel
theorem dX0_improves_20 : decode cX0_improves 20 = .ok (.iload_n 1, 1) := by decide +kernel
theorem dX0_improves_21 : decode cX0_improves 21 = .ok (.iaload, 1) := by decide +kernel
theorem dX0_improves_22 : decode cX0_improves 22 = .ok (.istore 5, 2) := by decide +kernel
theorem dX0_improves_24 : decode cX0_improves 24 = .ok (.aload_n 0, 1) := by decide +kernel
theorem dX0_improves_25 : decode cX0_improves 25 = .ok (.getfield 19, 3) := by decide +kernel
theorem dX0_improves_28 : decode cX0_improves 28 = .ok (.aload_n 3, 1) := by decide +kernel
theorem dX0_improves_29 : decode cX0_improves 29 = .ok (.aload_n 0, 1) := by decide +kernel
theorem dX0_improves_30 : decode cX0_improves 30 = .ok (.getfield 15, 3) := by decide +kernel
theorem dX0_improves_33 : decode cX0_improves 33 = .ok (.getfield 38, 3) := by decide +kernel
theorem dX0_improves_36 : decode cX0_improves 36 = .ok (.iload_n 2, 1) := by decide +kernel
theorem dX0_improves_37 : decode cX0_improves 37 = .ok (.invokevirtual 42, 3) := by decide +kernel
theorem dX0_improves_40 : decode cX0_improves 40 = .ok (.lstore 6, 2) := by decide +kernel
theorem dX0_improves_42 : decode cX0_improves 42 = .ok (.iconst 0, 1) := by decide +kernel
theorem dX0_improves_43 : decode cX0_improves 43 = .ok (.istore 8, 2) := by decide +kernel
theorem dX0_improves_45 : decode cX0_improves 45 = .ok (.iconst 0, 1) := by decide +kernel
theorem dX0_improves_46 : decode cX0_improves 46 = .ok (.istore 9, 2) := by decide +kernel
theorem dX0_improves_48 : decode cX0_improves 48 = .ok (.iload 9, 2) := by decide +kernel
theorem dX0_improves_50 : decode cX0_improves 50 = .ok (.bipush 24, 2) := by decide +kernel
theorem dX0_improves_52 : decode cX0_improves 52 = .ok (.if_icmp .gt 80, 3) := by decide +kernel
theorem dX0_improves_55 : decode cX0_improves 55 = .ok (.iconst 0, 1) := by decide +kernel
theorem dX0_improves_56 : decode cX0_improves 56 = .ok (.istore 10, 2) := by decide +kernel
theorem dX0_improves_58 : decode cX0_improves 58 = .ok (.iload 10, 2) := by decide +kernel
theorem dX0_improves_60 : decode cX0_improves 60 = .ok (.aload_n 0, 1) := by decide +kernel
theorem dX0_improves_61 : decode cX0_improves 61 = .ok (.getfield 9, 3) := by decide +kernel
theorem dX0_improves_64 : decode cX0_improves 64 = .ok (.getfield 48, 3) := by decide +kernel
theorem dX0_improves_67 : decode cX0_improves 67 = .ok (.if_icmp .ge 59, 3) := by decide +kernel
theorem dX0_improves_70 : decode cX0_improves 70 = .ok (.aload_n 3, 1) := by decide +kernel
theorem dX0_improves_71 : decode cX0_improves 71 = .ok (.iload_n 1, 1) := by decide +kernel
theorem dX0_improves_72 : decode cX0_improves 72 = .ok (.iload 9, 2) := by decide +kernel
theorem dX0_improves_74 : decode cX0_improves 74 = .ok (.iload 10, 2) := by decide +kernel
theorem dX0_improves_76 : decode cX0_improves 76 = .ok (.invokevirtual 53, 3) := by decide +kernel
theorem dX0_improves_79 : decode cX0_improves 79 = .ok (.aload_n 0, 1) := by decide +kernel
theorem dX0_improves_80 : decode cX0_improves 80 = .ok (.getfield 19, 3) := by decide +kernel
theorem dX0_improves_83 : decode cX0_improves 83 = .ok (.aload_n 3, 1) := by decide +kernel
theorem dX0_improves_84 : decode cX0_improves 84 = .ok (.aload_n 0, 1) := by decide +kernel
theorem dX0_improves_85 : decode cX0_improves 85 = .ok (.getfield 15, 3) := by decide +kernel
theorem dX0_improves_88 : decode cX0_improves 88 = .ok (.getfield 38, 3) := by decide +kernel
theorem dX0_improves_91 : decode cX0_improves 91 = .ok (.iload_n 2, 1) := by decide +kernel
theorem dX0_improves_92 : decode cX0_improves 92 = .ok (.invokevirtual 42, 3) := by decide +kernel
theorem dX0_improves_95 : decode cX0_improves 95 = .ok (.lstore 11, 2) := by decide +kernel
theorem dX0_improves_97 : decode cX0_improves 97 = .ok (.lload 11, 2) := by decide +kernel
theorem dX0_improves_99 : decode cX0_improves 99 = .ok (.lload 6, 2) := by decide +kernel
theorem dX0_improves_101 : decode cX0_improves 101 = .ok (.lcmp, 1) := by decide +kernel
theorem dX0_improves_102 : decode cX0_improves 102 = .ok (.ifCond .le 18, 3) := by decide +kernel
theorem dX0_improves_105 : decode cX0_improves 105 = .ok (.lload 11, 2) := by decide +kernel
theorem dX0_improves_107 : decode cX0_improves 107 = .ok (.lstore 6, 2) := by decide +kernel
theorem dX0_improves_109 : decode cX0_improves 109 = .ok (.iload 9, 2) := by decide +kernel
theorem dX0_improves_111 : decode cX0_improves 111 = .ok (.istore 4, 2) := by decide +kernel
theorem dX0_improves_113 : decode cX0_improves 113 = .ok (.iload 10, 2) := by decide +kernel
theorem dX0_improves_115 : decode cX0_improves 115 = .ok (.istore 5, 2) := by decide +kernel
theorem dX0_improves_117 : decode cX0_improves 117 = .ok (.iconst 1, 1) := by decide +kernel
theorem dX0_improves_118 : decode cX0_improves 118 = .ok (.istore 8, 2) := by decide +kernel
theorem dX0_improves_120 : decode cX0_improves 120 = .ok (.iinc 10 1, 3) := by decide +kernel
theorem dX0_improves_123 : decode cX0_improves 123 = .ok (.goto (-65), 3) := by decide +kernel
theorem dX0_improves_126 : decode cX0_improves 126 = .ok (.iinc 9 1, 3) := by decide +kernel
theorem dX0_improves_129 : decode cX0_improves 129 = .ok (.goto (-81), 3) := by decide +kernel
theorem dX0_improves_132 : decode cX0_improves 132 = .ok (.aload_n 3, 1) := by decide +kernel
theorem dX0_improves_133 : decode cX0_improves 133 = .ok (.iload_n 1, 1) := by decide +kernel
theorem dX0_improves_134 : decode cX0_improves 134 = .ok (.iload 4, 2) := by decide +kernel
theorem dX0_improves_136 : decode cX0_improves 136 = .ok (.iload 5, 2) := by decide +kernel
theorem dX0_improves_138 : decode cX0_improves 138 = .ok (.invokevirtual 53, 3) := by decide +kernel
theorem dX0_improves_141 : decode cX0_improves 141 = .ok (.iload 8, 2) := by decide +kernel
theorem dX0_improves_143 : decode cX0_improves 143 = .ok (.ireturn, 1) := by decide +kernel
theorem dX1_init_0 : decode cX1_init 0 = .ok (.aload_n 0, 1) := by decide +kernel
theorem dX1_init_1 : decode cX1_init 1 = .ok (.invokespecial 3, 3) := by decide +kernel
theorem dX1_init_4 : decode cX1_init 4 = .ok (.aload_n 0, 1) := by decide +kernel
theorem dX1_init_5 : decode cX1_init 5 = .ok (.aload_n 1, 1) := by decide +kernel
theorem dX1_init_6 : decode cX1_init 6 = .ok (.putfield 9, 3) := by decide +kernel
theorem dX1_init_9 : decode cX1_init 9 = .ok (.return_, 1) := by decide +kernel
theorem dX1_choice_0 : decode cX1_choice 0 = .ok (.iconst 0, 1) := by decide +kernel
theorem dX1_choice_1 : decode cX1_choice 1 = .ok (.istore 4, 2) := by decide +kernel
theorem dX1_choice_3 : decode cX1_choice 3 = .ok (.aload_n 0, 1) := by decide +kernel
theorem dX1_choice_4 : decode cX1_choice 4 = .ok (.iload_n 1, 1) := by decide +kernel
theorem dX1_choice_5 : decode cX1_choice 5 = .ok (.iload_n 2, 1) := by decide +kernel
theorem dX1_choice_6 : decode cX1_choice 6 = .ok (.iload_n 3, 1) := by decide +kernel
theorem dX1_choice_7 : decode cX1_choice 7 = .ok (.invokevirtual 15, 3) := by decide +kernel
theorem dX1_choice_10 : decode cX1_choice 10 = .ok (.lstore 5, 2) := by decide +kernel
theorem dX1_choice_12 : decode cX1_choice 12 = .ok (.iconst 0, 1) := by decide +kernel
theorem dX1_choice_13 : decode cX1_choice 13 = .ok (.istore 7, 2) := by decide +kernel
theorem dX1_choice_15 : decode cX1_choice 15 = .ok (.iload 7, 2) := by decide +kernel
theorem dX1_choice_17 : decode cX1_choice 17 = .ok (.aload_n 0, 1) := by decide +kernel
theorem dX1_choice_18 : decode cX1_choice 18 = .ok (.getfield 9, 3) := by decide +kernel
theorem dX1_choice_21 : decode cX1_choice 21 = .ok (.getfield 19, 3) := by decide +kernel
theorem dX1_choice_24 : decode cX1_choice 24 = .ok (.if_icmp .ge 38, 3) := by decide +kernel
theorem dX1_choice_27 : decode cX1_choice 27 = .ok (.aload_n 0, 1) := by decide +kernel
theorem dX1_choice_28 : decode cX1_choice 28 = .ok (.iload_n 1, 1) := by decide +kernel
theorem dX1_choice_29 : decode cX1_choice 29 = .ok (.iload_n 2, 1) := by decide +kernel
theorem dX1_choice_30 : decode cX1_choice 30 = .ok (.iload 7, 2) := by decide +kernel
theorem dX1_choice_32 : decode cX1_choice 32 = .ok (.iload_n 3, 1) := by decide +kernel
theorem dX1_choice_33 : decode cX1_choice 33 = .ok (.invokevirtual 25, 3) := by decide +kernel
theorem dX1_choice_36 : decode cX1_choice 36 = .ok (.lstore 8, 2) := by decide +kernel
theorem dX1_choice_38 : decode cX1_choice 38 = .ok (.lload 8, 2) := by decide +kernel
theorem dX1_choice_40 : decode cX1_choice 40 = .ok (.lload 5, 2) := by decide +kernel
theorem dX1_choice_42 : decode cX1_choice 42 = .ok (.lcmp, 1) := by decide +kernel
theorem dX1_choice_43 : decode cX1_choice 43 = .ok (.ifCond .le 13, 3) := by decide +kernel
theorem dX1_choice_46 : decode cX1_choice 46 = .ok (.lload 8, 2) := by decide +kernel
theorem dX1_choice_48 : decode cX1_choice 48 = .ok (.lstore 5, 2) := by decide +kernel
theorem dX1_choice_50 : decode cX1_choice 50 = .ok (.iconst 1, 1) := by decide +kernel
theorem dX1_choice_51 : decode cX1_choice 51 = .ok (.iload 7, 2) := by decide +kernel
theorem dX1_choice_53 : decode cX1_choice 53 = .ok (.iadd, 1) := by decide +kernel
theorem dX1_choice_54 : decode cX1_choice 54 = .ok (.istore 4, 2) := by decide +kernel
theorem dX1_choice_56 : decode cX1_choice 56 = .ok (.iinc 7 1, 3) := by decide +kernel
theorem dX1_choice_59 : decode cX1_choice 59 = .ok (.goto (-44), 3) := by decide +kernel
theorem dX1_choice_62 : decode cX1_choice 62 = .ok (.iload 4, 2) := by decide +kernel
theorem dX1_choice_64 : decode cX1_choice 64 = .ok (.ireturn, 1) := by decide +kernel
theorem dX1_bestOfGroups_0 : decode cX1_bestOfGroups 0 = .ok (.lconst 0, 1) := by decide +kernel
theorem dX1_bestOfGroups_1 : decode cX1_bestOfGroups 1 = .ok (.lstore 4, 2) := by decide +kernel
theorem dX1_bestOfGroups_3 : decode cX1_bestOfGroups 3 = .ok (.iconst 0, 1) := by decide +kernel
theorem dX1_bestOfGroups_4 : decode cX1_bestOfGroups 4 = .ok (.istore 6, 2) := by decide +kernel
theorem dX1_bestOfGroups_6 : decode cX1_bestOfGroups 6 = .ok (.iload 6, 2) := by decide +kernel
theorem dX1_bestOfGroups_8 : decode cX1_bestOfGroups 8 = .ok (.bipush 9, 2) := by decide +kernel
theorem dX1_bestOfGroups_10 : decode cX1_bestOfGroups 10 = .ok (.if_icmp .gt 40, 3) := by decide +kernel
theorem dX1_bestOfGroups_13 : decode cX1_bestOfGroups 13 = .ok (.aload_n 0, 1) := by decide +kernel
theorem dX1_bestOfGroups_14 : decode cX1_bestOfGroups 14 = .ok (.getfield 9, 3) := by decide +kernel
theorem dX1_bestOfGroups_17 : decode cX1_bestOfGroups 17 = .ok (.iload_n 3, 1) := by decide +kernel
theorem dX1_bestOfGroups_18 : decode cX1_bestOfGroups 18 = .ok (.iload_n 2, 1) := by decide +kernel
theorem dX1_bestOfGroups_19 : decode cX1_bestOfGroups 19 = .ok (.iload 6, 2) := by decide +kernel
theorem dX1_bestOfGroups_21 : decode cX1_bestOfGroups 21 = .ok (.invokevirtual 29, 3) := by decide +kernel
theorem dX1_bestOfGroups_24 : decode cX1_bestOfGroups 24 = .ok (.istore 7, 2) := by decide +kernel
theorem dX1_bestOfGroups_26 : decode cX1_bestOfGroups 26 = .ok (.iload 7, 2) := by decide +kernel
theorem dX1_bestOfGroups_28 : decode cX1_bestOfGroups 28 = .ok (.ifCond .eq 16, 3) := by decide +kernel
theorem dX1_bestOfGroups_31 : decode cX1_bestOfGroups 31 = .ok (.lload 4, 2) := by decide +kernel
theorem dX1_bestOfGroups_33 : decode cX1_bestOfGroups 33 = .ok (.aload_n 0, 1) := by decide +kernel
theorem dX1_bestOfGroups_34 : decode cX1_bestOfGroups 34 = .ok (.iload_n 1, 1) := by decide +kernel
theorem dX1_bestOfGroups_35 : decode cX1_bestOfGroups 35 = .ok (.iload_n 2, 1) := by decide +kernel
theorem dX1_bestOfGroups_36 : decode cX1_bestOfGroups 36 = .ok (.iload 7, 2) := by decide +kernel
theorem dX1_bestOfGroups_38 : decode cX1_bestOfGroups 38 = .ok (.invokevirtual 33, 3) := by decide +kernel
theorem dX1_bestOfGroups_41 : decode cX1_bestOfGroups 41 = .ok (.ladd, 1) := by decide +kernel
theorem dX1_bestOfGroups_42 : decode cX1_bestOfGroups 42 = .ok (.lstore 4, 2) := by decide +kernel
theorem dX1_bestOfGroups_44 : decode cX1_bestOfGroups 44 = .ok (.iinc 6 1, 3) := by decide +kernel
theorem dX1_bestOfGroups_47 : decode cX1_bestOfGroups 47 = .ok (.goto (-41), 3) := by decide +kernel
theorem dX1_bestOfGroups_50 : decode cX1_bestOfGroups 50 = .ok (.lload 4, 2) := by decide +kernel
theorem dX1_bestOfGroups_52 : decode cX1_bestOfGroups 52 = .ok (.lreturn, 1) := by decide +kernel
theorem dX1_bestFrom_0 : decode cX1_bestFrom 0 = .ok (.aload_n 0, 1) := by decide +kernel
theorem dX1_bestFrom_1 : decode cX1_bestFrom 1 = .ok (.iload_n 1, 1) := by decide +kernel
theorem dX1_bestFrom_2 : decode cX1_bestFrom 2 = .ok (.iload_n 2, 1) := by decide +kernel
theorem dX1_bestFrom_3 : decode cX1_bestFrom 3 = .ok (.iload_n 3, 1) := by decide +kernel
theorem dX1_bestFrom_4 : decode cX1_bestFrom 4 = .ok (.invokevirtual 15, 3) := by decide +kernel
theorem dX1_bestFrom_7 : decode cX1_bestFrom 7 = .ok (.lstore 4, 2) := by decide +kernel
theorem dX1_bestFrom_9 : decode cX1_bestFrom 9 = .ok (.iconst 0, 1) := by decide +kernel
theorem dX1_bestFrom_10 : decode cX1_bestFrom 10 = .ok (.istore 6, 2) := by decide +kernel
theorem dX1_bestFrom_12 : decode cX1_bestFrom 12 = .ok (.iload 6, 2) := by decide +kernel
theorem dX1_bestFrom_14 : decode cX1_bestFrom 14 = .ok (.aload_n 0, 1) := by decide +kernel
theorem dX1_bestFrom_15 : decode cX1_bestFrom 15 = .ok (.getfield 9, 3) := by decide +kernel
theorem dX1_bestFrom_18 : decode cX1_bestFrom 18 = .ok (.getfield 19, 3) := by decide +kernel
theorem dX1_bestFrom_21 : decode cX1_bestFrom 21 = .ok (.if_icmp .ge 25, 3) := by decide +kernel
theorem dX1_bestFrom_24 : decode cX1_bestFrom 24 = .ok (.lload 4, 2) := by decide +kernel
theorem dX1_bestFrom_26 : decode cX1_bestFrom 26 = .ok (.aload_n 0, 1) := by decide +kernel
theorem dX1_bestFrom_27 : decode cX1_bestFrom 27 = .ok (.iload_n 1, 1) := by decide +kernel
theorem dX1_bestFrom_28 : decode cX1_bestFrom 28 = .ok (.iload_n 2, 1) := by decide +kernel
theorem dX1_bestFrom_29 : decode cX1_bestFrom 29 = .ok (.iload 6, 2) := by decide +kernel
theorem dX1_bestFrom_31 : decode cX1_bestFrom 31 = .ok (.iload_n 3, 1) := by decide +kernel
theorem dX1_bestFrom_32 : decode cX1_bestFrom 32 = .ok (.invokevirtual 25, 3) := by decide +kernel
theorem dX1_bestFrom_35 : decode cX1_bestFrom 35 = .ok (.invokestatic 36, 3) := by decide +kernel
theorem dX1_bestFrom_38 : decode cX1_bestFrom 38 = .ok (.lstore 4, 2) := by decide +kernel
theorem dX1_bestFrom_40 : decode cX1_bestFrom 40 = .ok (.iinc 6 1, 3) := by decide +kernel
theorem dX1_bestFrom_43 : decode cX1_bestFrom 43 = .ok (.goto (-31), 3) := by decide +kernel
theorem dX1_bestFrom_46 : decode cX1_bestFrom 46 = .ok (.lload 4, 2) := by decide +kernel
theorem dX1_bestFrom_48 : decode cX1_bestFrom 48 = .ok (.lreturn, 1) := by decide +kernel
theorem dX1_sumOfStaying_0 : decode cX1_sumOfStaying 0 = .ok (.iload_n 2, 1) := by decide +kernel
theorem dX1_sumOfStaying_1 : decode cX1_sumOfStaying 1 = .ok (.iconst 1, 1) := by decide +kernel
theorem dX1_sumOfStaying_2 : decode cX1_sumOfStaying 2 = .ok (.iadd, 1) := by decide +kernel
theorem dX1_sumOfStaying_3 : decode cX1_sumOfStaying 3 = .ok (.bipush 24, 2) := by decide +kernel
theorem dX1_sumOfStaying_5 : decode cX1_sumOfStaying 5 = .ok (.if_icmp .ge 13, 3) := by decide +kernel
theorem dX1_sumOfStaying_8 : decode cX1_sumOfStaying 8 = .ok (.aload_n 0, 1) := by decide +kernel
theorem dX1_sumOfStaying_9 : decode cX1_sumOfStaying 9 = .ok (.iload_n 1, 1) := by decide +kernel
theorem dX1_sumOfStaying_10 : decode cX1_sumOfStaying 10 = .ok (.iload_n 2, 1) := by decide +kernel
theorem dX1_sumOfStaying_11 : decode cX1_sumOfStaying 11 = .ok (.iconst 1, 1) := by decide +kernel
theorem dX1_sumOfStaying_12 : decode cX1_sumOfStaying 12 = .ok (.iadd, 1) := by decide +kernel
theorem dX1_sumOfStaying_13 : decode cX1_sumOfStaying 13 = .ok (.iload_n 3, 1) := by decide +kernel
theorem dX1_sumOfStaying_14 : decode cX1_sumOfStaying 14 = .ok (.invokevirtual 42, 3) := by decide +kernel
theorem dX1_sumOfStaying_17 : decode cX1_sumOfStaying 17 = .ok (.lreturn, 1) := by decide +kernel
theorem dX1_sumOfStaying_18 : decode cX1_sumOfStaying 18 = .ok (.aload_n 0, 1) := by decide +kernel
theorem dX1_sumOfStaying_19 : decode cX1_sumOfStaying 19 = .ok (.iload_n 1, 1) := by decide +kernel
theorem dX1_sumOfStaying_20 : decode cX1_sumOfStaying 20 = .ok (.bipush 24, 2) := by decide +kernel
theorem dX1_sumOfStaying_22 : decode cX1_sumOfStaying 22 = .ok (.iconst 0, 1) := by decide +kernel
theorem dX1_sumOfStaying_23 : decode cX1_sumOfStaying 23 = .ok (.iload_n 3, 1) := by decide +kernel
theorem dX1_sumOfStaying_24 : decode cX1_sumOfStaying 24 = .ok (.invokevirtual 25, 3) := by decide +kernel
theorem dX1_sumOfStaying_27 : decode cX1_sumOfStaying 27 = .ok (.lreturn, 1) := by decide +kernel
theorem dX1_sumOfRunning_0 : decode cX1_sumOfRunning 0 = .ok (.lconst 0, 1) := by decide +kernel
theorem dX1_sumOfRunning_1 : decode cX1_sumOfRunning 1 = .ok (.lstore 5, 2) := by decide +kernel
theorem dX1_sumOfRunning_3 : decode cX1_sumOfRunning 3 = .ok (.iconst 0, 1) := by decide +kernel
theorem dX1_sumOfRunning_4 : decode cX1_sumOfRunning 4 = .ok (.istore 7, 2) := by decide +kernel
theorem dX1_sumOfRunning_6 : decode cX1_sumOfRunning 6 = .ok (.iload 7, 2) := by decide +kernel
theorem dX1_sumOfRunning_8 : decode cX1_sumOfRunning 8 = .ok (.aload_n 0, 1) := by decide +kernel
theorem dX1_sumOfRunning_9 : decode cX1_sumOfRunning 9 = .ok (.getfield 9, 3) := by decide +kernel
theorem dX1_sumOfRunning_12 : decode cX1_sumOfRunning 12 = .ok (.getfield 45, 3) := by decide +kernel
theorem dX1_sumOfRunning_15 : decode cX1_sumOfRunning 15 = .ok (.if_icmp .ge 97, 3) := by decide +kernel
theorem dX1_sumOfRunning_18 : decode cX1_sumOfRunning 18 = .ok (.iload 4, 2) := by decide +kernel
theorem dX1_sumOfRunning_20 : decode cX1_sumOfRunning 20 = .ok (.iload 7, 2) := by decide +kernel
theorem dX1_sumOfRunning_22 : decode cX1_sumOfRunning 22 = .ok (.ishr, 1) := by decide +kernel
theorem dX1_sumOfRunning_23 : decode cX1_sumOfRunning 23 = .ok (.iconst 1, 1) := by decide +kernel
theorem dX1_sumOfRunning_24 : decode cX1_sumOfRunning 24 = .ok (.iand, 1) := by decide +kernel
theorem dX1_sumOfRunning_25 : decode cX1_sumOfRunning 25 = .ok (.ifCond .eq 81, 3) := by decide +kernel
theorem dX1_sumOfRunning_28 : decode cX1_sumOfRunning 28 = .ok (.ldc 48, 2) := by decide +kernel
theorem dX1_sumOfRunning_30 : decode cX1_sumOfRunning 30 = .ok (.aload_n 0, 1) := by decide +kernel
theorem dX1_sumOfRunning_31 : decode cX1_sumOfRunning 31 = .ok (.getfield 9, 3) := by decide +kernel
theorem dX1_sumOfRunning_34 : decode cX1_sumOfRunning 34 = .ok (.iload 7, 2) := by decide +kernel
theorem dX1_sumOfRunning_36 : decode cX1_sumOfRunning 36 = .ok (.iload_n 1, 1) := by decide +kernel
theorem dX1_sumOfRunning_37 : decode cX1_sumOfRunning 37 = .ok (.aload_n 0, 1) := by decide +kernel
theorem dX1_sumOfRunning_38 : decode cX1_sumOfRunning 38 = .ok (.getfield 9, 3) := by decide +kernel
theorem dX1_sumOfRunning_41 : decode cX1_sumOfRunning 41 = .ok (.iload_n 1, 1) := by decide +kernel
theorem dX1_sumOfRunning_42 : decode cX1_sumOfRunning 42 = .ok (.iload_n 3, 1) := by decide +kernel
theorem dX1_sumOfRunning_43 : decode cX1_sumOfRunning 43 = .ok (.iload 7, 2) := by decide +kernel
theorem dX1_sumOfRunning_45 : decode cX1_sumOfRunning 45 = .ok (.iload_n 2, 1) := by decide +kernel
theorem dX1_sumOfRunning_46 : decode cX1_sumOfRunning 46 = .ok (.invokevirtual 49, 3) := by decide +kernel
theorem dX1_sumOfRunning_49 : decode cX1_sumOfRunning 49 = .ok (.invokevirtual 53, 3) := by decide +kernel
theorem dX1_sumOfRunning_52 : decode cX1_sumOfRunning 52 = .ok (.isub, 1) := by decide +kernel
theorem dX1_sumOfRunning_53 : decode cX1_sumOfRunning 53 = .ok (.i2l, 1) := by decide +kernel
theorem dX1_sumOfRunning_54 : decode cX1_sumOfRunning 54 = .ok (.lstore 8, 2) := by decide +kernel
theorem dX1_sumOfRunning_56 : decode cX1_sumOfRunning 56 = .ok (.aload_n 0, 1) := by decide +kernel
theorem dX1_sumOfRunning_57 : decode cX1_sumOfRunning 57 = .ok (.getfield 9, 3) := by decide +kernel
theorem dX1_sumOfRunning_60 : decode cX1_sumOfRunning 60 = .ok (.iload 7, 2) := by decide +kernel
theorem dX1_sumOfRunning_62 : decode cX1_sumOfRunning 62 = .ok (.iload_n 1, 1) := by decide +kernel
theorem dX1_sumOfRunning_63 : decode cX1_sumOfRunning 63 = .ok (.iload_n 2, 1) := by decide +kernel
theorem dX1_sumOfRunning_64 : decode cX1_sumOfRunning 64 = .ok (.invokevirtual 56, 3) := by decide +kernel
theorem dX1_sumOfRunning_67 : decode cX1_sumOfRunning 67 = .ok (.aload_n 0, 1) := by decide +kernel
theorem dX1_sumOfRunning_68 : decode cX1_sumOfRunning 68 = .ok (.getfield 9, 3) := by decide +kernel
theorem dX1_sumOfRunning_71 : decode cX1_sumOfRunning 71 = .ok (.getfield 59, 3) := by decide +kernel
theorem dX1_sumOfRunning_74 : decode cX1_sumOfRunning 74 = .ok (.iload_n 1, 1) := by decide +kernel
theorem dX1_sumOfRunning_75 : decode cX1_sumOfRunning 75 = .ok (.aaload, 1) := by decide +kernel
theorem dX1_sumOfRunning_76 : decode cX1_sumOfRunning 76 = .ok (.iconst 3, 1) := by decide +kernel
theorem dX1_sumOfRunning_77 : decode cX1_sumOfRunning 77 = .ok (.iaload, 1) := by decide +kernel
theorem dX1_sumOfRunning_78 : decode cX1_sumOfRunning 78 = .ok (.i2l, 1) := by decide +kernel
theorem dX1_sumOfRunning_79 : decode cX1_sumOfRunning 79 = .ok (.lload 8, 2) := by decide +kernel
theorem dX1_sumOfRunning_81 : decode cX1_sumOfRunning 81 = .ok (.lmul, 1) := by decide +kernel
theorem dX1_sumOfRunning_82 : decode cX1_sumOfRunning 82 = .ok (.lsub, 1) := by decide +kernel
theorem dX1_sumOfRunning_83 : decode cX1_sumOfRunning 83 = .ok (.lstore 10, 2) := by decide +kernel
theorem dX1_sumOfRunning_85 : decode cX1_sumOfRunning 85 = .ok (.lload 5, 2) := by decide +kernel
theorem dX1_sumOfRunning_87 : decode cX1_sumOfRunning 87 = .ok (.aload_n 0, 1) := by decide +kernel
theorem dX1_sumOfRunning_88 : decode cX1_sumOfRunning 88 = .ok (.getfield 9, 3) := by decide +kernel
theorem dX1_sumOfRunning_91 : decode cX1_sumOfRunning 91 = .ok (.getfield 63, 3) := by decide +kernel
theorem dX1_sumOfRunning_94 : decode cX1_sumOfRunning 94 = .ok (.iload 7, 2) := by decide +kernel
theorem dX1_sumOfRunning_96 : decode cX1_sumOfRunning 96 = .ok (.aaload, 1) := by decide +kernel
theorem dX1_sumOfRunning_97 : decode cX1_sumOfRunning 97 = .ok (.iconst 0, 1) := by decide +kernel
theorem dX1_sumOfRunning_98 : decode cX1_sumOfRunning 98 = .ok (.iaload, 1) := by decide +kernel
theorem dX1_sumOfRunning_99 : decode cX1_sumOfRunning 99 = .ok (.i2l, 1) := by decide +kernel
theorem dX1_sumOfRunning_100 : decode cX1_sumOfRunning 100 = .ok (.lload 10, 2) := by decide +kernel
theorem dX1_sumOfRunning_102 : decode cX1_sumOfRunning 102 = .ok (.lmul, 1) := by decide +kernel
theorem dX1_sumOfRunning_103 : decode cX1_sumOfRunning 103 = .ok (.ladd, 1) := by decide +kernel
theorem dX1_sumOfRunning_104 : decode cX1_sumOfRunning 104 = .ok (.lstore 5, 2) := by decide +kernel
theorem dX1_sumOfRunning_106 : decode cX1_sumOfRunning 106 = .ok (.iinc 7 1, 3) := by decide +kernel
theorem dX1_sumOfRunning_109 : decode cX1_sumOfRunning 109 = .ok (.goto (-103), 3) := by decide +kernel
theorem dX1_sumOfRunning_112 : decode cX1_sumOfRunning 112 = .ok (.lload 5, 2) := by decide +kernel
theorem dX1_sumOfRunning_114 : decode cX1_sumOfRunning 114 = .ok (.lreturn, 1) := by decide +kernel
theorem dX2_init_0 : decode cX2_init 0 = .ok (.aload_n 0, 1) := by decide +kernel
theorem dX2_init_1 : decode cX2_init 1 = .ok (.invokespecial 3, 3) := by decide +kernel
theorem dX2_init_4 : decode cX2_init 4 = .ok (.aload_n 0, 1) := by decide +kernel
theorem dX2_init_5 : decode cX2_init 5 = .ok (.iconst 4, 1) := by decide +kernel
theorem dX2_init_6 : decode cX2_init 6 = .ok (.newarray .int, 2) := by decide +kernel
theorem dX2_init_8 : decode cX2_init 8 = .ok (.putfield 9, 3) := by decide +kernel
theorem dX2_init_11 : decode cX2_init 11 = .ok (.aload_n 0, 1) := by decide +kernel
theorem dX2_init_12 : decode cX2_init 12 = .ok (.iconst 4, 1) := by decide +kernel
theorem dX2_init_13 : decode cX2_init 13 = .ok (.newarray .int, 2) := by decide +kernel
theorem dX2_init_15 : decode cX2_init 15 = .ok (.putfield 15, 3) := by decide +kernel
theorem dX2_init_18 : decode cX2_init 18 = .ok (.aload_n 0, 1) := by decide +kernel
theorem dX2_init_19 : decode cX2_init 19 = .ok (.iconst 4, 1) := by decide +kernel
theorem dX2_init_20 : decode cX2_init 20 = .ok (.newarray .int, 2) := by decide +kernel
theorem dX2_init_22 : decode cX2_init 22 = .ok (.putfield 18, 3) := by decide +kernel
theorem dX2_init_25 : decode cX2_init 25 = .ok (.aload_n 0, 1) := by decide +kernel
theorem dX2_init_26 : decode cX2_init 26 = .ok (.iconst 4, 1) := by decide +kernel
theorem dX2_init_27 : decode cX2_init 27 = .ok (.bipush 8, 2) := by decide +kernel
theorem dX2_init_29 : decode cX2_init 29 = .ok (.multianewarray 21 2, 4) := by decide +kernel
theorem dX2_init_33 : decode cX2_init 33 = .ok (.putfield 23, 3) := by decide +kernel
theorem dX2_init_36 : decode cX2_init 36 = .ok (.aload_n 0, 1) := by decide +kernel
theorem dX2_init_37 : decode cX2_init 37 = .ok (.aload_n 1, 1) := by decide +kernel
theorem dX2_init_38 : decode cX2_init 38 = .ok (.putfield 26, 3) := by decide +kernel
theorem dX2_init_41 : decode cX2_init 41 = .ok (.return_, 1) := by decide +kernel
theorem dX2_asUsual_0 : decode cX2_asUsual 0 = .ok (.aload_n 0, 1) := by decide +kernel
theorem dX2_asUsual_1 : decode cX2_asUsual 1 = .ok (.iconst 0, 1) := by decide +kernel
theorem dX2_asUsual_2 : decode cX2_asUsual 2 = .ok (.putfield 30, 3) := by decide +kernel
theorem dX2_asUsual_5 : decode cX2_asUsual 5 = .ok (.aload_n 0, 1) := by decide +kernel
theorem dX2_asUsual_6 : decode cX2_asUsual 6 = .ok (.iconst 0, 1) := by decide +kernel
theorem dX2_asUsual_7 : decode cX2_asUsual 7 = .ok (.putfield 34, 3) := by decide +kernel
theorem dX2_asUsual_10 : decode cX2_asUsual 10 = .ok (.return_, 1) := by decide +kernel
theorem dX2_inConvoy_0 : decode cX2_inConvoy 0 = .ok (.aload_n 0, 1) := by decide +kernel
theorem dX2_inConvoy_1 : decode cX2_inConvoy 1 = .ok (.iload_n 1, 1) := by decide +kernel
theorem dX2_inConvoy_2 : decode cX2_inConvoy 2 = .ok (.putfield 30, 3) := by decide +kernel
theorem dX2_inConvoy_5 : decode cX2_inConvoy 5 = .ok (.aload_n 0, 1) := by decide +kernel
theorem dX2_inConvoy_6 : decode cX2_inConvoy 6 = .ok (.iload_n 2, 1) := by decide +kernel
theorem dX2_inConvoy_7 : decode cX2_inConvoy 7 = .ok (.putfield 38, 3) := by decide +kernel
theorem dX2_inConvoy_10 : decode cX2_inConvoy 10 = .ok (.aload_n 0, 1) := by decide +kernel
theorem dX2_inConvoy_11 : decode cX2_inConvoy 11 = .ok (.iconst 0, 1) := by decide +kernel
theorem dX2_inConvoy_12 : decode cX2_inConvoy 12 = .ok (.putfield 34, 3) := by decide +kernel
theorem dX2_inConvoy_15 : decode cX2_inConvoy 15 = .ok (.return_, 1) := by decide +kernel
theorem dX2_dearestFirst_0 : decode cX2_dearestFirst 0 = .ok (.aload_n 0, 1) := by decide +kernel
theorem dX2_dearestFirst_1 : decode cX2_dearestFirst 1 = .ok (.iconst 0, 1) := by decide +kernel
theorem dX2_dearestFirst_2 : decode cX2_dearestFirst 2 = .ok (.putfield 30, 3) := by decide +kernel
theorem dX2_dearestFirst_5 : decode cX2_dearestFirst 5 = .ok (.aload_n 0, 1) := by decide +kernel
theorem dX2_dearestFirst_6 : decode cX2_dearestFirst 6 = .ok (.iconst 1, 1) := by decide +kernel
theorem dX2_dearestFirst_7 : decode cX2_dearestFirst 7 = .ok (.putfield 34, 3) := by decide +kernel
theorem dX2_dearestFirst_10 : decode cX2_dearestFirst 10 = .ok (.return_, 1) := by decide +kernel
theorem dX2_meanOf_0 : decode cX2_meanOf 0 = .ok (.lconst 0, 1) := by decide +kernel
theorem dX2_meanOf_1 : decode cX2_meanOf 1 = .ok (.lstore 4, 2) := by decide +kernel
theorem dX2_meanOf_3 : decode cX2_meanOf 3 = .ok (.iconst 0, 1) := by decide +kernel
theorem dX2_meanOf_4 : decode cX2_meanOf 4 = .ok (.istore 6, 2) := by decide +kernel
theorem dX2_meanOf_6 : decode cX2_meanOf 6 = .ok (.iload 6, 2) := by decide +kernel
theorem dX2_meanOf_8 : decode cX2_meanOf 8 = .ok (.aload_n 0, 1) := by decide +kernel
theorem dX2_meanOf_9 : decode cX2_meanOf 9 = .ok (.getfield 26, 3) := by decide +kernel
theorem dX2_meanOf_12 : decode cX2_meanOf 12 = .ok (.getfield 41, 3) := by decide +kernel
theorem dX2_meanOf_15 : decode cX2_meanOf 15 = .ok (.if_icmp .ge 60, 3) := by decide +kernel
theorem dX2_meanOf_18 : decode cX2_meanOf 18 = .ok (.iload_n 2, 1) := by decide +kernel
theorem dX2_meanOf_19 : decode cX2_meanOf 19 = .ok (.iload 6, 2) := by decide +kernel
theorem dX2_meanOf_21 : decode cX2_meanOf 21 = .ok (.ishr, 1) := by decide +kernel
theorem dX2_meanOf_22 : decode cX2_meanOf 22 = .ok (.iconst 1, 1) := by decide +kernel
theorem dX2_meanOf_23 : decode cX2_meanOf 23 = .ok (.iand, 1) := by decide +kernel
theorem dX2_meanOf_24 : decode cX2_meanOf 24 = .ok (.ifCond .eq 45, 3) := by decide +kernel
theorem dX2_meanOf_27 : decode cX2_meanOf 27 = .ok (.aload_n 0, 1) := by decide +kernel
theorem dX2_meanOf_28 : decode cX2_meanOf 28 = .ok (.getfield 26, 3) := by decide +kernel
theorem dX2_meanOf_31 : decode cX2_meanOf 31 = .ok (.getfield 46, 3) := by decide +kernel
theorem dX2_meanOf_34 : decode cX2_meanOf 34 = .ok (.iload 6, 2) := by decide +kernel
theorem dX2_meanOf_36 : decode cX2_meanOf 36 = .ok (.aaload, 1) := by decide +kernel
theorem dX2_meanOf_37 : decode cX2_meanOf 37 = .ok (.iconst 0, 1) := by decide +kernel
theorem dX2_meanOf_38 : decode cX2_meanOf 38 = .ok (.iaload, 1) := by decide +kernel
theorem dX2_meanOf_39 : decode cX2_meanOf 39 = .ok (.ifCond .le 30, 3) := by decide +kernel
theorem dX2_meanOf_42 : decode cX2_meanOf 42 = .ok (.lload 4, 2) := by decide +kernel
theorem dX2_meanOf_44 : decode cX2_meanOf 44 = .ok (.aload_n 0, 1) := by decide +kernel
theorem dX2_meanOf_45 : decode cX2_meanOf 45 = .ok (.getfield 26, 3) := by decide +kernel
theorem dX2_meanOf_48 : decode cX2_meanOf 48 = .ok (.getfield 46, 3) := by decide +kernel
theorem dX2_meanOf_51 : decode cX2_meanOf 51 = .ok (.iload 6, 2) := by decide +kernel
theorem dX2_meanOf_53 : decode cX2_meanOf 53 = .ok (.aaload, 1) := by decide +kernel
theorem dX2_meanOf_54 : decode cX2_meanOf 54 = .ok (.iconst 0, 1) := by decide +kernel
theorem dX2_meanOf_55 : decode cX2_meanOf 55 = .ok (.iaload, 1) := by decide +kernel
theorem dX2_meanOf_56 : decode cX2_meanOf 56 = .ok (.i2l, 1) := by decide +kernel
theorem dX2_meanOf_57 : decode cX2_meanOf 57 = .ok (.aload_n 0, 1) := by decide +kernel
theorem dX2_meanOf_58 : decode cX2_meanOf 58 = .ok (.iload 6, 2) := by decide +kernel
theorem dX2_meanOf_60 : decode cX2_meanOf 60 = .ok (.aload_n 1, 1) := by decide +kernel
theorem dX2_meanOf_61 : decode cX2_meanOf 61 = .ok (.iload_n 3, 1) := by decide +kernel
theorem dX2_meanOf_62 : decode cX2_meanOf 62 = .ok (.invokevirtual 49, 3) := by decide +kernel
theorem dX2_meanOf_65 : decode cX2_meanOf 65 = .ok (.lmul, 1) := by decide +kernel
theorem dX2_meanOf_66 : decode cX2_meanOf 66 = .ok (.ladd, 1) := by decide +kernel
theorem dX2_meanOf_67 : decode cX2_meanOf 67 = .ok (.lstore 4, 2) := by decide +kernel
theorem dX2_meanOf_69 : decode cX2_meanOf 69 = .ok (.iinc 6 1, 3) := by decide +kernel
theorem dX2_meanOf_72 : decode cX2_meanOf 72 = .ok (.goto (-66), 3) := by decide +kernel
theorem dX2_meanOf_75 : decode cX2_meanOf 75 = .ok (.lload 4, 2) := by decide +kernel
theorem dX2_meanOf_77 : decode cX2_meanOf 77 = .ok (.lreturn, 1) := by decide +kernel
theorem dX2_worthOf_0 : decode cX2_worthOf 0 = .ok (.aload_n 0, 1) := by decide +kernel
theorem dX2_worthOf_1 : decode cX2_worthOf 1 = .ok (.iload_n 1, 1) := by decide +kernel
theorem dX2_worthOf_2 : decode cX2_worthOf 2 = .ok (.aload_n 2, 1) := by decide +kernel
theorem dX2_worthOf_3 : decode cX2_worthOf 3 = .ok (.invokevirtual 53, 3) := by decide +kernel
theorem dX2_worthOf_6 : decode cX2_worthOf 6 = .ok (.lconst 0, 1) := by decide +kernel
theorem dX2_worthOf_7 : decode cX2_worthOf 7 = .ok (.lstore 4, 2) := by decide +kernel
theorem dX2_worthOf_9 : decode cX2_worthOf 9 = .ok (.iconst 0, 1) := by decide +kernel
theorem dX2_worthOf_10 : decode cX2_worthOf 10 = .ok (.istore 6, 2) := by decide +kernel
theorem dX2_worthOf_12 : decode cX2_worthOf 12 = .ok (.iload 6, 2) := by decide +kernel
theorem dX2_worthOf_14 : decode cX2_worthOf 14 = .ok (.aload_n 0, 1) := by decide +kernel
theorem dX2_worthOf_15 : decode cX2_worthOf 15 = .ok (.getfield 26, 3) := by decide +kernel
theorem dX2_worthOf_18 : decode cX2_worthOf 18 = .ok (.getfield 57, 3) := by decide +kernel
theorem dX2_worthOf_21 : decode cX2_worthOf 21 = .ok (.if_icmp .ge 31, 3) := by decide +kernel
theorem dX2_worthOf_24 : decode cX2_worthOf 24 = .ok (.iload_n 3, 1) := by decide +kernel
theorem dX2_worthOf_25 : decode cX2_worthOf 25 = .ok (.iload 6, 2) := by decide +kernel
theorem dX2_worthOf_27 : decode cX2_worthOf 27 = .ok (.ishr, 1) := by decide +kernel
theorem dX2_worthOf_28 : decode cX2_worthOf 28 = .ok (.iconst 1, 1) := by decide +kernel
theorem dX2_worthOf_29 : decode cX2_worthOf 29 = .ok (.iand, 1) := by decide +kernel
theorem dX2_worthOf_30 : decode cX2_worthOf 30 = .ok (.ifCond .eq 16, 3) := by decide +kernel
theorem dX2_worthOf_33 : decode cX2_worthOf 33 = .ok (.lload 4, 2) := by decide +kernel
theorem dX2_worthOf_35 : decode cX2_worthOf 35 = .ok (.aload_n 0, 1) := by decide +kernel
theorem dX2_worthOf_36 : decode cX2_worthOf 36 = .ok (.iload_n 1, 1) := by decide +kernel
theorem dX2_worthOf_37 : decode cX2_worthOf 37 = .ok (.iload 6, 2) := by decide +kernel
theorem dX2_worthOf_39 : decode cX2_worthOf 39 = .ok (.aload_n 2, 1) := by decide +kernel
theorem dX2_worthOf_40 : decode cX2_worthOf 40 = .ok (.invokevirtual 60, 3) := by decide +kernel
theorem dX2_worthOf_43 : decode cX2_worthOf 43 = .ok (.ladd, 1) := by decide +kernel
theorem dX2_worthOf_44 : decode cX2_worthOf 44 = .ok (.lstore 4, 2) := by decide +kernel
theorem dX2_worthOf_46 : decode cX2_worthOf 46 = .ok (.iinc 6 1, 3) := by decide +kernel
theorem dX2_worthOf_49 : decode cX2_worthOf 49 = .ok (.goto (-37), 3) := by decide +kernel
theorem dX2_worthOf_52 : decode cX2_worthOf 52 = .ok (.lload 4, 2) := by decide +kernel
theorem dX2_worthOf_54 : decode cX2_worthOf 54 = .ok (.lreturn, 1) := by decide +kernel
theorem dX2_worthOfSort_0 : decode cX2_worthOfSort 0 = .ok (.aload_n 0, 1) := by decide +kernel
theorem dX2_worthOfSort_1 : decode cX2_worthOfSort 1 = .ok (.getfield 26, 3) := by decide +kernel
theorem dX2_worthOfSort_4 : decode cX2_worthOfSort 4 = .ok (.getfield 64, 3) := by decide +kernel
theorem dX2_worthOfSort_7 : decode cX2_worthOfSort 7 = .ok (.iload_n 2, 1) := by decide +kernel
theorem dX2_worthOfSort_8 : decode cX2_worthOfSort 8 = .ok (.aaload, 1) := by decide +kernel
theorem dX2_worthOfSort_9 : decode cX2_worthOfSort 9 = .ok (.iconst 0, 1) := by decide +kernel
theorem dX2_worthOfSort_10 : decode cX2_worthOfSort 10 = .ok (.iaload, 1) := by decide +kernel
theorem dX2_worthOfSort_11 : decode cX2_worthOfSort 11 = .ok (.istore 4, 2) := by decide +kernel
theorem dX2_worthOfSort_13 : decode cX2_worthOfSort 13 = .ok (.lconst 0, 1) := by decide +kernel
theorem dX2_worthOfSort_14 : decode cX2_worthOfSort 14 = .ok (.lstore 5, 2) := by decide +kernel
theorem dX2_worthOfSort_16 : decode cX2_worthOfSort 16 = .ok (.iconst 0, 1) := by decide +kernel
theorem dX2_worthOfSort_17 : decode cX2_worthOfSort 17 = .ok (.istore 7, 2) := by decide +kernel
theorem dX2_worthOfSort_19 : decode cX2_worthOfSort 19 = .ok (.iload 7, 2) := by decide +kernel
theorem dX2_worthOfSort_21 : decode cX2_worthOfSort 21 = .ok (.iload 4, 2) := by decide +kernel
theorem dX2_worthOfSort_23 : decode cX2_worthOfSort 23 = .ok (.if_icmp .ge 36, 3) := by decide +kernel
theorem dX2_worthOfSort_26 : decode cX2_worthOfSort 26 = .ok (.lload 5, 2) := by decide +kernel
theorem dX2_worthOfSort_28 : decode cX2_worthOfSort 28 = .ok (.ldc 67, 2) := by decide +kernel
theorem dX2_worthOfSort_30 : decode cX2_worthOfSort 30 = .ok (.aload_n 0, 1) := by decide +kernel
theorem dX2_worthOfSort_31 : decode cX2_worthOfSort 31 = .ok (.getfield 26, 3) := by decide +kernel
theorem dX2_worthOfSort_34 : decode cX2_worthOfSort 34 = .ok (.iload_n 1, 1) := by decide +kernel
theorem dX2_worthOfSort_35 : decode cX2_worthOfSort 35 = .ok (.iload_n 2, 1) := by decide +kernel
theorem dX2_worthOfSort_36 : decode cX2_worthOfSort 36 = .ok (.aload_n 0, 1) := by decide +kernel
theorem dX2_worthOfSort_37 : decode cX2_worthOfSort 37 = .ok (.getfield 23, 3) := by decide +kernel
theorem dX2_worthOfSort_40 : decode cX2_worthOfSort 40 = .ok (.iload_n 2, 1) := by decide +kernel
theorem dX2_worthOfSort_41 : decode cX2_worthOfSort 41 = .ok (.aaload, 1) := by decide +kernel
theorem dX2_worthOfSort_42 : decode cX2_worthOfSort 42 = .ok (.iload 7, 2) := by decide +kernel
theorem dX2_worthOfSort_44 : decode cX2_worthOfSort 44 = .ok (.iaload, 1) := by decide +kernel
theorem dX2_worthOfSort_45 : decode cX2_worthOfSort 45 = .ok (.invokevirtual 68, 3) := by decide +kernel
theorem dX2_worthOfSort_48 : decode cX2_worthOfSort 48 = .ok (.isub, 1) := by decide +kernel
theorem dX2_worthOfSort_49 : decode cX2_worthOfSort 49 = .ok (.i2l, 1) := by decide +kernel
theorem dX2_worthOfSort_50 : decode cX2_worthOfSort 50 = .ok (.ladd, 1) := by decide +kernel
theorem dX2_worthOfSort_51 : decode cX2_worthOfSort 51 = .ok (.lstore 5, 2) := by decide +kernel
theorem dX2_worthOfSort_53 : decode cX2_worthOfSort 53 = .ok (.iinc 7 1, 3) := by decide +kernel
theorem dX2_worthOfSort_56 : decode cX2_worthOfSort 56 = .ok (.goto (-37), 3) := by decide +kernel
theorem dX2_worthOfSort_59 : decode cX2_worthOfSort 59 = .ok (.iload 4, 2) := by decide +kernel
theorem dX2_worthOfSort_61 : decode cX2_worthOfSort 61 = .ok (.i2l, 1) := by decide +kernel
theorem dX2_worthOfSort_62 : decode cX2_worthOfSort 62 = .ok (.aload_n 0, 1) := by decide +kernel
theorem dX2_worthOfSort_63 : decode cX2_worthOfSort 63 = .ok (.getfield 26, 3) := by decide +kernel
theorem dX2_worthOfSort_66 : decode cX2_worthOfSort 66 = .ok (.iload_n 1, 1) := by decide +kernel
theorem dX2_worthOfSort_67 : decode cX2_worthOfSort 67 = .ok (.iload_n 2, 1) := by decide +kernel
theorem dX2_worthOfSort_68 : decode cX2_worthOfSort 68 = .ok (.aload_n 3, 1) := by decide +kernel
theorem dX2_worthOfSort_69 : decode cX2_worthOfSort 69 = .ok (.getfield 72, 3) := by decide +kernel
theorem dX2_worthOfSort_72 : decode cX2_worthOfSort 72 = .ok (.iload_n 2, 1) := by decide +kernel
theorem dX2_worthOfSort_73 : decode cX2_worthOfSort 73 = .ok (.iaload, 1) := by decide +kernel
theorem dX2_worthOfSort_74 : decode cX2_worthOfSort 74 = .ok (.invokevirtual 77, 3) := by decide +kernel
theorem dX2_worthOfSort_77 : decode cX2_worthOfSort 77 = .ok (.lmul, 1) := by decide +kernel
theorem dX2_worthOfSort_78 : decode cX2_worthOfSort 78 = .ok (.aload_n 0, 1) := by decide +kernel
theorem dX2_worthOfSort_79 : decode cX2_worthOfSort 79 = .ok (.getfield 26, 3) := by decide +kernel
theorem dX2_worthOfSort_82 : decode cX2_worthOfSort 82 = .ok (.getfield 64, 3) := by decide +kernel
theorem dX2_worthOfSort_85 : decode cX2_worthOfSort 85 = .ok (.iload_n 2, 1) := by decide +kernel
theorem dX2_worthOfSort_86 : decode cX2_worthOfSort 86 = .ok (.aaload, 1) := by decide +kernel
theorem dX2_worthOfSort_87 : decode cX2_worthOfSort 87 = .ok (.iconst 3, 1) := by decide +kernel
theorem dX2_worthOfSort_88 : decode cX2_worthOfSort 88 = .ok (.iaload, 1) := by decide +kernel
theorem dX2_worthOfSort_89 : decode cX2_worthOfSort 89 = .ok (.i2l, 1) := by decide +kernel
theorem dX2_worthOfSort_90 : decode cX2_worthOfSort 90 = .ok (.lload 5, 2) := by decide +kernel
theorem dX2_worthOfSort_92 : decode cX2_worthOfSort 92 = .ok (.lmul, 1) := by decide +kernel
theorem dX2_worthOfSort_93 : decode cX2_worthOfSort 93 = .ok (.lsub, 1) := by decide +kernel
theorem dX2_worthOfSort_94 : decode cX2_worthOfSort 94 = .ok (.lreturn, 1) := by decide +kernel
theorem dX2_sail_0 : decode cX2_sail 0 = .ok (.iconst 0, 1) := by decide +kernel
theorem dX2_sail_1 : decode cX2_sail 1 = .ok (.istore_n 3, 1) := by decide +kernel
theorem dX2_sail_2 : decode cX2_sail 2 = .ok (.iload_n 3, 1) := by decide +kernel
theorem dX2_sail_3 : decode cX2_sail 3 = .ok (.aload_n 0, 1) := by decide +kernel
theorem dX2_sail_4 : decode cX2_sail 4 = .ok (.getfield 26, 3) := by decide +kernel
theorem dX2_sail_7 : decode cX2_sail 7 = .ok (.getfield 57, 3) := by decide +kernel
theorem dX2_sail_10 : decode cX2_sail 10 = .ok (.if_icmp .ge 65, 3) := by decide +kernel
theorem dX2_sail_13 : decode cX2_sail 13 = .ok (.aload_n 0, 1) := by decide +kernel
theorem dX2_sail_14 : decode cX2_sail 14 = .ok (.getfield 9, 3) := by decide +kernel
theorem dX2_sail_17 : decode cX2_sail 17 = .ok (.iload_n 3, 1) := by decide +kernel
theorem dX2_sail_18 : decode cX2_sail 18 = .ok (.aload_n 0, 1) := by decide +kernel
theorem dX2_sail_19 : decode cX2_sail 19 = .ok (.iload_n 3, 1) := by decide +kernel
theorem dX2_sail_20 : decode cX2_sail 20 = .ok (.iload_n 1, 1) := by decide +kernel
theorem dX2_sail_21 : decode cX2_sail 21 = .ok (.aload_n 2, 1) := by decide +kernel
theorem dX2_sail_22 : decode cX2_sail 22 = .ok (.invokevirtual 81, 3) := by decide +kernel
theorem dX2_sail_25 : decode cX2_sail 25 = .ok (.iastore, 1) := by decide +kernel
theorem dX2_sail_26 : decode cX2_sail 26 = .ok (.aload_n 0, 1) := by decide +kernel
theorem dX2_sail_27 : decode cX2_sail 27 = .ok (.getfield 18, 3) := by decide +kernel
theorem dX2_sail_30 : decode cX2_sail 30 = .ok (.iload_n 3, 1) := by decide +kernel
theorem dX2_sail_31 : decode cX2_sail 31 = .ok (.iconst 0, 1) := by decide +kernel
theorem dX2_sail_32 : decode cX2_sail 32 = .ok (.iastore, 1) := by decide +kernel
theorem dX2_sail_33 : decode cX2_sail 33 = .ok (.iconst 0, 1) := by decide +kernel
theorem dX2_sail_34 : decode cX2_sail 34 = .ok (.istore 4, 2) := by decide +kernel
theorem dX2_sail_36 : decode cX2_sail 36 = .ok (.iload 4, 2) := by decide +kernel
theorem dX2_sail_38 : decode cX2_sail 38 = .ok (.aload_n 0, 1) := by decide +kernel
theorem dX2_sail_39 : decode cX2_sail 39 = .ok (.getfield 26, 3) := by decide +kernel
theorem dX2_sail_42 : decode cX2_sail 42 = .ok (.getfield 64, 3) := by decide +kernel
theorem dX2_sail_45 : decode cX2_sail 45 = .ok (.iload_n 3, 1) := by decide +kernel
theorem dX2_sail_46 : decode cX2_sail 46 = .ok (.aaload, 1) := by decide +kernel
theorem dX2_sail_47 : decode cX2_sail 47 = .ok (.iconst 0, 1) := by decide +kernel
theorem dX2_sail_48 : decode cX2_sail 48 = .ok (.iaload, 1) := by decide +kernel
theorem dX2_sail_49 : decode cX2_sail 49 = .ok (.if_icmp .ge 20, 3) := by decide +kernel
theorem dX2_sail_52 : decode cX2_sail 52 = .ok (.aload_n 0, 1) := by decide +kernel
theorem dX2_sail_53 : decode cX2_sail 53 = .ok (.getfield 23, 3) := by decide +kernel
theorem dX2_sail_56 : decode cX2_sail 56 = .ok (.iload_n 3, 1) := by decide +kernel
theorem dX2_sail_57 : decode cX2_sail 57 = .ok (.aaload, 1) := by decide +kernel
theorem dX2_sail_58 : decode cX2_sail 58 = .ok (.iload 4, 2) := by decide +kernel
theorem dX2_sail_60 : decode cX2_sail 60 = .ok (.bipush 24, 2) := by decide +kernel
theorem dX2_sail_62 : decode cX2_sail 62 = .ok (.iastore, 1) := by decide +kernel
theorem dX2_sail_63 : decode cX2_sail 63 = .ok (.iinc 4 1, 3) := by decide +kernel
theorem dX2_sail_66 : decode cX2_sail 66 = .ok (.goto (-30), 3) := by decide +kernel
theorem dX2_sail_69 : decode cX2_sail 69 = .ok (.iinc 3 1, 3) := by decide +kernel
theorem dX2_sail_72 : decode cX2_sail 72 = .ok (.goto (-70), 3) := by decide +kernel
theorem dX2_sail_75 : decode cX2_sail 75 = .ok (.aload_n 0, 1) := by decide +kernel
theorem dX2_sail_76 : decode cX2_sail 76 = .ok (.invokevirtual 85, 3) := by decide +kernel
theorem dX2_sail_79 : decode cX2_sail 79 = .ok (.iconst 0, 1) := by decide +kernel
theorem dX2_sail_80 : decode cX2_sail 80 = .ok (.istore_n 3, 1) := by decide +kernel
theorem dX2_sail_81 : decode cX2_sail 81 = .ok (.iload_n 3, 1) := by decide +kernel
theorem dX2_sail_82 : decode cX2_sail 82 = .ok (.aload_n 0, 1) := by decide +kernel
theorem dX2_sail_83 : decode cX2_sail 83 = .ok (.getfield 26, 3) := by decide +kernel
theorem dX2_sail_86 : decode cX2_sail 86 = .ok (.getfield 88, 3) := by decide +kernel
theorem dX2_sail_89 : decode cX2_sail 89 = .ok (.if_icmp .ge 16, 3) := by decide +kernel
theorem dX2_sail_92 : decode cX2_sail 92 = .ok (.aload_n 0, 1) := by decide +kernel
theorem dX2_sail_93 : decode cX2_sail 93 = .ok (.iload_n 3, 1) := by decide +kernel
theorem dX2_sail_94 : decode cX2_sail 94 = .ok (.iload_n 1, 1) := by decide +kernel
theorem dX2_sail_95 : decode cX2_sail 95 = .ok (.aload_n 2, 1) := by decide +kernel
theorem dX2_sail_96 : decode cX2_sail 96 = .ok (.invokevirtual 91, 3) := by decide +kernel
theorem dX2_sail_99 : decode cX2_sail 99 = .ok (.iinc 3 1, 3) := by decide +kernel
theorem dX2_sail_102 : decode cX2_sail 102 = .ok (.goto (-21), 3) := by decide +kernel
theorem dX2_sail_105 : decode cX2_sail 105 = .ok (.return_, 1) := by decide +kernel
theorem dX2_arrivalOf_0 : decode cX2_arrivalOf 0 = .ok (.aload_n 3, 1) := by decide +kernel
theorem dX2_arrivalOf_1 : decode cX2_arrivalOf 1 = .ok (.getfield 72, 3) := by decide +kernel
theorem dX2_arrivalOf_4 : decode cX2_arrivalOf 4 = .ok (.iload_n 1, 1) := by decide +kernel
theorem dX2_arrivalOf_5 : decode cX2_arrivalOf 5 = .ok (.iaload, 1) := by decide +kernel
theorem dX2_arrivalOf_6 : decode cX2_arrivalOf 6 = .ok (.istore 4, 2) := by decide +kernel
theorem dX2_arrivalOf_8 : decode cX2_arrivalOf 8 = .ok (.aload_n 3, 1) := by decide +kernel
theorem dX2_arrivalOf_9 : decode cX2_arrivalOf 9 = .ok (.getfield 95, 3) := by decide +kernel
theorem dX2_arrivalOf_12 : decode cX2_arrivalOf 12 = .ok (.iload_n 1, 1) := by decide +kernel
theorem dX2_arrivalOf_13 : decode cX2_arrivalOf 13 = .ok (.iaload, 1) := by decide +kernel
theorem dX2_arrivalOf_14 : decode cX2_arrivalOf 14 = .ok (.istore 5, 2) := by decide +kernel
theorem dX2_arrivalOf_16 : decode cX2_arrivalOf 16 = .ok (.aload_n 0, 1) := by decide +kernel
theorem dX2_arrivalOf_17 : decode cX2_arrivalOf 17 = .ok (.getfield 30, 3) := by decide +kernel
theorem dX2_arrivalOf_20 : decode cX2_arrivalOf 20 = .ok (.iload_n 1, 1) := by decide +kernel
theorem dX2_arrivalOf_21 : decode cX2_arrivalOf 21 = .ok (.ishr, 1) := by decide +kernel
theorem dX2_arrivalOf_22 : decode cX2_arrivalOf 22 = .ok (.iconst 1, 1) := by decide +kernel
theorem dX2_arrivalOf_23 : decode cX2_arrivalOf 23 = .ok (.iand, 1) := by decide +kernel
theorem dX2_arrivalOf_24 : decode cX2_arrivalOf 24 = .ok (.ifCond .eq 30, 3) := by decide +kernel
theorem dX2_arrivalOf_27 : decode cX2_arrivalOf 27 = .ok (.aload_n 0, 1) := by decide +kernel
theorem dX2_arrivalOf_28 : decode cX2_arrivalOf 28 = .ok (.getfield 26, 3) := by decide +kernel
theorem dX2_arrivalOf_31 : decode cX2_arrivalOf 31 = .ok (.aload_n 0, 1) := by decide +kernel
theorem dX2_arrivalOf_32 : decode cX2_arrivalOf 32 = .ok (.getfield 38, 3) := by decide +kernel
theorem dX2_arrivalOf_35 : decode cX2_arrivalOf 35 = .ok (.aload_n 0, 1) := by decide +kernel
theorem dX2_arrivalOf_36 : decode cX2_arrivalOf 36 = .ok (.getfield 26, 3) := by decide +kernel
theorem dX2_arrivalOf_39 : decode cX2_arrivalOf 39 = .ok (.getfield 98, 3) := by decide +kernel
theorem dX2_arrivalOf_42 : decode cX2_arrivalOf 42 = .ok (.iload_n 1, 1) := by decide +kernel
theorem dX2_arrivalOf_43 : decode cX2_arrivalOf 43 = .ok (.aaload, 1) := by decide +kernel
theorem dX2_arrivalOf_44 : decode cX2_arrivalOf 44 = .ok (.iload 5, 2) := by decide +kernel
theorem dX2_arrivalOf_46 : decode cX2_arrivalOf 46 = .ok (.iaload, 1) := by decide +kernel
theorem dX2_arrivalOf_47 : decode cX2_arrivalOf 47 = .ok (.iload_n 2, 1) := by decide +kernel
theorem dX2_arrivalOf_48 : decode cX2_arrivalOf 48 = .ok (.iload 4, 2) := by decide +kernel
theorem dX2_arrivalOf_50 : decode cX2_arrivalOf 50 = .ok (.invokevirtual 101, 3) := by decide +kernel
theorem dX2_arrivalOf_53 : decode cX2_arrivalOf 53 = .ok (.ireturn, 1) := by decide +kernel
theorem dX2_arrivalOf_54 : decode cX2_arrivalOf 54 = .ok (.aload_n 0, 1) := by decide +kernel
theorem dX2_arrivalOf_55 : decode cX2_arrivalOf 55 = .ok (.getfield 26, 3) := by decide +kernel
theorem dX2_arrivalOf_58 : decode cX2_arrivalOf 58 = .ok (.iload_n 1, 1) := by decide +kernel
theorem dX2_arrivalOf_59 : decode cX2_arrivalOf 59 = .ok (.iload 5, 2) := by decide +kernel
theorem dX2_arrivalOf_61 : decode cX2_arrivalOf 61 = .ok (.iload_n 2, 1) := by decide +kernel
theorem dX2_arrivalOf_62 : decode cX2_arrivalOf 62 = .ok (.iload 4, 2) := by decide +kernel
theorem dX2_arrivalOf_64 : decode cX2_arrivalOf 64 = .ok (.invokevirtual 105, 3) := by decide +kernel
theorem dX2_arrivalOf_67 : decode cX2_arrivalOf 67 = .ok (.ireturn, 1) := by decide +kernel
theorem dX2_putInOrder_0 : decode cX2_putInOrder 0 = .ok (.iconst 0, 1) := by decide +kernel
theorem dX2_putInOrder_1 : decode cX2_putInOrder 1 = .ok (.istore_n 1, 1) := by decide +kernel
theorem dX2_putInOrder_2 : decode cX2_putInOrder 2 = .ok (.iload_n 1, 1) := by decide +kernel
theorem dX2_putInOrder_3 : decode cX2_putInOrder 3 = .ok (.aload_n 0, 1) := by decide +kernel
theorem dX2_putInOrder_4 : decode cX2_putInOrder 4 = .ok (.getfield 26, 3) := by decide +kernel
theorem dX2_putInOrder_7 : decode cX2_putInOrder 7 = .ok (.getfield 57, 3) := by decide +kernel
theorem dX2_putInOrder_10 : decode cX2_putInOrder 10 = .ok (.if_icmp .ge 58, 3) := by decide +kernel
theorem dX2_putInOrder_13 : decode cX2_putInOrder 13 = .ok (.iload_n 1, 1) := by decide +kernel
theorem dX2_putInOrder_14 : decode cX2_putInOrder 14 = .ok (.istore_n 2, 1) := by decide +kernel
theorem dX2_putInOrder_15 : decode cX2_putInOrder 15 = .ok (.iload_n 2, 1) := by decide +kernel
theorem dX2_putInOrder_16 : decode cX2_putInOrder 16 = .ok (.ifCond .le 39, 3) := by decide +kernel
theorem dX2_putInOrder_19 : decode cX2_putInOrder 19 = .ok (.aload_n 0, 1) := by decide +kernel
theorem dX2_putInOrder_20 : decode cX2_putInOrder 20 = .ok (.iload_n 1, 1) := by decide +kernel
theorem dX2_putInOrder_21 : decode cX2_putInOrder 21 = .ok (.aload_n 0, 1) := by decide +kernel
theorem dX2_putInOrder_22 : decode cX2_putInOrder 22 = .ok (.getfield 15, 3) := by decide +kernel
theorem dX2_putInOrder_25 : decode cX2_putInOrder 25 = .ok (.iload_n 2, 1) := by decide +kernel
theorem dX2_putInOrder_26 : decode cX2_putInOrder 26 = .ok (.iconst 1, 1) := by decide +kernel
theorem dX2_putInOrder_27 : decode cX2_putInOrder 27 = .ok (.isub, 1) := by decide +kernel
theorem dX2_putInOrder_28 : decode cX2_putInOrder 28 = .ok (.iaload, 1) := by decide +kernel
theorem dX2_putInOrder_29 : decode cX2_putInOrder 29 = .ok (.invokevirtual 107, 3) := by decide +kernel
theorem dX2_putInOrder_32 : decode cX2_putInOrder 32 = .ok (.ifCond .eq 23, 3) := by decide +kernel
theorem dX2_putInOrder_35 : decode cX2_putInOrder 35 = .ok (.aload_n 0, 1) := by decide +kernel
theorem dX2_putInOrder_36 : decode cX2_putInOrder 36 = .ok (.getfield 15, 3) := by decide +kernel
theorem dX2_putInOrder_39 : decode cX2_putInOrder 39 = .ok (.iload_n 2, 1) := by decide +kernel
theorem dX2_putInOrder_40 : decode cX2_putInOrder 40 = .ok (.aload_n 0, 1) := by decide +kernel
theorem dX2_putInOrder_41 : decode cX2_putInOrder 41 = .ok (.getfield 15, 3) := by decide +kernel
theorem dX2_putInOrder_44 : decode cX2_putInOrder 44 = .ok (.iload_n 2, 1) := by decide +kernel
theorem dX2_putInOrder_45 : decode cX2_putInOrder 45 = .ok (.iconst 1, 1) := by decide +kernel
theorem dX2_putInOrder_46 : decode cX2_putInOrder 46 = .ok (.isub, 1) := by decide +kernel
theorem dX2_putInOrder_47 : decode cX2_putInOrder 47 = .ok (.iaload, 1) := by decide +kernel
theorem dX2_putInOrder_48 : decode cX2_putInOrder 48 = .ok (.iastore, 1) := by decide +kernel
theorem dX2_putInOrder_49 : decode cX2_putInOrder 49 = .ok (.iinc 2 (-1), 3) := by decide +kernel
theorem dX2_putInOrder_52 : decode cX2_putInOrder 52 = .ok (.goto (-37), 3) := by decide +kernel
theorem dX2_putInOrder_55 : decode cX2_putInOrder 55 = .ok (.aload_n 0, 1) := by decide +kernel
theorem dX2_putInOrder_56 : decode cX2_putInOrder 56 = .ok (.getfield 15, 3) := by decide +kernel
theorem dX2_putInOrder_59 : decode cX2_putInOrder 59 = .ok (.iload_n 2, 1) := by decide +kernel
theorem dX2_putInOrder_60 : decode cX2_putInOrder 60 = .ok (.iload_n 1, 1) := by decide +kernel
theorem dX2_putInOrder_61 : decode cX2_putInOrder 61 = .ok (.iastore, 1) := by decide +kernel
theorem dX2_putInOrder_62 : decode cX2_putInOrder 62 = .ok (.iinc 1 1, 3) := by decide +kernel
theorem dX2_putInOrder_65 : decode cX2_putInOrder 65 = .ok (.goto (-63), 3) := by decide +kernel
theorem dX2_putInOrder_68 : decode cX2_putInOrder 68 = .ok (.return_, 1) := by decide +kernel
theorem dX2_goesAhead_0 : decode cX2_goesAhead 0 = .ok (.aload_n 0, 1) := by decide +kernel
theorem dX2_goesAhead_1 : decode cX2_goesAhead 1 = .ok (.getfield 34, 3) := by decide +kernel
theorem dX2_goesAhead_4 : decode cX2_goesAhead 4 = .ok (.ifCond .eq 70, 3) := by decide +kernel
theorem dX2_goesAhead_7 : decode cX2_goesAhead 7 = .ok (.aload_n 0, 1) := by decide +kernel
theorem dX2_goesAhead_8 : decode cX2_goesAhead 8 = .ok (.getfield 26, 3) := by decide +kernel
theorem dX2_goesAhead_11 : decode cX2_goesAhead 11 = .ok (.getfield 64, 3) := by decide +kernel
theorem dX2_goesAhead_14 : decode cX2_goesAhead 14 = .ok (.iload_n 1, 1) := by decide +kernel
theorem dX2_goesAhead_15 : decode cX2_goesAhead 15 = .ok (.aaload, 1) := by decide +kernel
theorem dX2_goesAhead_16 : decode cX2_goesAhead 16 = .ok (.iconst 3, 1) := by decide +kernel
theorem dX2_goesAhead_17 : decode cX2_goesAhead 17 = .ok (.iaload, 1) := by decide +kernel
theorem dX2_goesAhead_18 : decode cX2_goesAhead 18 = .ok (.aload_n 0, 1) := by decide +kernel
theorem dX2_goesAhead_19 : decode cX2_goesAhead 19 = .ok (.getfield 26, 3) := by decide +kernel
theorem dX2_goesAhead_22 : decode cX2_goesAhead 22 = .ok (.getfield 64, 3) := by decide +kernel
theorem dX2_goesAhead_25 : decode cX2_goesAhead 25 = .ok (.iload_n 1, 1) := by decide +kernel
theorem dX2_goesAhead_26 : decode cX2_goesAhead 26 = .ok (.aaload, 1) := by decide +kernel
theorem dX2_goesAhead_27 : decode cX2_goesAhead 27 = .ok (.iconst 4, 1) := by decide +kernel
theorem dX2_goesAhead_28 : decode cX2_goesAhead 28 = .ok (.iaload, 1) := by decide +kernel
theorem dX2_goesAhead_29 : decode cX2_goesAhead 29 = .ok (.imul, 1) := by decide +kernel
theorem dX2_goesAhead_30 : decode cX2_goesAhead 30 = .ok (.istore_n 3, 1) := by decide +kernel
theorem dX2_goesAhead_31 : decode cX2_goesAhead 31 = .ok (.aload_n 0, 1) := by decide +kernel
theorem dX2_goesAhead_32 : decode cX2_goesAhead 32 = .ok (.getfield 26, 3) := by decide +kernel
theorem dX2_goesAhead_35 : decode cX2_goesAhead 35 = .ok (.getfield 64, 3) := by decide +kernel
theorem dX2_goesAhead_38 : decode cX2_goesAhead 38 = .ok (.iload_n 2, 1) := by decide +kernel
theorem dX2_goesAhead_39 : decode cX2_goesAhead 39 = .ok (.aaload, 1) := by decide +kernel
theorem dX2_goesAhead_40 : decode cX2_goesAhead 40 = .ok (.iconst 3, 1) := by decide +kernel
theorem dX2_goesAhead_41 : decode cX2_goesAhead 41 = .ok (.iaload, 1) := by decide +kernel
theorem dX2_goesAhead_42 : decode cX2_goesAhead 42 = .ok (.aload_n 0, 1) := by decide +kernel
theorem dX2_goesAhead_43 : decode cX2_goesAhead 43 = .ok (.getfield 26, 3) := by decide +kernel
theorem dX2_goesAhead_46 : decode cX2_goesAhead 46 = .ok (.getfield 64, 3) := by decide +kernel
theorem dX2_goesAhead_49 : decode cX2_goesAhead 49 = .ok (.iload_n 2, 1) := by decide +kernel
theorem dX2_goesAhead_50 : decode cX2_goesAhead 50 = .ok (.aaload, 1) := by decide +kernel
theorem dX2_goesAhead_51 : decode cX2_goesAhead 51 = .ok (.iconst 4, 1) := by decide +kernel
theorem dX2_goesAhead_52 : decode cX2_goesAhead 52 = .ok (.iaload, 1) := by decide +kernel
theorem dX2_goesAhead_53 : decode cX2_goesAhead 53 = .ok (.imul, 1) := by decide +kernel
theorem dX2_goesAhead_54 : decode cX2_goesAhead 54 = .ok (.istore 4, 2) := by decide +kernel
theorem dX2_goesAhead_56 : decode cX2_goesAhead 56 = .ok (.iload_n 3, 1) := by decide +kernel
theorem dX2_goesAhead_57 : decode cX2_goesAhead 57 = .ok (.iload 4, 2) := by decide +kernel
theorem dX2_goesAhead_59 : decode cX2_goesAhead 59 = .ok (.if_icmp .eq 15, 3) := by decide +kernel
theorem dX2_goesAhead_62 : decode cX2_goesAhead 62 = .ok (.iload_n 3, 1) := by decide +kernel
theorem dX2_goesAhead_63 : decode cX2_goesAhead 63 = .ok (.iload 4, 2) := by decide +kernel
theorem dX2_goesAhead_65 : decode cX2_goesAhead 65 = .ok (.if_icmp .le 7, 3) := by decide +kernel
theorem dX2_goesAhead_68 : decode cX2_goesAhead 68 = .ok (.iconst 1, 1) := by decide +kernel
theorem dX2_goesAhead_69 : decode cX2_goesAhead 69 = .ok (.goto 4, 3) := by decide +kernel
theorem dX2_goesAhead_72 : decode cX2_goesAhead 72 = .ok (.iconst 0, 1) := by decide +kernel
theorem dX2_goesAhead_73 : decode cX2_goesAhead 73 = .ok (.ireturn, 1) := by decide +kernel
theorem dX2_goesAhead_74 : decode cX2_goesAhead 74 = .ok (.aload_n 0, 1) := by decide +kernel
theorem dX2_goesAhead_75 : decode cX2_goesAhead 75 = .ok (.getfield 9, 3) := by decide +kernel
theorem dX2_goesAhead_78 : decode cX2_goesAhead 78 = .ok (.iload_n 1, 1) := by decide +kernel
theorem dX2_goesAhead_79 : decode cX2_goesAhead 79 = .ok (.iaload, 1) := by decide +kernel
theorem dX2_goesAhead_80 : decode cX2_goesAhead 80 = .ok (.aload_n 0, 1) := by decide +kernel
theorem dX2_goesAhead_81 : decode cX2_goesAhead 81 = .ok (.getfield 9, 3) := by decide +kernel
theorem dX2_goesAhead_84 : decode cX2_goesAhead 84 = .ok (.iload_n 2, 1) := by decide +kernel
theorem dX2_goesAhead_85 : decode cX2_goesAhead 85 = .ok (.iaload, 1) := by decide +kernel
theorem dX2_goesAhead_86 : decode cX2_goesAhead 86 = .ok (.if_icmp .ge 7, 3) := by decide +kernel
theorem dX2_goesAhead_89 : decode cX2_goesAhead 89 = .ok (.iconst 1, 1) := by decide +kernel
theorem dX2_goesAhead_90 : decode cX2_goesAhead 90 = .ok (.goto 4, 3) := by decide +kernel
theorem dX2_goesAhead_93 : decode cX2_goesAhead 93 = .ok (.iconst 0, 1) := by decide +kernel
theorem dX2_goesAhead_94 : decode cX2_goesAhead 94 = .ok (.ireturn, 1) := by decide +kernel
theorem dX2_letIn_0 : decode cX2_letIn 0 = .ok (.bipush 24, 2) := by decide +kernel
theorem dX2_letIn_2 : decode cX2_letIn 2 = .ok (.istore 4, 2) := by decide +kernel
theorem dX2_letIn_4 : decode cX2_letIn 4 = .ok (.iconst 0, 1) := by decide +kernel
theorem dX2_letIn_5 : decode cX2_letIn 5 = .ok (.istore 5, 2) := by decide +kernel
theorem dX2_letIn_7 : decode cX2_letIn 7 = .ok (.iconst 0, 1) := by decide +kernel
theorem dX2_letIn_8 : decode cX2_letIn 8 = .ok (.istore 6, 2) := by decide +kernel
theorem dX2_letIn_10 : decode cX2_letIn 10 = .ok (.iload 6, 2) := by decide +kernel
theorem dX2_letIn_12 : decode cX2_letIn 12 = .ok (.aload_n 0, 1) := by decide +kernel
theorem dX2_letIn_13 : decode cX2_letIn 13 = .ok (.getfield 26, 3) := by decide +kernel
theorem dX2_letIn_16 : decode cX2_letIn 16 = .ok (.getfield 57, 3) := by decide +kernel
theorem dX2_letIn_19 : decode cX2_letIn 19 = .ok (.if_icmp .ge 63, 3) := by decide +kernel
theorem dX2_letIn_22 : decode cX2_letIn 22 = .ok (.aload_n 3, 1) := by decide +kernel
theorem dX2_letIn_23 : decode cX2_letIn 23 = .ok (.getfield 95, 3) := by decide +kernel
theorem dX2_letIn_26 : decode cX2_letIn 26 = .ok (.iload 6, 2) := by decide +kernel
theorem dX2_letIn_28 : decode cX2_letIn 28 = .ok (.iaload, 1) := by decide +kernel
theorem dX2_letIn_29 : decode cX2_letIn 29 = .ok (.iload_n 1, 1) := by decide +kernel
theorem dX2_letIn_30 : decode cX2_letIn 30 = .ok (.if_icmp .ne 46, 3) := by decide +kernel
theorem dX2_letIn_33 : decode cX2_letIn 33 = .ok (.aload_n 0, 1) := by decide +kernel
theorem dX2_letIn_34 : decode cX2_letIn 34 = .ok (.getfield 9, 3) := by decide +kernel
theorem dX2_letIn_37 : decode cX2_letIn 37 = .ok (.iload 6, 2) := by decide +kernel
theorem dX2_letIn_39 : decode cX2_letIn 39 = .ok (.iaload, 1) := by decide +kernel
theorem dX2_letIn_40 : decode cX2_letIn 40 = .ok (.bipush 24, 2) := by decide +kernel
theorem dX2_letIn_42 : decode cX2_letIn 42 = .ok (.if_icmp .ge 34, 3) := by decide +kernel
theorem dX2_letIn_45 : decode cX2_letIn 45 = .ok (.iload 4, 2) := by decide +kernel
theorem dX2_letIn_47 : decode cX2_letIn 47 = .ok (.aload_n 0, 1) := by decide +kernel
theorem dX2_letIn_48 : decode cX2_letIn 48 = .ok (.getfield 9, 3) := by decide +kernel
theorem dX2_letIn_51 : decode cX2_letIn 51 = .ok (.iload 6, 2) := by decide +kernel
theorem dX2_letIn_53 : decode cX2_letIn 53 = .ok (.iaload, 1) := by decide +kernel
theorem dX2_letIn_54 : decode cX2_letIn 54 = .ok (.invokestatic 111, 3) := by decide +kernel
theorem dX2_letIn_57 : decode cX2_letIn 57 = .ok (.istore 4, 2) := by decide +kernel
theorem dX2_letIn_59 : decode cX2_letIn 59 = .ok (.iload 5, 2) := by decide +kernel
theorem dX2_letIn_61 : decode cX2_letIn 61 = .ok (.aload_n 0, 1) := by decide +kernel
theorem dX2_letIn_62 : decode cX2_letIn 62 = .ok (.getfield 26, 3) := by decide +kernel
theorem dX2_letIn_65 : decode cX2_letIn 65 = .ok (.getfield 64, 3) := by decide +kernel
theorem dX2_letIn_68 : decode cX2_letIn 68 = .ok (.iload 6, 2) := by decide +kernel
theorem dX2_letIn_70 : decode cX2_letIn 70 = .ok (.aaload, 1) := by decide +kernel
theorem dX2_letIn_71 : decode cX2_letIn 71 = .ok (.iconst 0, 1) := by decide +kernel
theorem dX2_letIn_72 : decode cX2_letIn 72 = .ok (.iaload, 1) := by decide +kernel
theorem dX2_letIn_73 : decode cX2_letIn 73 = .ok (.iadd, 1) := by decide +kernel
theorem dX2_letIn_74 : decode cX2_letIn 74 = .ok (.istore 5, 2) := by decide +kernel
theorem dX2_letIn_76 : decode cX2_letIn 76 = .ok (.iinc 6 1, 3) := by decide +kernel
theorem dX2_letIn_79 : decode cX2_letIn 79 = .ok (.goto (-69), 3) := by decide +kernel
theorem dX2_letIn_82 : decode cX2_letIn 82 = .ok (.iload 5, 2) := by decide +kernel
theorem dX2_letIn_84 : decode cX2_letIn 84 = .ok (.aload_n 0, 1) := by decide +kernel
theorem dX2_letIn_85 : decode cX2_letIn 85 = .ok (.getfield 26, 3) := by decide +kernel
theorem dX2_letIn_88 : decode cX2_letIn 88 = .ok (.getfield 117, 3) := by decide +kernel
theorem dX2_letIn_91 : decode cX2_letIn 91 = .ok (.iload_n 1, 1) := by decide +kernel
theorem dX2_letIn_92 : decode cX2_letIn 92 = .ok (.aaload, 1) := by decide +kernel
theorem dX2_letIn_93 : decode cX2_letIn 93 = .ok (.iconst 0, 1) := by decide +kernel
theorem dX2_letIn_94 : decode cX2_letIn 94 = .ok (.iaload, 1) := by decide +kernel
theorem dX2_letIn_95 : decode cX2_letIn 95 = .ok (.invokestatic 111, 3) := by decide +kernel
theorem dX2_letIn_98 : decode cX2_letIn 98 = .ok (.istore 6, 2) := by decide +kernel
theorem dX2_letIn_100 : decode cX2_letIn 100 = .ok (.iload 4, 2) := by decide +kernel
theorem dX2_letIn_102 : decode cX2_letIn 102 = .ok (.istore 7, 2) := by decide +kernel
theorem dX2_letIn_104 : decode cX2_letIn 104 = .ok (.iload 7, 2) := by decide +kernel
theorem dX2_letIn_106 : decode cX2_letIn 106 = .ok (.bipush 24, 2) := by decide +kernel
theorem dX2_letIn_108 : decode cX2_letIn 108 = .ok (.if_icmp .ge 57, 3) := by decide +kernel
theorem dX2_letIn_111 : decode cX2_letIn 111 = .ok (.iload 6, 2) := by decide +kernel
theorem dX2_letIn_113 : decode cX2_letIn 113 = .ok (.ifCond .le 52, 3) := by decide +kernel
theorem dX2_letIn_116 : decode cX2_letIn 116 = .ok (.aload_n 0, 1) := by decide +kernel
theorem dX2_letIn_117 : decode cX2_letIn 117 = .ok (.getfield 26, 3) := by decide +kernel
theorem dX2_letIn_120 : decode cX2_letIn 120 = .ok (.iload_n 1, 1) := by decide +kernel
theorem dX2_letIn_121 : decode cX2_letIn 121 = .ok (.iload_n 2, 1) := by decide +kernel
theorem dX2_letIn_122 : decode cX2_letIn 122 = .ok (.iload 7, 2) := by decide +kernel
theorem dX2_letIn_124 : decode cX2_letIn 124 = .ok (.invokevirtual 120, 3) := by decide +kernel
theorem dX2_letIn_127 : decode cX2_letIn 127 = .ok (.ifCond .eq 32, 3) := by decide +kernel
theorem dX2_letIn_130 : decode cX2_letIn 130 = .ok (.iload 6, 2) := by decide +kernel
theorem dX2_letIn_132 : decode cX2_letIn 132 = .ok (.aload_n 0, 1) := by decide +kernel
theorem dX2_letIn_133 : decode cX2_letIn 133 = .ok (.iload_n 1, 1) := by decide +kernel
theorem dX2_letIn_134 : decode cX2_letIn 134 = .ok (.iload 7, 2) := by decide +kernel
theorem dX2_letIn_136 : decode cX2_letIn 136 = .ok (.iload 6, 2) := by decide +kernel
theorem dX2_letIn_138 : decode cX2_letIn 138 = .ok (.aload_n 0, 1) := by decide +kernel
theorem dX2_letIn_139 : decode cX2_letIn 139 = .ok (.getfield 26, 3) := by decide +kernel
theorem dX2_letIn_142 : decode cX2_letIn 142 = .ok (.getfield 117, 3) := by decide +kernel
theorem dX2_letIn_145 : decode cX2_letIn 145 = .ok (.iload_n 1, 1) := by decide +kernel
theorem dX2_letIn_146 : decode cX2_letIn 146 = .ok (.aaload, 1) := by decide +kernel
theorem dX2_letIn_147 : decode cX2_letIn 147 = .ok (.iconst 1, 1) := by decide +kernel
theorem dX2_letIn_148 : decode cX2_letIn 148 = .ok (.iaload, 1) := by decide +kernel
theorem dX2_letIn_149 : decode cX2_letIn 149 = .ok (.invokestatic 111, 3) := by decide +kernel
theorem dX2_letIn_152 : decode cX2_letIn 152 = .ok (.aload_n 3, 1) := by decide +kernel
theorem dX2_letIn_153 : decode cX2_letIn 153 = .ok (.invokevirtual 124, 3) := by decide +kernel
theorem dX2_letIn_156 : decode cX2_letIn 156 = .ok (.isub, 1) := by decide +kernel
theorem dX2_letIn_157 : decode cX2_letIn 157 = .ok (.istore 6, 2) := by decide +kernel
theorem dX2_letIn_159 : decode cX2_letIn 159 = .ok (.iinc 7 1, 3) := by decide +kernel
theorem dX2_letIn_162 : decode cX2_letIn 162 = .ok (.goto (-58), 3) := by decide +kernel
theorem dX2_letIn_165 : decode cX2_letIn 165 = .ok (.return_, 1) := by decide +kernel
theorem dX2_letInAt_0 : decode cX2_letInAt 0 = .ok (.iconst 0, 1) := by decide +kernel
theorem dX2_letInAt_1 : decode cX2_letInAt 1 = .ok (.istore 5, 2) := by decide +kernel
theorem dX2_letInAt_3 : decode cX2_letInAt 3 = .ok (.iconst 0, 1) := by decide +kernel
theorem dX2_letInAt_4 : decode cX2_letInAt 4 = .ok (.istore 6, 2) := by decide +kernel
theorem dX2_letInAt_6 : decode cX2_letInAt 6 = .ok (.iload 6, 2) := by decide +kernel
theorem dX2_letInAt_8 : decode cX2_letInAt 8 = .ok (.aload_n 0, 1) := by decide +kernel
theorem dX2_letInAt_9 : decode cX2_letInAt 9 = .ok (.getfield 26, 3) := by decide +kernel
theorem dX2_letInAt_12 : decode cX2_letInAt 12 = .ok (.getfield 57, 3) := by decide +kernel
theorem dX2_letInAt_15 : decode cX2_letInAt 15 = .ok (.if_icmp .ge 112, 3) := by decide +kernel
theorem dX2_letInAt_18 : decode cX2_letInAt 18 = .ok (.iload 5, 2) := by decide +kernel
theorem dX2_letInAt_20 : decode cX2_letInAt 20 = .ok (.iload_n 3, 1) := by decide +kernel
theorem dX2_letInAt_21 : decode cX2_letInAt 21 = .ok (.if_icmp .ge 106, 3) := by decide +kernel
theorem dX2_letInAt_24 : decode cX2_letInAt 24 = .ok (.aload_n 0, 1) := by decide +kernel
theorem dX2_letInAt_25 : decode cX2_letInAt 25 = .ok (.getfield 15, 3) := by decide +kernel
theorem dX2_letInAt_28 : decode cX2_letInAt 28 = .ok (.iload 6, 2) := by decide +kernel
theorem dX2_letInAt_30 : decode cX2_letInAt 30 = .ok (.iaload, 1) := by decide +kernel
theorem dX2_letInAt_31 : decode cX2_letInAt 31 = .ok (.istore 7, 2) := by decide +kernel
theorem dX2_letInAt_33 : decode cX2_letInAt 33 = .ok (.aload 4, 2) := by decide +kernel
theorem dX2_letInAt_35 : decode cX2_letInAt 35 = .ok (.getfield 95, 3) := by decide +kernel
theorem dX2_letInAt_38 : decode cX2_letInAt 38 = .ok (.iload 7, 2) := by decide +kernel
theorem dX2_letInAt_40 : decode cX2_letInAt 40 = .ok (.iaload, 1) := by decide +kernel
theorem dX2_letInAt_41 : decode cX2_letInAt 41 = .ok (.iload_n 1, 1) := by decide +kernel
theorem dX2_letInAt_42 : decode cX2_letInAt 42 = .ok (.if_icmp .ne 79, 3) := by decide +kernel
theorem dX2_letInAt_45 : decode cX2_letInAt 45 = .ok (.aload_n 0, 1) := by decide +kernel
theorem dX2_letInAt_46 : decode cX2_letInAt 46 = .ok (.getfield 9, 3) := by decide +kernel
theorem dX2_letInAt_49 : decode cX2_letInAt 49 = .ok (.iload 7, 2) := by decide +kernel
theorem dX2_letInAt_51 : decode cX2_letInAt 51 = .ok (.iaload, 1) := by decide +kernel
theorem dX2_letInAt_52 : decode cX2_letInAt 52 = .ok (.iload_n 2, 1) := by decide +kernel
theorem dX2_letInAt_53 : decode cX2_letInAt 53 = .ok (.if_icmp .gt 68, 3) := by decide +kernel
theorem dX2_letInAt_56 : decode cX2_letInAt 56 = .ok (.aload_n 0, 1) := by decide +kernel
theorem dX2_letInAt_57 : decode cX2_letInAt 57 = .ok (.getfield 26, 3) := by decide +kernel
theorem dX2_letInAt_60 : decode cX2_letInAt 60 = .ok (.getfield 64, 3) := by decide +kernel
theorem dX2_letInAt_63 : decode cX2_letInAt 63 = .ok (.iload 7, 2) := by decide +kernel
theorem dX2_letInAt_65 : decode cX2_letInAt 65 = .ok (.aaload, 1) := by decide +kernel
theorem dX2_letInAt_66 : decode cX2_letInAt 66 = .ok (.iconst 0, 1) := by decide +kernel
theorem dX2_letInAt_67 : decode cX2_letInAt 67 = .ok (.iaload, 1) := by decide +kernel
theorem dX2_letInAt_68 : decode cX2_letInAt 68 = .ok (.istore 8, 2) := by decide +kernel
theorem dX2_letInAt_70 : decode cX2_letInAt 70 = .ok (.aload_n 0, 1) := by decide +kernel
theorem dX2_letInAt_71 : decode cX2_letInAt 71 = .ok (.getfield 18, 3) := by decide +kernel
theorem dX2_letInAt_74 : decode cX2_letInAt 74 = .ok (.iload 7, 2) := by decide +kernel
theorem dX2_letInAt_76 : decode cX2_letInAt 76 = .ok (.iaload, 1) := by decide +kernel
theorem dX2_letInAt_77 : decode cX2_letInAt 77 = .ok (.iload 8, 2) := by decide +kernel
theorem dX2_letInAt_79 : decode cX2_letInAt 79 = .ok (.if_icmp .ge 42, 3) := by decide +kernel
theorem dX2_letInAt_82 : decode cX2_letInAt 82 = .ok (.iload 5, 2) := by decide +kernel
theorem dX2_letInAt_84 : decode cX2_letInAt 84 = .ok (.iload_n 3, 1) := by decide +kernel
theorem dX2_letInAt_85 : decode cX2_letInAt 85 = .ok (.if_icmp .ge 36, 3) := by decide +kernel
theorem dX2_letInAt_88 : decode cX2_letInAt 88 = .ok (.aload_n 0, 1) := by decide +kernel
theorem dX2_letInAt_89 : decode cX2_letInAt 89 = .ok (.getfield 23, 3) := by decide +kernel
theorem dX2_letInAt_92 : decode cX2_letInAt 92 = .ok (.iload 7, 2) := by decide +kernel
theorem dX2_letInAt_94 : decode cX2_letInAt 94 = .ok (.aaload, 1) := by decide +kernel
theorem dX2_letInAt_95 : decode cX2_letInAt 95 = .ok (.aload_n 0, 1) := by decide +kernel
theorem dX2_letInAt_96 : decode cX2_letInAt 96 = .ok (.getfield 18, 3) := by decide +kernel
theorem dX2_letInAt_99 : decode cX2_letInAt 99 = .ok (.iload 7, 2) := by decide +kernel
theorem dX2_letInAt_101 : decode cX2_letInAt 101 = .ok (.iaload, 1) := by decide +kernel
theorem dX2_letInAt_102 : decode cX2_letInAt 102 = .ok (.iload_n 2, 1) := by decide +kernel
theorem dX2_letInAt_103 : decode cX2_letInAt 103 = .ok (.iastore, 1) := by decide +kernel
theorem dX2_letInAt_104 : decode cX2_letInAt 104 = .ok (.aload_n 0, 1) := by decide +kernel
theorem dX2_letInAt_105 : decode cX2_letInAt 105 = .ok (.getfield 18, 3) := by decide +kernel
theorem dX2_letInAt_108 : decode cX2_letInAt 108 = .ok (.iload 7, 2) := by decide +kernel
theorem dX2_letInAt_110 : decode cX2_letInAt 110 = .ok (.dup2, 1) := by decide +kernel
theorem dX2_letInAt_111 : decode cX2_letInAt 111 = .ok (.iaload, 1) := by decide +kernel
theorem dX2_letInAt_112 : decode cX2_letInAt 112 = .ok (.iconst 1, 1) := by decide +kernel
theorem dX2_letInAt_113 : decode cX2_letInAt 113 = .ok (.iadd, 1) := by decide +kernel
theorem dX2_letInAt_114 : decode cX2_letInAt 114 = .ok (.iastore, 1) := by decide +kernel
theorem dX2_letInAt_115 : decode cX2_letInAt 115 = .ok (.iinc 5 1, 3) := by decide +kernel
theorem dX2_letInAt_118 : decode cX2_letInAt 118 = .ok (.goto (-48), 3) := by decide +kernel
theorem dX2_letInAt_121 : decode cX2_letInAt 121 = .ok (.iinc 6 1, 3) := by decide +kernel
theorem dX2_letInAt_124 : decode cX2_letInAt 124 = .ok (.goto (-118), 3) := by decide +kernel
theorem dX2_letInAt_127 : decode cX2_letInAt 127 = .ok (.iload 5, 2) := by decide +kernel
theorem dX2_letInAt_129 : decode cX2_letInAt 129 = .ok (.ireturn, 1) := by decide +kernel
theorem dX3_init_0 : decode cX3_init 0 = .ok (.aload_n 0, 1) := by decide +kernel
theorem dX3_init_1 : decode cX3_init 1 = .ok (.invokespecial 3, 3) := by decide +kernel
theorem dX3_init_4 : decode cX3_init 4 = .ok (.aload_n 0, 1) := by decide +kernel
theorem dX3_init_5 : decode cX3_init 5 = .ok (.iconst 4, 1) := by decide +kernel
theorem dX3_init_6 : decode cX3_init 6 = .ok (.newarray .int, 2) := by decide +kernel
theorem dX3_init_8 : decode cX3_init 8 = .ok (.putfield 9, 3) := by decide +kernel
theorem dX3_init_11 : decode cX3_init 11 = .ok (.aload_n 0, 1) := by decide +kernel
theorem dX3_init_12 : decode cX3_init 12 = .ok (.iconst 4, 1) := by decide +kernel
theorem dX3_init_13 : decode cX3_init 13 = .ok (.newarray .int, 2) := by decide +kernel
theorem dX3_init_15 : decode cX3_init 15 = .ok (.putfield 15, 3) := by decide +kernel
theorem dX3_init_18 : decode cX3_init 18 = .ok (.return_, 1) := by decide +kernel
theorem dX3_send_0 : decode cX3_send 0 = .ok (.aload_n 0, 1) := by decide +kernel
theorem dX3_send_1 : decode cX3_send 1 = .ok (.getfield 9, 3) := by decide +kernel
theorem dX3_send_4 : decode cX3_send 4 = .ok (.iload_n 1, 1) := by decide +kernel
theorem dX3_send_5 : decode cX3_send 5 = .ok (.iload_n 2, 1) := by decide +kernel
theorem dX3_send_6 : decode cX3_send 6 = .ok (.iastore, 1) := by decide +kernel
theorem dX3_send_7 : decode cX3_send 7 = .ok (.aload_n 0, 1) := by decide +kernel
theorem dX3_send_8 : decode cX3_send 8 = .ok (.getfield 15, 3) := by decide +kernel
theorem dX3_send_11 : decode cX3_send 11 = .ok (.iload_n 1, 1) := by decide +kernel
theorem dX3_send_12 : decode cX3_send 12 = .ok (.iload_n 3, 1) := by decide +kernel
theorem dX3_send_13 : decode cX3_send 13 = .ok (.iastore, 1) := by decide +kernel
theorem dX3_send_14 : decode cX3_send 14 = .ok (.return_, 1) := by decide +kernel
theorem dX3_stayAll_0 : decode cX3_stayAll 0 = .ok (.iconst 0, 1) := by decide +kernel
theorem dX3_stayAll_1 : decode cX3_stayAll 1 = .ok (.istore_n 1, 1) := by decide +kernel
theorem dX3_stayAll_2 : decode cX3_stayAll 2 = .ok (.iload_n 1, 1) := by decide +kernel
theorem dX3_stayAll_3 : decode cX3_stayAll 3 = .ok (.iconst 4, 1) := by decide +kernel
theorem dX3_stayAll_4 : decode cX3_stayAll 4 = .ok (.if_icmp .ge 17, 3) := by decide +kernel
theorem dX3_stayAll_7 : decode cX3_stayAll 7 = .ok (.aload_n 0, 1) := by decide +kernel
theorem dX3_stayAll_8 : decode cX3_stayAll 8 = .ok (.iload_n 1, 1) := by decide +kernel
theorem dX3_stayAll_9 : decode cX3_stayAll 9 = .ok (.bipush 24, 2) := by decide +kernel
theorem dX3_stayAll_11 : decode cX3_stayAll 11 = .ok (.iconst 0, 1) := by decide +kernel
theorem dX3_stayAll_12 : decode cX3_stayAll 12 = .ok (.invokevirtual 18, 3) := by decide +kernel
theorem dX3_stayAll_15 : decode cX3_stayAll 15 = .ok (.iinc 1 1, 3) := by decide +kernel
theorem dX3_stayAll_18 : decode cX3_stayAll 18 = .ok (.goto (-16), 3) := by decide +kernel
theorem dX3_stayAll_21 : decode cX3_stayAll 21 = .ok (.return_, 1) := by decide +kernel
theorem dX3_copyFrom_0 : decode cX3_copyFrom 0 = .ok (.iconst 0, 1) := by decide +kernel
theorem dX3_copyFrom_1 : decode cX3_copyFrom 1 = .ok (.istore_n 2, 1) := by decide +kernel
theorem dX3_copyFrom_2 : decode cX3_copyFrom 2 = .ok (.iload_n 2, 1) := by decide +kernel
theorem dX3_copyFrom_3 : decode cX3_copyFrom 3 = .ok (.iconst 4, 1) := by decide +kernel
theorem dX3_copyFrom_4 : decode cX3_copyFrom 4 = .ok (.if_icmp .ge 26, 3) := by decide +kernel
theorem dX3_copyFrom_7 : decode cX3_copyFrom 7 = .ok (.aload_n 0, 1) := by decide +kernel
theorem dX3_copyFrom_8 : decode cX3_copyFrom 8 = .ok (.iload_n 2, 1) := by decide +kernel
theorem dX3_copyFrom_9 : decode cX3_copyFrom 9 = .ok (.aload_n 1, 1) := by decide +kernel
theorem dX3_copyFrom_10 : decode cX3_copyFrom 10 = .ok (.getfield 9, 3) := by decide +kernel
theorem dX3_copyFrom_13 : decode cX3_copyFrom 13 = .ok (.iload_n 2, 1) := by decide +kernel
theorem dX3_copyFrom_14 : decode cX3_copyFrom 14 = .ok (.iaload, 1) := by decide +kernel
theorem dX3_copyFrom_15 : decode cX3_copyFrom 15 = .ok (.aload_n 1, 1) := by decide +kernel
theorem dX3_copyFrom_16 : decode cX3_copyFrom 16 = .ok (.getfield 15, 3) := by decide +kernel
theorem dX3_copyFrom_19 : decode cX3_copyFrom 19 = .ok (.iload_n 2, 1) := by decide +kernel
theorem dX3_copyFrom_20 : decode cX3_copyFrom 20 = .ok (.iaload, 1) := by decide +kernel
theorem dX3_copyFrom_21 : decode cX3_copyFrom 21 = .ok (.invokevirtual 18, 3) := by decide +kernel
theorem dX3_copyFrom_24 : decode cX3_copyFrom 24 = .ok (.iinc 2 1, 3) := by decide +kernel
theorem dX3_copyFrom_27 : decode cX3_copyFrom 27 = .ok (.goto (-25), 3) := by decide +kernel
theorem dX3_copyFrom_30 : decode cX3_copyFrom 30 = .ok (.return_, 1) := by decide +kernel
theorem dX3_told_0 : decode cX3_told 0 = .ok (.bipush 10, 2) := by decide +kernel
theorem dX3_told_2 : decode cX3_told 2 = .ok (.aload_n 0, 1) := by decide +kernel
theorem dX3_told_3 : decode cX3_told 3 = .ok (.getfield 9, 3) := by decide +kernel
theorem dX3_told_6 : decode cX3_told 6 = .ok (.iload_n 1, 1) := by decide +kernel
theorem dX3_told_7 : decode cX3_told 7 = .ok (.iaload, 1) := by decide +kernel
theorem dX3_told_8 : decode cX3_told 8 = .ok (.imul, 1) := by decide +kernel
theorem dX3_told_9 : decode cX3_told 9 = .ok (.aload_n 0, 1) := by decide +kernel
theorem dX3_told_10 : decode cX3_told 10 = .ok (.getfield 15, 3) := by decide +kernel
theorem dX3_told_13 : decode cX3_told 13 = .ok (.iload_n 1, 1) := by decide +kernel
theorem dX3_told_14 : decode cX3_told 14 = .ok (.iaload, 1) := by decide +kernel
theorem dX3_told_15 : decode cX3_told 15 = .ok (.iadd, 1) := by decide +kernel
theorem dX3_told_16 : decode cX3_told 16 = .ok (.ireturn, 1) := by decide +kernel
theorem dX4_init_0 : decode cX4_init 0 = .ok (.aload_n 0, 1) := by decide +kernel
theorem dX4_init_1 : decode cX4_init 1 = .ok (.invokespecial 3, 3) := by decide +kernel
theorem dX4_init_4 : decode cX4_init 4 = .ok (.aload_n 0, 1) := by decide +kernel
theorem dX4_init_5 : decode cX4_init 5 = .ok (.aload_n 1, 1) := by decide +kernel
theorem dX4_init_6 : decode cX4_init 6 = .ok (.putfield 9, 3) := by decide +kernel
theorem dX4_init_9 : decode cX4_init 9 = .ok (.aload_n 0, 1) := by decide +kernel
theorem dX4_init_10 : decode cX4_init 10 = .ok (.aload_n 2, 1) := by decide +kernel
theorem dX4_init_11 : decode cX4_init 11 = .ok (.putfield 15, 3) := by decide +kernel
theorem dX4_init_14 : decode cX4_init 14 = .ok (.return_, 1) := by decide +kernel
theorem dX4_follow_0 : decode cX4_follow 0 = .ok (.iload_n 1, 1) := by decide +kernel
theorem dX4_follow_1 : decode cX4_follow 1 = .ok (.ifCond .ne 15, 3) := by decide +kernel
theorem dX4_follow_4 : decode cX4_follow 4 = .ok (.aload_n 3, 1) := by decide +kernel
theorem dX4_follow_5 : decode cX4_follow 5 = .ok (.aload_n 0, 1) := by decide +kernel
theorem dX4_follow_6 : decode cX4_follow 6 = .ok (.getfield 15, 3) := by decide +kernel
theorem dX4_follow_9 : decode cX4_follow 9 = .ok (.getfield 19, 3) := by decide +kernel
theorem dX4_follow_12 : decode cX4_follow 12 = .ok (.invokevirtual 25, 3) := by decide +kernel
theorem dX4_follow_15 : decode cX4_follow 15 = .ok (.return_, 1) := by decide +kernel
theorem dX4_follow_16 : decode cX4_follow 16 = .ok (.aload_n 3, 1) := by decide +kernel
theorem dX4_follow_17 : decode cX4_follow 17 = .ok (.invokevirtual 31, 3) := by decide +kernel
theorem dX4_follow_20 : decode cX4_follow 20 = .ok (.iload_n 1, 1) := by decide +kernel
theorem dX4_follow_21 : decode cX4_follow 21 = .ok (.iconst 4, 1) := by decide +kernel
theorem dX4_follow_22 : decode cX4_follow 22 = .ok (.if_icmp .ne 4, 3) := by decide +kernel
theorem dX4_follow_25 : decode cX4_follow 25 = .ok (.return_, 1) := by decide +kernel
theorem dX4_follow_26 : decode cX4_follow 26 = .ok (.iconst 0, 1) := by decide +kernel
theorem dX4_follow_27 : decode cX4_follow 27 = .ok (.istore 4, 2) := by decide +kernel
theorem dX4_follow_29 : decode cX4_follow 29 = .ok (.iload 4, 2) := by decide +kernel
theorem dX4_follow_31 : decode cX4_follow 31 = .ok (.bipush 24, 2) := by decide +kernel
theorem dX4_follow_33 : decode cX4_follow 33 = .ok (.if_icmp .ge 89, 3) := by decide +kernel
theorem dX4_follow_36 : decode cX4_follow 36 = .ok (.iconst 0, 1) := by decide +kernel
theorem dX4_follow_37 : decode cX4_follow 37 = .ok (.istore 5, 2) := by decide +kernel
theorem dX4_follow_39 : decode cX4_follow 39 = .ok (.iload 5, 2) := by decide +kernel
theorem dX4_follow_41 : decode cX4_follow 41 = .ok (.aload_n 0, 1) := by decide +kernel
theorem dX4_follow_42 : decode cX4_follow 42 = .ok (.getfield 9, 3) := by decide +kernel
theorem dX4_follow_45 : decode cX4_follow 45 = .ok (.getfield 34, 3) := by decide +kernel
theorem dX4_follow_48 : decode cX4_follow 48 = .ok (.if_icmp .ge 68, 3) := by decide +kernel
theorem dX4_follow_51 : decode cX4_follow 51 = .ok (.aload_n 3, 1) := by decide +kernel
theorem dX4_follow_52 : decode cX4_follow 52 = .ok (.getfield 40, 3) := by decide +kernel
theorem dX4_follow_55 : decode cX4_follow 55 = .ok (.iload 5, 2) := by decide +kernel
theorem dX4_follow_57 : decode cX4_follow 57 = .ok (.iaload, 1) := by decide +kernel
theorem dX4_follow_58 : decode cX4_follow 58 = .ok (.bipush 24, 2) := by decide +kernel
theorem dX4_follow_60 : decode cX4_follow 60 = .ok (.if_icmp .ne 50, 3) := by decide +kernel
theorem dX4_follow_63 : decode cX4_follow 63 = .ok (.aload_n 0, 1) := by decide +kernel
theorem dX4_follow_64 : decode cX4_follow 64 = .ok (.iload_n 1, 1) := by decide +kernel
theorem dX4_follow_65 : decode cX4_follow 65 = .ok (.iload_n 2, 1) := by decide +kernel
theorem dX4_follow_66 : decode cX4_follow 66 = .ok (.iload 4, 2) := by decide +kernel
theorem dX4_follow_68 : decode cX4_follow 68 = .ok (.iload 5, 2) := by decide +kernel
theorem dX4_follow_70 : decode cX4_follow 70 = .ok (.aload_n 3, 1) := by decide +kernel
theorem dX4_follow_71 : decode cX4_follow 71 = .ok (.invokevirtual 44, 3) := by decide +kernel
theorem dX4_follow_74 : decode cX4_follow 74 = .ok (.ifCond .eq 36, 3) := by decide +kernel
theorem dX4_follow_77 : decode cX4_follow 77 = .ok (.aload_n 3, 1) := by decide +kernel
theorem dX4_follow_78 : decode cX4_follow 78 = .ok (.iload 5, 2) := by decide +kernel
theorem dX4_follow_80 : decode cX4_follow 80 = .ok (.iload 4, 2) := by decide +kernel
theorem dX4_follow_82 : decode cX4_follow 82 = .ok (.iload_n 1, 1) := by decide +kernel
theorem dX4_follow_83 : decode cX4_follow 83 = .ok (.iconst 3, 1) := by decide +kernel
theorem dX4_follow_84 : decode cX4_follow 84 = .ok (.if_icmp .ne 14, 3) := by decide +kernel
theorem dX4_follow_87 : decode cX4_follow 87 = .ok (.aload_n 0, 1) := by decide +kernel
theorem dX4_follow_88 : decode cX4_follow 88 = .ok (.iload 5, 2) := by decide +kernel
theorem dX4_follow_90 : decode cX4_follow 90 = .ok (.iload 4, 2) := by decide +kernel
theorem dX4_follow_92 : decode cX4_follow 92 = .ok (.invokevirtual 48, 3) := by decide +kernel
theorem dX4_follow_95 : decode cX4_follow 95 = .ok (.goto 12, 3) := by decide +kernel
theorem dX4_follow_98 : decode cX4_follow 98 = .ok (.aload_n 0, 1) := by decide +kernel
theorem dX4_follow_99 : decode cX4_follow 99 = .ok (.getfield 9, 3) := by decide +kernel
theorem dX4_follow_102 : decode cX4_follow 102 = .ok (.iload 5, 2) := by decide +kernel
theorem dX4_follow_104 : decode cX4_follow 104 = .ok (.invokevirtual 52, 3) := by decide +kernel
theorem dX4_follow_107 : decode cX4_follow 107 = .ok (.invokevirtual 56, 3) := by decide +kernel
theorem dX4_follow_110 : decode cX4_follow 110 = .ok (.iinc 5 1, 3) := by decide +kernel
theorem dX4_follow_113 : decode cX4_follow 113 = .ok (.goto (-74), 3) := by decide +kernel
theorem dX4_follow_116 : decode cX4_follow 116 = .ok (.iinc 4 1, 3) := by decide +kernel
theorem dX4_follow_119 : decode cX4_follow 119 = .ok (.goto (-90), 3) := by decide +kernel
theorem dX4_follow_122 : decode cX4_follow 122 = .ok (.return_, 1) := by decide +kernel
theorem dX4_runs_0 : decode cX4_runs 0 = .ok (.iload_n 1, 1) := by decide +kernel
theorem dX4_runs_1 : decode cX4_runs 1 = .ok (.iconst 2, 1) := by decide +kernel
theorem dX4_runs_2 : decode cX4_runs 2 = .ok (.if_icmp .ne 31, 3) := by decide +kernel
theorem dX4_runs_5 : decode cX4_runs 5 = .ok (.iload 4, 2) := by decide +kernel
theorem dX4_runs_7 : decode cX4_runs 7 = .ok (.ifCond .le 26, 3) := by decide +kernel
theorem dX4_runs_10 : decode cX4_runs 10 = .ok (.aload_n 0, 1) := by decide +kernel
theorem dX4_runs_11 : decode cX4_runs 11 = .ok (.iload_n 3, 1) := by decide +kernel
theorem dX4_runs_12 : decode cX4_runs 12 = .ok (.aload 5, 2) := by decide +kernel
theorem dX4_runs_14 : decode cX4_runs 14 = .ok (.invokevirtual 60, 3) := by decide +kernel
theorem dX4_runs_17 : decode cX4_runs 17 = .ok (.aload_n 0, 1) := by decide +kernel
theorem dX4_runs_18 : decode cX4_runs 18 = .ok (.getfield 15, 3) := by decide +kernel
theorem dX4_runs_21 : decode cX4_runs 21 = .ok (.getfield 64, 3) := by decide +kernel
theorem dX4_runs_24 : decode cX4_runs 24 = .ok (.if_icmp .lt 7, 3) := by decide +kernel
theorem dX4_runs_27 : decode cX4_runs 27 = .ok (.iconst 1, 1) := by decide +kernel
theorem dX4_runs_28 : decode cX4_runs 28 = .ok (.goto 4, 3) := by decide +kernel
theorem dX4_runs_31 : decode cX4_runs 31 = .ok (.iconst 0, 1) := by decide +kernel
theorem dX4_runs_32 : decode cX4_runs 32 = .ok (.ireturn, 1) := by decide +kernel
theorem dX4_runs_33 : decode cX4_runs 33 = .ok (.aload_n 0, 1) := by decide +kernel
theorem dX4_runs_34 : decode cX4_runs 34 = .ok (.getfield 9, 3) := by decide +kernel
theorem dX4_runs_37 : decode cX4_runs 37 = .ok (.getfield 67, 3) := by decide +kernel
theorem dX4_runs_40 : decode cX4_runs 40 = .ok (.iload_n 2, 1) := by decide +kernel
theorem dX4_runs_41 : decode cX4_runs 41 = .ok (.aaload, 1) := by decide +kernel
theorem dX4_runs_42 : decode cX4_runs 42 = .ok (.iload_n 3, 1) := by decide +kernel
theorem dX4_runs_43 : decode cX4_runs 43 = .ok (.iaload, 1) := by decide +kernel
theorem dX4_runs_44 : decode cX4_runs 44 = .ok (.aload_n 0, 1) := by decide +kernel
theorem dX4_runs_45 : decode cX4_runs 45 = .ok (.getfield 15, 3) := by decide +kernel
theorem dX4_runs_48 : decode cX4_runs 48 = .ok (.getfield 71, 3) := by decide +kernel
theorem dX4_runs_51 : decode cX4_runs 51 = .ok (.if_icmp .lt 7, 3) := by decide +kernel
theorem dX4_runs_54 : decode cX4_runs 54 = .ok (.iconst 1, 1) := by decide +kernel
theorem dX4_runs_55 : decode cX4_runs 55 = .ok (.goto 4, 3) := by decide +kernel
theorem dX4_runs_58 : decode cX4_runs 58 = .ok (.iconst 0, 1) := by decide +kernel
theorem dX4_runs_59 : decode cX4_runs 59 = .ok (.ireturn, 1) := by decide +kernel
theorem dX4_boatsGone_0 : decode cX4_boatsGone 0 = .ok (.iconst 0, 1) := by decide +kernel
theorem dX4_boatsGone_1 : decode cX4_boatsGone 1 = .ok (.istore_n 3, 1) := by decide +kernel
theorem dX4_boatsGone_2 : decode cX4_boatsGone 2 = .ok (.iconst 0, 1) := by decide +kernel
theorem dX4_boatsGone_3 : decode cX4_boatsGone 3 = .ok (.istore 4, 2) := by decide +kernel
theorem dX4_boatsGone_5 : decode cX4_boatsGone 5 = .ok (.iload 4, 2) := by decide +kernel
theorem dX4_boatsGone_7 : decode cX4_boatsGone 7 = .ok (.aload_n 0, 1) := by decide +kernel
theorem dX4_boatsGone_8 : decode cX4_boatsGone 8 = .ok (.getfield 9, 3) := by decide +kernel
theorem dX4_boatsGone_11 : decode cX4_boatsGone 11 = .ok (.getfield 34, 3) := by decide +kernel
theorem dX4_boatsGone_14 : decode cX4_boatsGone 14 = .ok (.if_icmp .ge 35, 3) := by decide +kernel
theorem dX4_boatsGone_17 : decode cX4_boatsGone 17 = .ok (.aload_n 2, 1) := by decide +kernel
theorem dX4_boatsGone_18 : decode cX4_boatsGone 18 = .ok (.getfield 40, 3) := by decide +kernel
theorem dX4_boatsGone_21 : decode cX4_boatsGone 21 = .ok (.iload 4, 2) := by decide +kernel
theorem dX4_boatsGone_23 : decode cX4_boatsGone 23 = .ok (.iaload, 1) := by decide +kernel
theorem dX4_boatsGone_24 : decode cX4_boatsGone 24 = .ok (.iload_n 1, 1) := by decide +kernel
theorem dX4_boatsGone_25 : decode cX4_boatsGone 25 = .ok (.if_icmp .ge 18, 3) := by decide +kernel
theorem dX4_boatsGone_28 : decode cX4_boatsGone 28 = .ok (.iload_n 3, 1) := by decide +kernel
theorem dX4_boatsGone_29 : decode cX4_boatsGone 29 = .ok (.aload_n 0, 1) := by decide +kernel
theorem dX4_boatsGone_30 : decode cX4_boatsGone 30 = .ok (.getfield 9, 3) := by decide +kernel
theorem dX4_boatsGone_33 : decode cX4_boatsGone 33 = .ok (.getfield 74, 3) := by decide +kernel
theorem dX4_boatsGone_36 : decode cX4_boatsGone 36 = .ok (.iload 4, 2) := by decide +kernel
theorem dX4_boatsGone_38 : decode cX4_boatsGone 38 = .ok (.aaload, 1) := by decide +kernel
theorem dX4_boatsGone_39 : decode cX4_boatsGone 39 = .ok (.iconst 0, 1) := by decide +kernel
theorem dX4_boatsGone_40 : decode cX4_boatsGone 40 = .ok (.iaload, 1) := by decide +kernel
theorem dX4_boatsGone_41 : decode cX4_boatsGone 41 = .ok (.iadd, 1) := by decide +kernel
theorem dX4_boatsGone_42 : decode cX4_boatsGone 42 = .ok (.istore_n 3, 1) := by decide +kernel
theorem dX4_boatsGone_43 : decode cX4_boatsGone 43 = .ok (.iinc 4 1, 3) := by decide +kernel
theorem dX4_boatsGone_46 : decode cX4_boatsGone 46 = .ok (.goto (-41), 3) := by decide +kernel
theorem dX4_boatsGone_49 : decode cX4_boatsGone 49 = .ok (.iload_n 3, 1) := by decide +kernel
theorem dX4_boatsGone_50 : decode cX4_boatsGone 50 = .ok (.ireturn, 1) := by decide +kernel
theorem dX4_likeliest_0 : decode cX4_likeliest 0 = .ok (.iconst 0, 1) := by decide +kernel
theorem dX4_likeliest_1 : decode cX4_likeliest 1 = .ok (.istore_n 3, 1) := by decide +kernel
theorem dX4_likeliest_2 : decode cX4_likeliest 2 = .ok (.iconst (-1), 1) := by decide +kernel
theorem dX4_likeliest_3 : decode cX4_likeliest 3 = .ok (.istore 4, 2) := by decide +kernel
theorem dX4_likeliest_5 : decode cX4_likeliest 5 = .ok (.iconst 0, 1) := by decide +kernel
theorem dX4_likeliest_6 : decode cX4_likeliest 6 = .ok (.istore 5, 2) := by decide +kernel
theorem dX4_likeliest_8 : decode cX4_likeliest 8 = .ok (.iload 5, 2) := by decide +kernel
theorem dX4_likeliest_10 : decode cX4_likeliest 10 = .ok (.aload_n 0, 1) := by decide +kernel
theorem dX4_likeliest_11 : decode cX4_likeliest 11 = .ok (.getfield 9, 3) := by decide +kernel
theorem dX4_likeliest_14 : decode cX4_likeliest 14 = .ok (.getfield 77, 3) := by decide +kernel
theorem dX4_likeliest_17 : decode cX4_likeliest 17 = .ok (.if_icmp .ge 130, 3) := by decide +kernel
theorem dX4_likeliest_20 : decode cX4_likeliest 20 = .ok (.iconst 0, 1) := by decide +kernel
theorem dX4_likeliest_21 : decode cX4_likeliest 21 = .ok (.istore 6, 2) := by decide +kernel
theorem dX4_likeliest_23 : decode cX4_likeliest 23 = .ok (.iconst 0, 1) := by decide +kernel
theorem dX4_likeliest_24 : decode cX4_likeliest 24 = .ok (.istore 7, 2) := by decide +kernel
theorem dX4_likeliest_26 : decode cX4_likeliest 26 = .ok (.iload 7, 2) := by decide +kernel
theorem dX4_likeliest_28 : decode cX4_likeliest 28 = .ok (.aload_n 0, 1) := by decide +kernel
theorem dX4_likeliest_29 : decode cX4_likeliest 29 = .ok (.getfield 9, 3) := by decide +kernel
theorem dX4_likeliest_32 : decode cX4_likeliest 32 = .ok (.getfield 80, 3) := by decide +kernel
theorem dX4_likeliest_35 : decode cX4_likeliest 35 = .ok (.if_icmp .ge 59, 3) := by decide +kernel
theorem dX4_likeliest_38 : decode cX4_likeliest 38 = .ok (.aload_n 0, 1) := by decide +kernel
theorem dX4_likeliest_39 : decode cX4_likeliest 39 = .ok (.getfield 15, 3) := by decide +kernel
theorem dX4_likeliest_42 : decode cX4_likeliest 42 = .ok (.getfield 83, 3) := by decide +kernel
theorem dX4_likeliest_45 : decode cX4_likeliest 45 = .ok (.iload 7, 2) := by decide +kernel
theorem dX4_likeliest_47 : decode cX4_likeliest 47 = .ok (.ishr, 1) := by decide +kernel
theorem dX4_likeliest_48 : decode cX4_likeliest 48 = .ok (.iconst 1, 1) := by decide +kernel
theorem dX4_likeliest_49 : decode cX4_likeliest 49 = .ok (.iand, 1) := by decide +kernel
theorem dX4_likeliest_50 : decode cX4_likeliest 50 = .ok (.ifCond .eq 38, 3) := by decide +kernel
theorem dX4_likeliest_53 : decode cX4_likeliest 53 = .ok (.aload_n 0, 1) := by decide +kernel
theorem dX4_likeliest_54 : decode cX4_likeliest 54 = .ok (.getfield 9, 3) := by decide +kernel
theorem dX4_likeliest_57 : decode cX4_likeliest 57 = .ok (.iload_n 1, 1) := by decide +kernel
theorem dX4_likeliest_58 : decode cX4_likeliest 58 = .ok (.iload 5, 2) := by decide +kernel
theorem dX4_likeliest_60 : decode cX4_likeliest 60 = .ok (.iload 7, 2) := by decide +kernel
theorem dX4_likeliest_62 : decode cX4_likeliest 62 = .ok (.iload_n 2, 1) := by decide +kernel
theorem dX4_likeliest_63 : decode cX4_likeliest 63 = .ok (.invokevirtual 86, 3) := by decide +kernel
theorem dX4_likeliest_66 : decode cX4_likeliest 66 = .ok (.bipush 24, 2) := by decide +kernel
theorem dX4_likeliest_68 : decode cX4_likeliest 68 = .ok (.if_icmp .ge 20, 3) := by decide +kernel
theorem dX4_likeliest_71 : decode cX4_likeliest 71 = .ok (.iload 6, 2) := by decide +kernel
theorem dX4_likeliest_73 : decode cX4_likeliest 73 = .ok (.aload_n 0, 1) := by decide +kernel
theorem dX4_likeliest_74 : decode cX4_likeliest 74 = .ok (.getfield 9, 3) := by decide +kernel
theorem dX4_likeliest_77 : decode cX4_likeliest 77 = .ok (.getfield 90, 3) := by decide +kernel
theorem dX4_likeliest_80 : decode cX4_likeliest 80 = .ok (.iload 7, 2) := by decide +kernel
theorem dX4_likeliest_82 : decode cX4_likeliest 82 = .ok (.aaload, 1) := by decide +kernel
theorem dX4_likeliest_83 : decode cX4_likeliest 83 = .ok (.iconst 0, 1) := by decide +kernel
theorem dX4_likeliest_84 : decode cX4_likeliest 84 = .ok (.iaload, 1) := by decide +kernel
theorem dX4_likeliest_85 : decode cX4_likeliest 85 = .ok (.iadd, 1) := by decide +kernel
theorem dX4_likeliest_86 : decode cX4_likeliest 86 = .ok (.istore 6, 2) := by decide +kernel
theorem dX4_likeliest_88 : decode cX4_likeliest 88 = .ok (.iinc 7 1, 3) := by decide +kernel
theorem dX4_likeliest_91 : decode cX4_likeliest 91 = .ok (.goto (-65), 3) := by decide +kernel
theorem dX4_likeliest_94 : decode cX4_likeliest 94 = .ok (.iload 6, 2) := by decide +kernel
theorem dX4_likeliest_96 : decode cX4_likeliest 96 = .ok (.iload 4, 2) := by decide +kernel
theorem dX4_likeliest_98 : decode cX4_likeliest 98 = .ok (.if_icmp .gt 36, 3) := by decide +kernel
theorem dX4_likeliest_101 : decode cX4_likeliest 101 = .ok (.iload 6, 2) := by decide +kernel
theorem dX4_likeliest_103 : decode cX4_likeliest 103 = .ok (.iload 4, 2) := by decide +kernel
theorem dX4_likeliest_105 : decode cX4_likeliest 105 = .ok (.if_icmp .ne 36, 3) := by decide +kernel
theorem dX4_likeliest_108 : decode cX4_likeliest 108 = .ok (.aload_n 0, 1) := by decide +kernel
theorem dX4_likeliest_109 : decode cX4_likeliest 109 = .ok (.getfield 9, 3) := by decide +kernel
theorem dX4_likeliest_112 : decode cX4_likeliest 112 = .ok (.getfield 93, 3) := by decide +kernel
theorem dX4_likeliest_115 : decode cX4_likeliest 115 = .ok (.iload_n 1, 1) := by decide +kernel
theorem dX4_likeliest_116 : decode cX4_likeliest 116 = .ok (.aaload, 1) := by decide +kernel
theorem dX4_likeliest_117 : decode cX4_likeliest 117 = .ok (.iload 5, 2) := by decide +kernel
theorem dX4_likeliest_119 : decode cX4_likeliest 119 = .ok (.iaload, 1) := by decide +kernel
theorem dX4_likeliest_120 : decode cX4_likeliest 120 = .ok (.aload_n 0, 1) := by decide +kernel
theorem dX4_likeliest_121 : decode cX4_likeliest 121 = .ok (.getfield 9, 3) := by decide +kernel
theorem dX4_likeliest_124 : decode cX4_likeliest 124 = .ok (.getfield 93, 3) := by decide +kernel
theorem dX4_likeliest_127 : decode cX4_likeliest 127 = .ok (.iload_n 1, 1) := by decide +kernel
theorem dX4_likeliest_128 : decode cX4_likeliest 128 = .ok (.aaload, 1) := by decide +kernel
theorem dX4_likeliest_129 : decode cX4_likeliest 129 = .ok (.iload_n 3, 1) := by decide +kernel
theorem dX4_likeliest_130 : decode cX4_likeliest 130 = .ok (.iaload, 1) := by decide +kernel
theorem dX4_likeliest_131 : decode cX4_likeliest 131 = .ok (.if_icmp .ge 10, 3) := by decide +kernel
theorem dX4_likeliest_134 : decode cX4_likeliest 134 = .ok (.iload 6, 2) := by decide +kernel
theorem dX4_likeliest_136 : decode cX4_likeliest 136 = .ok (.istore 4, 2) := by decide +kernel
theorem dX4_likeliest_138 : decode cX4_likeliest 138 = .ok (.iload 5, 2) := by decide +kernel
theorem dX4_likeliest_140 : decode cX4_likeliest 140 = .ok (.istore_n 3, 1) := by decide +kernel
theorem dX4_likeliest_141 : decode cX4_likeliest 141 = .ok (.iinc 5 1, 3) := by decide +kernel
theorem dX4_likeliest_144 : decode cX4_likeliest 144 = .ok (.goto (-136), 3) := by decide +kernel
theorem dX4_likeliest_147 : decode cX4_likeliest 147 = .ok (.iload_n 3, 1) := by decide +kernel
theorem dX4_likeliest_148 : decode cX4_likeliest 148 = .ok (.ireturn, 1) := by decide +kernel
theorem dX5_init_0 : decode cX5_init 0 = .ok (.aload_n 0, 1) := by decide +kernel
theorem dX5_init_1 : decode cX5_init 1 = .ok (.invokespecial 3, 3) := by decide +kernel
theorem dX5_init_4 : decode cX5_init 4 = .ok (.aload_n 0, 1) := by decide +kernel
theorem dX5_init_5 : decode cX5_init 5 = .ok (.iconst 4, 1) := by decide +kernel
theorem dX5_init_6 : decode cX5_init 6 = .ok (.iconst 4, 1) := by decide +kernel
theorem dX5_init_7 : decode cX5_init 7 = .ok (.multianewarray 9 2, 4) := by decide +kernel
theorem dX5_init_11 : decode cX5_init 11 = .ok (.putfield 11, 3) := by decide +kernel
theorem dX5_init_14 : decode cX5_init 14 = .ok (.aload_n 0, 1) := by decide +kernel
theorem dX5_init_15 : decode cX5_init 15 = .ok (.iconst 4, 1) := by decide +kernel
theorem dX5_init_16 : decode cX5_init 16 = .ok (.iconst 5, 1) := by decide +kernel
theorem dX5_init_17 : decode cX5_init 17 = .ok (.multianewarray 9 2, 4) := by decide +kernel
theorem dX5_init_21 : decode cX5_init 21 = .ok (.putfield 16, 3) := by decide +kernel
theorem dX5_init_24 : decode cX5_init 24 = .ok (.aload_n 0, 1) := by decide +kernel
theorem dX5_init_25 : decode cX5_init 25 = .ok (.iconst 4, 1) := by decide +kernel
theorem dX5_init_26 : decode cX5_init 26 = .ok (.bipush 6, 2) := by decide +kernel
theorem dX5_init_28 : decode cX5_init 28 = .ok (.multianewarray 9 2, 4) := by decide +kernel
theorem dX5_init_32 : decode cX5_init 32 = .ok (.putfield 19, 3) := by decide +kernel
theorem dX5_init_35 : decode cX5_init 35 = .ok (.aload_n 0, 1) := by decide +kernel
theorem dX5_init_36 : decode cX5_init 36 = .ok (.iconst 4, 1) := by decide +kernel
theorem dX5_init_37 : decode cX5_init 37 = .ok (.iconst 4, 1) := by decide +kernel
theorem dX5_init_38 : decode cX5_init 38 = .ok (.multianewarray 9 2, 4) := by decide +kernel
theorem dX5_init_42 : decode cX5_init 42 = .ok (.putfield 22, 3) := by decide +kernel
theorem dX5_init_45 : decode cX5_init 45 = .ok (.aload_n 0, 1) := by decide +kernel
theorem dX5_init_46 : decode cX5_init 46 = .ok (.iconst 4, 1) := by decide +kernel
theorem dX5_init_47 : decode cX5_init 47 = .ok (.bipush 24, 2) := by decide +kernel
theorem dX5_init_49 : decode cX5_init 49 = .ok (.multianewarray 9 2, 4) := by decide +kernel
theorem dX5_init_53 : decode cX5_init 53 = .ok (.putfield 25, 3) := by decide +kernel
theorem dX5_init_56 : decode cX5_init 56 = .ok (.aload_n 0, 1) := by decide +kernel
theorem dX5_init_57 : decode cX5_init 57 = .ok (.bipush 10, 2) := by decide +kernel
theorem dX5_init_59 : decode cX5_init 59 = .ok (.newarray .int, 2) := by decide +kernel
theorem dX5_init_61 : decode cX5_init 61 = .ok (.putfield 28, 3) := by decide +kernel
theorem dX5_init_64 : decode cX5_init 64 = .ok (.aload_n 0, 1) := by decide +kernel
theorem dX5_init_65 : decode cX5_init 65 = .ok (.iconst 4, 1) := by decide +kernel
theorem dX5_init_66 : decode cX5_init 66 = .ok (.bipush 24, 2) := by decide +kernel
theorem dX5_init_68 : decode cX5_init 68 = .ok (.multianewarray 9 2, 4) := by decide +kernel
theorem dX5_init_72 : decode cX5_init 72 = .ok (.putfield 32, 3) := by decide +kernel
theorem dX5_init_75 : decode cX5_init 75 = .ok (.aload_n 0, 1) := by decide +kernel
theorem dX5_init_76 : decode cX5_init 76 = .ok (.iconst 4, 1) := by decide +kernel
theorem dX5_init_77 : decode cX5_init 77 = .ok (.iconst 4, 1) := by decide +kernel
theorem dX5_init_78 : decode cX5_init 78 = .ok (.multianewarray 9 2, 4) := by decide +kernel
theorem dX5_init_82 : decode cX5_init 82 = .ok (.putfield 35, 3) := by decide +kernel
theorem dX5_init_85 : decode cX5_init 85 = .ok (.aload_n 0, 1) := by decide +kernel
theorem dX5_init_86 : decode cX5_init 86 = .ok (.bipush 16, 2) := by decide +kernel
theorem dX5_init_88 : decode cX5_init 88 = .ok (.bipush 25, 2) := by decide +kernel
theorem dX5_init_90 : decode cX5_init 90 = .ok (.multianewarray 9 2, 4) := by decide +kernel
theorem dX5_init_94 : decode cX5_init 94 = .ok (.putfield 38, 3) := by decide +kernel
theorem dX5_init_97 : decode cX5_init 97 = .ok (.aload_n 0, 1) := by decide +kernel
theorem dX5_init_98 : decode cX5_init 98 = .ok (.bipush 16, 2) := by decide +kernel
theorem dX5_init_100 : decode cX5_init 100 = .ok (.bipush 25, 2) := by decide +kernel
theorem dX5_init_102 : decode cX5_init 102 = .ok (.multianewarray 41 2, 4) := by decide +kernel
theorem dX5_init_106 : decode cX5_init 106 = .ok (.putfield 43, 3) := by decide +kernel
theorem dX5_init_109 : decode cX5_init 109 = .ok (.aload_n 0, 1) := by decide +kernel
theorem dX5_init_110 : decode cX5_init 110 = .ok (.bipush 16, 2) := by decide +kernel
theorem dX5_init_112 : decode cX5_init 112 = .ok (.bipush 96, 2) := by decide +kernel
theorem dX5_init_114 : decode cX5_init 114 = .ok (.multianewarray 9 2, 4) := by decide +kernel
theorem dX5_init_118 : decode cX5_init 118 = .ok (.putfield 46, 3) := by decide +kernel
theorem dX5_init_121 : decode cX5_init 121 = .ok (.return_, 1) := by decide +kernel
theorem dX5_clear_0 : decode cX5_clear 0 = .ok (.aload_n 0, 1) := by decide +kernel
theorem dX5_clear_1 : decode cX5_clear 1 = .ok (.iconst 0, 1) := by decide +kernel
theorem dX5_clear_2 : decode cX5_clear 2 = .ok (.putfield 49, 3) := by decide +kernel
theorem dX5_clear_5 : decode cX5_clear 5 = .ok (.aload_n 0, 1) := by decide +kernel
theorem dX5_clear_6 : decode cX5_clear 6 = .ok (.iconst 0, 1) := by decide +kernel
theorem dX5_clear_7 : decode cX5_clear 7 = .ok (.putfield 53, 3) := by decide +kernel
theorem dX5_clear_10 : decode cX5_clear 10 = .ok (.aload_n 0, 1) := by decide +kernel
theorem dX5_clear_11 : decode cX5_clear 11 = .ok (.iconst 0, 1) := by decide +kernel
theorem dX5_clear_12 : decode cX5_clear 12 = .ok (.putfield 56, 3) := by decide +kernel
theorem dX5_clear_15 : decode cX5_clear 15 = .ok (.aload_n 0, 1) := by decide +kernel
theorem dX5_clear_16 : decode cX5_clear 16 = .ok (.iconst 3, 1) := by decide +kernel
theorem dX5_clear_17 : decode cX5_clear 17 = .ok (.putfield 59, 3) := by decide +kernel
theorem dX5_clear_20 : decode cX5_clear 20 = .ok (.iconst 0, 1) := by decide +kernel
theorem dX5_clear_21 : decode cX5_clear 21 = .ok (.istore_n 1, 1) := by decide +kernel
theorem dX5_clear_22 : decode cX5_clear 22 = .ok (.iload_n 1, 1) := by decide +kernel
theorem dX5_clear_23 : decode cX5_clear 23 = .ok (.aload_n 0, 1) := by decide +kernel
theorem dX5_clear_24 : decode cX5_clear 24 = .ok (.getfield 28, 3) := by decide +kernel
theorem dX5_clear_27 : decode cX5_clear 27 = .ok (.arraylength, 1) := by decide +kernel
theorem dX5_clear_28 : decode cX5_clear 28 = .ok (.if_icmp .ge 16, 3) := by decide +kernel
theorem dX5_clear_31 : decode cX5_clear 31 = .ok (.aload_n 0, 1) := by decide +kernel
theorem dX5_clear_32 : decode cX5_clear 32 = .ok (.getfield 28, 3) := by decide +kernel
theorem dX5_clear_35 : decode cX5_clear 35 = .ok (.iload_n 1, 1) := by decide +kernel
theorem dX5_clear_36 : decode cX5_clear 36 = .ok (.iconst 0, 1) := by decide +kernel
theorem dX5_clear_37 : decode cX5_clear 37 = .ok (.iastore, 1) := by decide +kernel
theorem dX5_clear_38 : decode cX5_clear 38 = .ok (.iinc 1 1, 3) := by decide +kernel
theorem dX5_clear_41 : decode cX5_clear 41 = .ok (.goto (-19), 3) := by decide +kernel
theorem dX5_clear_44 : decode cX5_clear 44 = .ok (.iconst 0, 1) := by decide +kernel
theorem dX5_clear_45 : decode cX5_clear 45 = .ok (.istore_n 1, 1) := by decide +kernel
theorem dX5_clear_46 : decode cX5_clear 46 = .ok (.iload_n 1, 1) := by decide +kernel
theorem dX5_clear_47 : decode cX5_clear 47 = .ok (.iconst 4, 1) := by decide +kernel
theorem dX5_clear_48 : decode cX5_clear 48 = .ok (.if_icmp .ge 55, 3) := by decide +kernel
theorem dX5_clear_51 : decode cX5_clear 51 = .ok (.iconst 0, 1) := by decide +kernel
theorem dX5_clear_52 : decode cX5_clear 52 = .ok (.istore_n 2, 1) := by decide +kernel
theorem dX5_clear_53 : decode cX5_clear 53 = .ok (.iload_n 2, 1) := by decide +kernel
theorem dX5_clear_54 : decode cX5_clear 54 = .ok (.iconst 4, 1) := by decide +kernel
theorem dX5_clear_55 : decode cX5_clear 55 = .ok (.if_icmp .ge 19, 3) := by decide +kernel
theorem dX5_clear_58 : decode cX5_clear 58 = .ok (.aload_n 0, 1) := by decide +kernel
theorem dX5_clear_59 : decode cX5_clear 59 = .ok (.getfield 22, 3) := by decide +kernel
theorem dX5_clear_62 : decode cX5_clear 62 = .ok (.iload_n 1, 1) := by decide +kernel
theorem dX5_clear_63 : decode cX5_clear 63 = .ok (.aaload, 1) := by decide +kernel
theorem dX5_clear_64 : decode cX5_clear 64 = .ok (.iload_n 2, 1) := by decide +kernel
theorem dX5_clear_65 : decode cX5_clear 65 = .ok (.bipush 20, 2) := by decide +kernel
theorem dX5_clear_67 : decode cX5_clear 67 = .ok (.iastore, 1) := by decide +kernel
theorem dX5_clear_68 : decode cX5_clear 68 = .ok (.iinc 2 1, 3) := by decide +kernel
theorem dX5_clear_71 : decode cX5_clear 71 = .ok (.goto (-18), 3) := by decide +kernel
theorem dX5_clear_74 : decode cX5_clear 74 = .ok (.iconst 0, 1) := by decide +kernel
theorem dX5_clear_75 : decode cX5_clear 75 = .ok (.istore_n 2, 1) := by decide +kernel
theorem dX5_clear_76 : decode cX5_clear 76 = .ok (.iload_n 2, 1) := by decide +kernel
theorem dX5_clear_77 : decode cX5_clear 77 = .ok (.bipush 24, 2) := by decide +kernel
theorem dX5_clear_79 : decode cX5_clear 79 = .ok (.if_icmp .ge 18, 3) := by decide +kernel
theorem dX5_clear_82 : decode cX5_clear 82 = .ok (.aload_n 0, 1) := by decide +kernel
theorem dX5_clear_83 : decode cX5_clear 83 = .ok (.getfield 25, 3) := by decide +kernel
theorem dX5_clear_86 : decode cX5_clear 86 = .ok (.iload_n 1, 1) := by decide +kernel
theorem dX5_clear_87 : decode cX5_clear 87 = .ok (.aaload, 1) := by decide +kernel
theorem dX5_clear_88 : decode cX5_clear 88 = .ok (.iload_n 2, 1) := by decide +kernel
theorem dX5_clear_89 : decode cX5_clear 89 = .ok (.iconst 0, 1) := by decide +kernel
theorem dX5_clear_90 : decode cX5_clear 90 = .ok (.iastore, 1) := by decide +kernel
theorem dX5_clear_91 : decode cX5_clear 91 = .ok (.iinc 2 1, 3) := by decide +kernel
theorem dX5_clear_94 : decode cX5_clear 94 = .ok (.goto (-18), 3) := by decide +kernel
theorem dX5_clear_97 : decode cX5_clear 97 = .ok (.iinc 1 1, 3) := by decide +kernel
theorem dX5_clear_100 : decode cX5_clear 100 = .ok (.goto (-54), 3) := by decide +kernel
theorem dX5_clear_103 : decode cX5_clear 103 = .ok (.return_, 1) := by decide +kernel
theorem dX5_take_0 : decode cX5_take 0 = .ok (.iload_n 1, 1) := by decide +kernel
theorem dX5_take_1 : decode cX5_take 1 = .ok (.tableswitch 241 98 119 #[129, 241, 181, 241, 241, 199, 103, 241, 241, 241, 241, 241, 241, 241, 241, 241, 217, 155, 241, 241, 241, 231], 103) := by decide +kernel
theorem dX5_take_104 : decode cX5_take 104 = .ok (.aload_n 2, 1) := by decide +kernel
theorem dX5_take_105 : decode cX5_take 105 = .ok (.aload_n 0, 1) := by decide +kernel
theorem dX5_take_106 : decode cX5_take 106 = .ok (.getfield 11, 3) := by decide +kernel
theorem dX5_take_109 : decode cX5_take 109 = .ok (.aload_n 0, 1) := by decide +kernel
theorem dX5_take_110 : decode cX5_take 110 = .ok (.getfield 49, 3) := by decide +kernel
theorem dX5_take_113 : decode cX5_take 113 = .ok (.aaload, 1) := by decide +kernel
theorem dX5_take_114 : decode cX5_take 114 = .ok (.invokestatic 62, 3) := by decide +kernel
theorem dX5_take_117 : decode cX5_take 117 = .ok (.aload_n 0, 1) := by decide +kernel
theorem dX5_take_118 : decode cX5_take 118 = .ok (.dup, 1) := by decide +kernel
theorem dX5_take_119 : decode cX5_take 119 = .ok (.getfield 49, 3) := by decide +kernel
theorem dX5_take_122 : decode cX5_take 122 = .ok (.iconst 1, 1) := by decide +kernel
theorem dX5_take_123 : decode cX5_take 123 = .ok (.iadd, 1) := by decide +kernel
theorem dX5_take_124 : decode cX5_take 124 = .ok (.putfield 49, 3) := by decide +kernel
theorem dX5_take_127 : decode cX5_take 127 = .ok (.goto 115, 3) := by decide +kernel
theorem dX5_take_130 : decode cX5_take 130 = .ok (.aload_n 2, 1) := by decide +kernel
theorem dX5_take_131 : decode cX5_take 131 = .ok (.aload_n 0, 1) := by decide +kernel
theorem dX5_take_132 : decode cX5_take 132 = .ok (.getfield 16, 3) := by decide +kernel
theorem dX5_take_135 : decode cX5_take 135 = .ok (.aload_n 0, 1) := by decide +kernel
theorem dX5_take_136 : decode cX5_take 136 = .ok (.getfield 53, 3) := by decide +kernel
theorem dX5_take_139 : decode cX5_take 139 = .ok (.aaload, 1) := by decide +kernel
theorem dX5_take_140 : decode cX5_take 140 = .ok (.invokestatic 62, 3) := by decide +kernel
theorem dX5_take_143 : decode cX5_take 143 = .ok (.aload_n 0, 1) := by decide +kernel
theorem dX5_take_144 : decode cX5_take 144 = .ok (.dup, 1) := by decide +kernel
theorem dX5_take_145 : decode cX5_take 145 = .ok (.getfield 53, 3) := by decide +kernel
theorem dX5_take_148 : decode cX5_take 148 = .ok (.iconst 1, 1) := by decide +kernel
theorem dX5_take_149 : decode cX5_take 149 = .ok (.iadd, 1) := by decide +kernel
theorem dX5_take_150 : decode cX5_take 150 = .ok (.putfield 53, 3) := by decide +kernel
theorem dX5_take_153 : decode cX5_take 153 = .ok (.goto 89, 3) := by decide +kernel
theorem dX5_take_156 : decode cX5_take 156 = .ok (.aload_n 2, 1) := by decide +kernel
theorem dX5_take_157 : decode cX5_take 157 = .ok (.aload_n 0, 1) := by decide +kernel
theorem dX5_take_158 : decode cX5_take 158 = .ok (.getfield 19, 3) := by decide +kernel
theorem dX5_take_161 : decode cX5_take 161 = .ok (.aload_n 0, 1) := by decide +kernel
theorem dX5_take_162 : decode cX5_take 162 = .ok (.getfield 56, 3) := by decide +kernel
theorem dX5_take_165 : decode cX5_take 165 = .ok (.aaload, 1) := by decide +kernel
theorem dX5_take_166 : decode cX5_take 166 = .ok (.invokestatic 62, 3) := by decide +kernel
theorem dX5_take_169 : decode cX5_take 169 = .ok (.aload_n 0, 1) := by decide +kernel
theorem dX5_take_170 : decode cX5_take 170 = .ok (.dup, 1) := by decide +kernel
theorem dX5_take_171 : decode cX5_take 171 = .ok (.getfield 56, 3) := by decide +kernel
theorem dX5_take_174 : decode cX5_take 174 = .ok (.iconst 1, 1) := by decide +kernel
theorem dX5_take_175 : decode cX5_take 175 = .ok (.iadd, 1) := by decide +kernel
theorem dX5_take_176 : decode cX5_take 176 = .ok (.putfield 56, 3) := by decide +kernel
theorem dX5_take_179 : decode cX5_take 179 = .ok (.goto 63, 3) := by decide +kernel
theorem dX5_take_182 : decode cX5_take 182 = .ok (.aload_n 0, 1) := by decide +kernel
theorem dX5_take_183 : decode cX5_take 183 = .ok (.getfield 22, 3) := by decide +kernel
theorem dX5_take_186 : decode cX5_take 186 = .ok (.aload_n 2, 1) := by decide +kernel
theorem dX5_take_187 : decode cX5_take 187 = .ok (.iconst 0, 1) := by decide +kernel
theorem dX5_take_188 : decode cX5_take 188 = .ok (.iaload, 1) := by decide +kernel
theorem dX5_take_189 : decode cX5_take 189 = .ok (.aaload, 1) := by decide +kernel
theorem dX5_take_190 : decode cX5_take 190 = .ok (.aload_n 2, 1) := by decide +kernel
theorem dX5_take_191 : decode cX5_take 191 = .ok (.iconst 1, 1) := by decide +kernel
theorem dX5_take_192 : decode cX5_take 192 = .ok (.iaload, 1) := by decide +kernel
theorem dX5_take_193 : decode cX5_take 193 = .ok (.aload_n 2, 1) := by decide +kernel
theorem dX5_take_194 : decode cX5_take 194 = .ok (.iconst 2, 1) := by decide +kernel
theorem dX5_take_195 : decode cX5_take 195 = .ok (.iaload, 1) := by decide +kernel
theorem dX5_take_196 : decode cX5_take 196 = .ok (.iastore, 1) := by decide +kernel
theorem dX5_take_197 : decode cX5_take 197 = .ok (.goto 45, 3) := by decide +kernel
theorem dX5_take_200 : decode cX5_take 200 = .ok (.aload_n 0, 1) := by decide +kernel
theorem dX5_take_201 : decode cX5_take 201 = .ok (.getfield 25, 3) := by decide +kernel
theorem dX5_take_204 : decode cX5_take 204 = .ok (.aload_n 2, 1) := by decide +kernel
theorem dX5_take_205 : decode cX5_take 205 = .ok (.iconst 0, 1) := by decide +kernel
theorem dX5_take_206 : decode cX5_take 206 = .ok (.iaload, 1) := by decide +kernel
theorem dX5_take_207 : decode cX5_take 207 = .ok (.aaload, 1) := by decide +kernel
theorem dX5_take_208 : decode cX5_take 208 = .ok (.aload_n 2, 1) := by decide +kernel
theorem dX5_take_209 : decode cX5_take 209 = .ok (.iconst 1, 1) := by decide +kernel
theorem dX5_take_210 : decode cX5_take 210 = .ok (.iaload, 1) := by decide +kernel
theorem dX5_take_211 : decode cX5_take 211 = .ok (.aload_n 2, 1) := by decide +kernel
theorem dX5_take_212 : decode cX5_take 212 = .ok (.iconst 2, 1) := by decide +kernel
theorem dX5_take_213 : decode cX5_take 213 = .ok (.iaload, 1) := by decide +kernel
theorem dX5_take_214 : decode cX5_take 214 = .ok (.iastore, 1) := by decide +kernel
theorem dX5_take_215 : decode cX5_take 215 = .ok (.goto 27, 3) := by decide +kernel
theorem dX5_take_218 : decode cX5_take 218 = .ok (.aload_n 0, 1) := by decide +kernel
theorem dX5_take_219 : decode cX5_take 219 = .ok (.getfield 28, 3) := by decide +kernel
theorem dX5_take_222 : decode cX5_take 222 = .ok (.aload_n 2, 1) := by decide +kernel
theorem dX5_take_223 : decode cX5_take 223 = .ok (.iconst 0, 1) := by decide +kernel
theorem dX5_take_224 : decode cX5_take 224 = .ok (.iaload, 1) := by decide +kernel
theorem dX5_take_225 : decode cX5_take 225 = .ok (.aload_n 2, 1) := by decide +kernel
theorem dX5_take_226 : decode cX5_take 226 = .ok (.iconst 1, 1) := by decide +kernel
theorem dX5_take_227 : decode cX5_take 227 = .ok (.iaload, 1) := by decide +kernel
theorem dX5_take_228 : decode cX5_take 228 = .ok (.iastore, 1) := by decide +kernel
theorem dX5_take_229 : decode cX5_take 229 = .ok (.goto 13, 3) := by decide +kernel
theorem dX5_take_232 : decode cX5_take 232 = .ok (.aload_n 0, 1) := by decide +kernel
theorem dX5_take_233 : decode cX5_take 233 = .ok (.aload_n 2, 1) := by decide +kernel
theorem dX5_take_234 : decode cX5_take 234 = .ok (.iconst 0, 1) := by decide +kernel
theorem dX5_take_235 : decode cX5_take 235 = .ok (.iaload, 1) := by decide +kernel
theorem dX5_take_236 : decode cX5_take 236 = .ok (.putfield 59, 3) := by decide +kernel
theorem dX5_take_239 : decode cX5_take 239 = .ok (.goto 3, 3) := by decide +kernel
theorem dX5_take_242 : decode cX5_take 242 = .ok (.return_, 1) := by decide +kernel
theorem dX5_copyRow_0 : decode cX5_copyRow 0 = .ok (.iconst 0, 1) := by decide +kernel
theorem dX5_copyRow_1 : decode cX5_copyRow 1 = .ok (.istore_n 2, 1) := by decide +kernel
theorem dX5_copyRow_2 : decode cX5_copyRow 2 = .ok (.iload_n 2, 1) := by decide +kernel
theorem dX5_copyRow_3 : decode cX5_copyRow 3 = .ok (.aload_n 1, 1) := by decide +kernel
theorem dX5_copyRow_4 : decode cX5_copyRow 4 = .ok (.arraylength, 1) := by decide +kernel
theorem dX5_copyRow_5 : decode cX5_copyRow 5 = .ok (.if_icmp .ge 21, 3) := by decide +kernel
theorem dX5_copyRow_8 : decode cX5_copyRow 8 = .ok (.iload_n 2, 1) := by decide +kernel
theorem dX5_copyRow_9 : decode cX5_copyRow 9 = .ok (.aload_n 0, 1) := by decide +kernel
theorem dX5_copyRow_10 : decode cX5_copyRow 10 = .ok (.arraylength, 1) := by decide +kernel
theorem dX5_copyRow_11 : decode cX5_copyRow 11 = .ok (.if_icmp .ge 15, 3) := by decide +kernel
theorem dX5_copyRow_14 : decode cX5_copyRow 14 = .ok (.aload_n 1, 1) := by decide +kernel
theorem dX5_copyRow_15 : decode cX5_copyRow 15 = .ok (.iload_n 2, 1) := by decide +kernel
theorem dX5_copyRow_16 : decode cX5_copyRow 16 = .ok (.aload_n 0, 1) := by decide +kernel
theorem dX5_copyRow_17 : decode cX5_copyRow 17 = .ok (.iload_n 2, 1) := by decide +kernel
theorem dX5_copyRow_18 : decode cX5_copyRow 18 = .ok (.iaload, 1) := by decide +kernel
theorem dX5_copyRow_19 : decode cX5_copyRow 19 = .ok (.iastore, 1) := by decide +kernel
theorem dX5_copyRow_20 : decode cX5_copyRow 20 = .ok (.iinc 2 1, 3) := by decide +kernel
theorem dX5_copyRow_23 : decode cX5_copyRow 23 = .ok (.goto (-21), 3) := by decide +kernel
theorem dX5_copyRow_26 : decode cX5_copyRow 26 = .ok (.return_, 1) := by decide +kernel
theorem dX5_reckon_0 : decode cX5_reckon 0 = .ok (.iconst 0, 1) := by decide +kernel
theorem dX5_reckon_1 : decode cX5_reckon 1 = .ok (.istore_n 1, 1) := by decide +kernel
theorem dX5_reckon_2 : decode cX5_reckon 2 = .ok (.iload_n 1, 1) := by decide +kernel
theorem dX5_reckon_3 : decode cX5_reckon 3 = .ok (.aload_n 0, 1) := by decide +kernel
theorem dX5_reckon_4 : decode cX5_reckon 4 = .ok (.getfield 56, 3) := by decide +kernel
theorem dX5_reckon_7 : decode cX5_reckon 7 = .ok (.if_icmp .ge 99, 3) := by decide +kernel
theorem dX5_reckon_10 : decode cX5_reckon 10 = .ok (.iconst 0, 1) := by decide +kernel
theorem dX5_reckon_11 : decode cX5_reckon 11 = .ok (.istore_n 2, 1) := by decide +kernel
theorem dX5_reckon_12 : decode cX5_reckon 12 = .ok (.iload_n 2, 1) := by decide +kernel
theorem dX5_reckon_13 : decode cX5_reckon 13 = .ok (.bipush 24, 2) := by decide +kernel
theorem dX5_reckon_15 : decode cX5_reckon 15 = .ok (.if_icmp .ge 27, 3) := by decide +kernel
theorem dX5_reckon_18 : decode cX5_reckon 18 = .ok (.aload_n 0, 1) := by decide +kernel
theorem dX5_reckon_19 : decode cX5_reckon 19 = .ok (.getfield 32, 3) := by decide +kernel
theorem dX5_reckon_22 : decode cX5_reckon 22 = .ok (.iload_n 1, 1) := by decide +kernel
theorem dX5_reckon_23 : decode cX5_reckon 23 = .ok (.aaload, 1) := by decide +kernel
theorem dX5_reckon_24 : decode cX5_reckon 24 = .ok (.iload_n 2, 1) := by decide +kernel
theorem dX5_reckon_25 : decode cX5_reckon 25 = .ok (.aload_n 0, 1) := by decide +kernel
theorem dX5_reckon_26 : decode cX5_reckon 26 = .ok (.getfield 19, 3) := by decide +kernel
theorem dX5_reckon_29 : decode cX5_reckon 29 = .ok (.iload_n 1, 1) := by decide +kernel
theorem dX5_reckon_30 : decode cX5_reckon 30 = .ok (.aaload, 1) := by decide +kernel
theorem dX5_reckon_31 : decode cX5_reckon 31 = .ok (.iload_n 2, 1) := by decide +kernel
theorem dX5_reckon_32 : decode cX5_reckon 32 = .ok (.invokestatic 66, 3) := by decide +kernel
theorem dX5_reckon_35 : decode cX5_reckon 35 = .ok (.iastore, 1) := by decide +kernel
theorem dX5_reckon_36 : decode cX5_reckon 36 = .ok (.iinc 2 1, 3) := by decide +kernel
theorem dX5_reckon_39 : decode cX5_reckon 39 = .ok (.goto (-27), 3) := by decide +kernel
theorem dX5_reckon_42 : decode cX5_reckon 42 = .ok (.iconst 0, 1) := by decide +kernel
theorem dX5_reckon_43 : decode cX5_reckon 43 = .ok (.istore_n 2, 1) := by decide +kernel
theorem dX5_reckon_44 : decode cX5_reckon 44 = .ok (.iload_n 2, 1) := by decide +kernel
theorem dX5_reckon_45 : decode cX5_reckon 45 = .ok (.aload_n 0, 1) := by decide +kernel
theorem dX5_reckon_46 : decode cX5_reckon 46 = .ok (.getfield 49, 3) := by decide +kernel
theorem dX5_reckon_49 : decode cX5_reckon 49 = .ok (.if_icmp .ge 23, 3) := by decide +kernel
theorem dX5_reckon_52 : decode cX5_reckon 52 = .ok (.aload_n 0, 1) := by decide +kernel
theorem dX5_reckon_53 : decode cX5_reckon 53 = .ok (.getfield 35, 3) := by decide +kernel
theorem dX5_reckon_56 : decode cX5_reckon 56 = .ok (.iload_n 2, 1) := by decide +kernel
theorem dX5_reckon_57 : decode cX5_reckon 57 = .ok (.aaload, 1) := by decide +kernel
theorem dX5_reckon_58 : decode cX5_reckon 58 = .ok (.iload_n 1, 1) := by decide +kernel
theorem dX5_reckon_59 : decode cX5_reckon 59 = .ok (.aload_n 0, 1) := by decide +kernel
theorem dX5_reckon_60 : decode cX5_reckon 60 = .ok (.iload_n 2, 1) := by decide +kernel
theorem dX5_reckon_61 : decode cX5_reckon 61 = .ok (.iload_n 1, 1) := by decide +kernel
theorem dX5_reckon_62 : decode cX5_reckon 62 = .ok (.invokevirtual 70, 3) := by decide +kernel
theorem dX5_reckon_65 : decode cX5_reckon 65 = .ok (.iastore, 1) := by decide +kernel
theorem dX5_reckon_66 : decode cX5_reckon 66 = .ok (.iinc 2 1, 3) := by decide +kernel
theorem dX5_reckon_69 : decode cX5_reckon 69 = .ok (.goto (-25), 3) := by decide +kernel
theorem dX5_reckon_72 : decode cX5_reckon 72 = .ok (.iconst 0, 1) := by decide +kernel
theorem dX5_reckon_73 : decode cX5_reckon 73 = .ok (.istore_n 2, 1) := by decide +kernel
theorem dX5_reckon_74 : decode cX5_reckon 74 = .ok (.iload_n 2, 1) := by decide +kernel
theorem dX5_reckon_75 : decode cX5_reckon 75 = .ok (.aload_n 0, 1) := by decide +kernel
theorem dX5_reckon_76 : decode cX5_reckon 76 = .ok (.getfield 53, 3) := by decide +kernel
theorem dX5_reckon_79 : decode cX5_reckon 79 = .ok (.if_icmp .ge 21, 3) := by decide +kernel
theorem dX5_reckon_82 : decode cX5_reckon 82 = .ok (.aload_n 0, 1) := by decide +kernel
theorem dX5_reckon_83 : decode cX5_reckon 83 = .ok (.iload_n 1, 1) := by decide +kernel
theorem dX5_reckon_84 : decode cX5_reckon 84 = .ok (.iload_n 2, 1) := by decide +kernel
theorem dX5_reckon_85 : decode cX5_reckon 85 = .ok (.invokevirtual 74, 3) := by decide +kernel
theorem dX5_reckon_88 : decode cX5_reckon 88 = .ok (.aload_n 0, 1) := by decide +kernel
theorem dX5_reckon_89 : decode cX5_reckon 89 = .ok (.iload_n 1, 1) := by decide +kernel
theorem dX5_reckon_90 : decode cX5_reckon 90 = .ok (.iload_n 2, 1) := by decide +kernel
theorem dX5_reckon_91 : decode cX5_reckon 91 = .ok (.invokevirtual 78, 3) := by decide +kernel
theorem dX5_reckon_94 : decode cX5_reckon 94 = .ok (.iinc 2 1, 3) := by decide +kernel
theorem dX5_reckon_97 : decode cX5_reckon 97 = .ok (.goto (-23), 3) := by decide +kernel
theorem dX5_reckon_100 : decode cX5_reckon 100 = .ok (.iinc 1 1, 3) := by decide +kernel
theorem dX5_reckon_103 : decode cX5_reckon 103 = .ok (.goto (-101), 3) := by decide +kernel
theorem dX5_reckon_106 : decode cX5_reckon 106 = .ok (.return_, 1) := by decide +kernel
theorem dX5_strengthOf_0 : decode cX5_strengthOf 0 = .ok (.iload_n 1, 1) := by decide +kernel
theorem dX5_strengthOf_1 : decode cX5_strengthOf 1 = .ok (.aload_n 0, 1) := by decide +kernel
theorem dX5_strengthOf_2 : decode cX5_strengthOf 2 = .ok (.iconst 1, 1) := by decide +kernel
theorem dX5_strengthOf_3 : decode cX5_strengthOf 3 = .ok (.iaload, 1) := by decide +kernel
theorem dX5_strengthOf_4 : decode cX5_strengthOf 4 = .ok (.if_icmp .lt 14, 3) := by decide +kernel
theorem dX5_strengthOf_7 : decode cX5_strengthOf 7 = .ok (.iload_n 1, 1) := by decide +kernel
theorem dX5_strengthOf_8 : decode cX5_strengthOf 8 = .ok (.aload_n 0, 1) := by decide +kernel
theorem dX5_strengthOf_9 : decode cX5_strengthOf 9 = .ok (.iconst 1, 1) := by decide +kernel
theorem dX5_strengthOf_10 : decode cX5_strengthOf 10 = .ok (.iaload, 1) := by decide +kernel
theorem dX5_strengthOf_11 : decode cX5_strengthOf 11 = .ok (.aload_n 0, 1) := by decide +kernel
theorem dX5_strengthOf_12 : decode cX5_strengthOf 12 = .ok (.iconst 4, 1) := by decide +kernel
theorem dX5_strengthOf_13 : decode cX5_strengthOf 13 = .ok (.iaload, 1) := by decide +kernel
theorem dX5_strengthOf_14 : decode cX5_strengthOf 14 = .ok (.iadd, 1) := by decide +kernel
theorem dX5_strengthOf_15 : decode cX5_strengthOf 15 = .ok (.if_icmp .lt 5, 3) := by decide +kernel
theorem dX5_strengthOf_18 : decode cX5_strengthOf 18 = .ok (.iconst 0, 1) := by decide +kernel
theorem dX5_strengthOf_19 : decode cX5_strengthOf 19 = .ok (.ireturn, 1) := by decide +kernel
theorem dX5_strengthOf_20 : decode cX5_strengthOf 20 = .ok (.aload_n 0, 1) := by decide +kernel
theorem dX5_strengthOf_21 : decode cX5_strengthOf 21 = .ok (.iconst 3, 1) := by decide +kernel
theorem dX5_strengthOf_22 : decode cX5_strengthOf 22 = .ok (.iaload, 1) := by decide +kernel
theorem dX5_strengthOf_23 : decode cX5_strengthOf 23 = .ok (.aload_n 0, 1) := by decide +kernel
theorem dX5_strengthOf_24 : decode cX5_strengthOf 24 = .ok (.iconst 2, 1) := by decide +kernel
theorem dX5_strengthOf_25 : decode cX5_strengthOf 25 = .ok (.iaload, 1) := by decide +kernel
theorem dX5_strengthOf_26 : decode cX5_strengthOf 26 = .ok (.iload_n 1, 1) := by decide +kernel
theorem dX5_strengthOf_27 : decode cX5_strengthOf 27 = .ok (.aload_n 0, 1) := by decide +kernel
theorem dX5_strengthOf_28 : decode cX5_strengthOf 28 = .ok (.iconst 1, 1) := by decide +kernel
theorem dX5_strengthOf_29 : decode cX5_strengthOf 29 = .ok (.iaload, 1) := by decide +kernel
theorem dX5_strengthOf_30 : decode cX5_strengthOf 30 = .ok (.isub, 1) := by decide +kernel
theorem dX5_strengthOf_31 : decode cX5_strengthOf 31 = .ok (.iconst 1, 1) := by decide +kernel
theorem dX5_strengthOf_32 : decode cX5_strengthOf 32 = .ok (.iadd, 1) := by decide +kernel
theorem dX5_strengthOf_33 : decode cX5_strengthOf 33 = .ok (.imul, 1) := by decide +kernel
theorem dX5_strengthOf_34 : decode cX5_strengthOf 34 = .ok (.invokestatic 81, 3) := by decide +kernel
theorem dX5_strengthOf_37 : decode cX5_strengthOf 37 = .ok (.ireturn, 1) := by decide +kernel
theorem dX5_openHoursOf_0 : decode cX5_openHoursOf 0 = .ok (.aload_n 0, 1) := by decide +kernel
theorem dX5_openHoursOf_1 : decode cX5_openHoursOf 1 = .ok (.getfield 11, 3) := by decide +kernel
theorem dX5_openHoursOf_4 : decode cX5_openHoursOf 4 = .ok (.iload_n 1, 1) := by decide +kernel
theorem dX5_openHoursOf_5 : decode cX5_openHoursOf 5 = .ok (.aaload, 1) := by decide +kernel
theorem dX5_openHoursOf_6 : decode cX5_openHoursOf 6 = .ok (.iconst 3, 1) := by decide +kernel
theorem dX5_openHoursOf_7 : decode cX5_openHoursOf 7 = .ok (.iaload, 1) := by decide +kernel
theorem dX5_openHoursOf_8 : decode cX5_openHoursOf 8 = .ok (.aload_n 0, 1) := by decide +kernel
theorem dX5_openHoursOf_9 : decode cX5_openHoursOf 9 = .ok (.getfield 19, 3) := by decide +kernel
theorem dX5_openHoursOf_12 : decode cX5_openHoursOf 12 = .ok (.iload_n 2, 1) := by decide +kernel
theorem dX5_openHoursOf_13 : decode cX5_openHoursOf 13 = .ok (.aaload, 1) := by decide +kernel
theorem dX5_openHoursOf_14 : decode cX5_openHoursOf 14 = .ok (.iconst 5, 1) := by decide +kernel
theorem dX5_openHoursOf_15 : decode cX5_openHoursOf 15 = .ok (.iaload, 1) := by decide +kernel
theorem dX5_openHoursOf_16 : decode cX5_openHoursOf 16 = .ok (.ishr, 1) := by decide +kernel
theorem dX5_openHoursOf_17 : decode cX5_openHoursOf 17 = .ok (.iconst 1, 1) := by decide +kernel
theorem dX5_openHoursOf_18 : decode cX5_openHoursOf 18 = .ok (.iand, 1) := by decide +kernel
theorem dX5_openHoursOf_19 : decode cX5_openHoursOf 19 = .ok (.ifCond .ne 7, 3) := by decide +kernel
theorem dX5_openHoursOf_22 : decode cX5_openHoursOf 22 = .ok (.iconst 1, 1) := by decide +kernel
theorem dX5_openHoursOf_23 : decode cX5_openHoursOf 23 = .ok (.goto 4, 3) := by decide +kernel
theorem dX5_openHoursOf_26 : decode cX5_openHoursOf 26 = .ok (.iconst 0, 1) := by decide +kernel
theorem dX5_openHoursOf_27 : decode cX5_openHoursOf 27 = .ok (.istore_n 3, 1) := by decide +kernel
theorem dX5_openHoursOf_28 : decode cX5_openHoursOf 28 = .ok (.iconst 0, 1) := by decide +kernel
theorem dX5_openHoursOf_29 : decode cX5_openHoursOf 29 = .ok (.istore 4, 2) := by decide +kernel
theorem dX5_openHoursOf_31 : decode cX5_openHoursOf 31 = .ok (.iconst 0, 1) := by decide +kernel
theorem dX5_openHoursOf_32 : decode cX5_openHoursOf 32 = .ok (.istore 5, 2) := by decide +kernel
theorem dX5_openHoursOf_34 : decode cX5_openHoursOf 34 = .ok (.iload 5, 2) := by decide +kernel
theorem dX5_openHoursOf_36 : decode cX5_openHoursOf 36 = .ok (.bipush 24, 2) := by decide +kernel
theorem dX5_openHoursOf_38 : decode cX5_openHoursOf 38 = .ok (.if_icmp .ge 42, 3) := by decide +kernel
theorem dX5_openHoursOf_41 : decode cX5_openHoursOf 41 = .ok (.iload_n 3, 1) := by decide +kernel
theorem dX5_openHoursOf_42 : decode cX5_openHoursOf 42 = .ok (.ifCond .ne 23, 3) := by decide +kernel
theorem dX5_openHoursOf_45 : decode cX5_openHoursOf 45 = .ok (.aload_n 0, 1) := by decide +kernel
theorem dX5_openHoursOf_46 : decode cX5_openHoursOf 46 = .ok (.getfield 32, 3) := by decide +kernel
theorem dX5_openHoursOf_49 : decode cX5_openHoursOf 49 = .ok (.iload_n 2, 1) := by decide +kernel
theorem dX5_openHoursOf_50 : decode cX5_openHoursOf 50 = .ok (.aaload, 1) := by decide +kernel
theorem dX5_openHoursOf_51 : decode cX5_openHoursOf 51 = .ok (.iload 5, 2) := by decide +kernel
theorem dX5_openHoursOf_53 : decode cX5_openHoursOf 53 = .ok (.iaload, 1) := by decide +kernel
theorem dX5_openHoursOf_54 : decode cX5_openHoursOf 54 = .ok (.aload_n 0, 1) := by decide +kernel
theorem dX5_openHoursOf_55 : decode cX5_openHoursOf 55 = .ok (.getfield 11, 3) := by decide +kernel
theorem dX5_openHoursOf_58 : decode cX5_openHoursOf 58 = .ok (.iload_n 1, 1) := by decide +kernel
theorem dX5_openHoursOf_59 : decode cX5_openHoursOf 59 = .ok (.aaload, 1) := by decide +kernel
theorem dX5_openHoursOf_60 : decode cX5_openHoursOf 60 = .ok (.iconst 2, 1) := by decide +kernel
theorem dX5_openHoursOf_61 : decode cX5_openHoursOf 61 = .ok (.iaload, 1) := by decide +kernel
theorem dX5_openHoursOf_62 : decode cX5_openHoursOf 62 = .ok (.if_icmp .ge 12, 3) := by decide +kernel
theorem dX5_openHoursOf_65 : decode cX5_openHoursOf 65 = .ok (.iload 4, 2) := by decide +kernel
theorem dX5_openHoursOf_67 : decode cX5_openHoursOf 67 = .ok (.iconst 1, 1) := by decide +kernel
theorem dX5_openHoursOf_68 : decode cX5_openHoursOf 68 = .ok (.iload 5, 2) := by decide +kernel
theorem dX5_openHoursOf_70 : decode cX5_openHoursOf 70 = .ok (.ishl, 1) := by decide +kernel
theorem dX5_openHoursOf_71 : decode cX5_openHoursOf 71 = .ok (.ior, 1) := by decide +kernel
theorem dX5_openHoursOf_72 : decode cX5_openHoursOf 72 = .ok (.istore 4, 2) := by decide +kernel
theorem dX5_openHoursOf_74 : decode cX5_openHoursOf 74 = .ok (.iinc 5 1, 3) := by decide +kernel
theorem dX5_openHoursOf_77 : decode cX5_openHoursOf 77 = .ok (.goto (-43), 3) := by decide +kernel
theorem dX5_openHoursOf_80 : decode cX5_openHoursOf 80 = .ok (.iload 4, 2) := by decide +kernel
theorem dX5_openHoursOf_82 : decode cX5_openHoursOf 82 = .ok (.ireturn, 1) := by decide +kernel
theorem dX5_reckonBank_0 : decode cX5_reckonBank 0 = .ok (.aload_n 0, 1) := by decide +kernel
theorem dX5_reckonBank_1 : decode cX5_reckonBank 1 = .ok (.getfield 38, 3) := by decide +kernel
theorem dX5_reckonBank_4 : decode cX5_reckonBank 4 = .ok (.iload_n 1, 1) := by decide +kernel
theorem dX5_reckonBank_5 : decode cX5_reckonBank 5 = .ok (.iconst 4, 1) := by decide +kernel
theorem dX5_reckonBank_6 : decode cX5_reckonBank 6 = .ok (.imul, 1) := by decide +kernel
theorem dX5_reckonBank_7 : decode cX5_reckonBank 7 = .ok (.iload_n 2, 1) := by decide +kernel
theorem dX5_reckonBank_8 : decode cX5_reckonBank 8 = .ok (.iadd, 1) := by decide +kernel
theorem dX5_reckonBank_9 : decode cX5_reckonBank 9 = .ok (.aaload, 1) := by decide +kernel
theorem dX5_reckonBank_10 : decode cX5_reckonBank 10 = .ok (.astore_n 3, 1) := by decide +kernel
theorem dX5_reckonBank_11 : decode cX5_reckonBank 11 = .ok (.aload_n 0, 1) := by decide +kernel
theorem dX5_reckonBank_12 : decode cX5_reckonBank 12 = .ok (.getfield 43, 3) := by decide +kernel
theorem dX5_reckonBank_15 : decode cX5_reckonBank 15 = .ok (.iload_n 1, 1) := by decide +kernel
theorem dX5_reckonBank_16 : decode cX5_reckonBank 16 = .ok (.iconst 4, 1) := by decide +kernel
theorem dX5_reckonBank_17 : decode cX5_reckonBank 17 = .ok (.imul, 1) := by decide +kernel
theorem dX5_reckonBank_18 : decode cX5_reckonBank 18 = .ok (.iload_n 2, 1) := by decide +kernel
theorem dX5_reckonBank_19 : decode cX5_reckonBank 19 = .ok (.iadd, 1) := by decide +kernel
theorem dX5_reckonBank_20 : decode cX5_reckonBank 20 = .ok (.aaload, 1) := by decide +kernel
theorem dX5_reckonBank_21 : decode cX5_reckonBank 21 = .ok (.astore 4, 2) := by decide +kernel
theorem dX5_reckonBank_23 : decode cX5_reckonBank 23 = .ok (.aload_n 3, 1) := by decide +kernel
theorem dX5_reckonBank_24 : decode cX5_reckonBank 24 = .ok (.iconst 0, 1) := by decide +kernel
theorem dX5_reckonBank_25 : decode cX5_reckonBank 25 = .ok (.ldc 86, 2) := by decide +kernel
theorem dX5_reckonBank_27 : decode cX5_reckonBank 27 = .ok (.iastore, 1) := by decide +kernel
theorem dX5_reckonBank_28 : decode cX5_reckonBank 28 = .ok (.aload 4, 2) := by decide +kernel
theorem dX5_reckonBank_30 : decode cX5_reckonBank 30 = .ok (.iconst 0, 1) := by decide +kernel
theorem dX5_reckonBank_31 : decode cX5_reckonBank 31 = .ok (.lconst 0, 1) := by decide +kernel
theorem dX5_reckonBank_32 : decode cX5_reckonBank 32 = .ok (.lastore, 1) := by decide +kernel
theorem dX5_reckonBank_33 : decode cX5_reckonBank 33 = .ok (.iconst 0, 1) := by decide +kernel
theorem dX5_reckonBank_34 : decode cX5_reckonBank 34 = .ok (.istore 5, 2) := by decide +kernel
theorem dX5_reckonBank_36 : decode cX5_reckonBank 36 = .ok (.iload 5, 2) := by decide +kernel
theorem dX5_reckonBank_38 : decode cX5_reckonBank 38 = .ok (.bipush 24, 2) := by decide +kernel
theorem dX5_reckonBank_40 : decode cX5_reckonBank 40 = .ok (.if_icmp .ge 64, 3) := by decide +kernel
theorem dX5_reckonBank_43 : decode cX5_reckonBank 43 = .ok (.aload 4, 2) := by decide +kernel
theorem dX5_reckonBank_45 : decode cX5_reckonBank 45 = .ok (.iload 5, 2) := by decide +kernel
theorem dX5_reckonBank_47 : decode cX5_reckonBank 47 = .ok (.iconst 1, 1) := by decide +kernel
theorem dX5_reckonBank_48 : decode cX5_reckonBank 48 = .ok (.iadd, 1) := by decide +kernel
theorem dX5_reckonBank_49 : decode cX5_reckonBank 49 = .ok (.aload 4, 2) := by decide +kernel
theorem dX5_reckonBank_51 : decode cX5_reckonBank 51 = .ok (.iload 5, 2) := by decide +kernel
theorem dX5_reckonBank_53 : decode cX5_reckonBank 53 = .ok (.laload, 1) := by decide +kernel
theorem dX5_reckonBank_54 : decode cX5_reckonBank 54 = .ok (.aload_n 0, 1) := by decide +kernel
theorem dX5_reckonBank_55 : decode cX5_reckonBank 55 = .ok (.getfield 16, 3) := by decide +kernel
theorem dX5_reckonBank_58 : decode cX5_reckonBank 58 = .ok (.iload_n 2, 1) := by decide +kernel
theorem dX5_reckonBank_59 : decode cX5_reckonBank 59 = .ok (.aaload, 1) := by decide +kernel
theorem dX5_reckonBank_60 : decode cX5_reckonBank 60 = .ok (.iconst 2, 1) := by decide +kernel
theorem dX5_reckonBank_61 : decode cX5_reckonBank 61 = .ok (.iaload, 1) := by decide +kernel
theorem dX5_reckonBank_62 : decode cX5_reckonBank 62 = .ok (.i2l, 1) := by decide +kernel
theorem dX5_reckonBank_63 : decode cX5_reckonBank 63 = .ok (.aload_n 3, 1) := by decide +kernel
theorem dX5_reckonBank_64 : decode cX5_reckonBank 64 = .ok (.iload 5, 2) := by decide +kernel
theorem dX5_reckonBank_66 : decode cX5_reckonBank 66 = .ok (.iaload, 1) := by decide +kernel
theorem dX5_reckonBank_67 : decode cX5_reckonBank 67 = .ok (.i2l, 1) := by decide +kernel
theorem dX5_reckonBank_68 : decode cX5_reckonBank 68 = .ok (.lmul, 1) := by decide +kernel
theorem dX5_reckonBank_69 : decode cX5_reckonBank 69 = .ok (.ladd, 1) := by decide +kernel
theorem dX5_reckonBank_70 : decode cX5_reckonBank 70 = .ok (.lastore, 1) := by decide +kernel
theorem dX5_reckonBank_71 : decode cX5_reckonBank 71 = .ok (.aload_n 3, 1) := by decide +kernel
theorem dX5_reckonBank_72 : decode cX5_reckonBank 72 = .ok (.iload 5, 2) := by decide +kernel
theorem dX5_reckonBank_74 : decode cX5_reckonBank 74 = .ok (.iconst 1, 1) := by decide +kernel
theorem dX5_reckonBank_75 : decode cX5_reckonBank 75 = .ok (.iadd, 1) := by decide +kernel
theorem dX5_reckonBank_76 : decode cX5_reckonBank 76 = .ok (.aload_n 3, 1) := by decide +kernel
theorem dX5_reckonBank_77 : decode cX5_reckonBank 77 = .ok (.iload 5, 2) := by decide +kernel
theorem dX5_reckonBank_79 : decode cX5_reckonBank 79 = .ok (.iaload, 1) := by decide +kernel
theorem dX5_reckonBank_80 : decode cX5_reckonBank 80 = .ok (.sipush 1000, 3) := by decide +kernel
theorem dX5_reckonBank_83 : decode cX5_reckonBank 83 = .ok (.aload_n 0, 1) := by decide +kernel
theorem dX5_reckonBank_84 : decode cX5_reckonBank 84 = .ok (.iload_n 2, 1) := by decide +kernel
theorem dX5_reckonBank_85 : decode cX5_reckonBank 85 = .ok (.iload_n 1, 1) := by decide +kernel
theorem dX5_reckonBank_86 : decode cX5_reckonBank 86 = .ok (.iload 5, 2) := by decide +kernel
theorem dX5_reckonBank_88 : decode cX5_reckonBank 88 = .ok (.invokevirtual 87, 3) := by decide +kernel
theorem dX5_reckonBank_91 : decode cX5_reckonBank 91 = .ok (.isub, 1) := by decide +kernel
theorem dX5_reckonBank_92 : decode cX5_reckonBank 92 = .ok (.imul, 1) := by decide +kernel
theorem dX5_reckonBank_93 : decode cX5_reckonBank 93 = .ok (.sipush 1000, 3) := by decide +kernel
theorem dX5_reckonBank_96 : decode cX5_reckonBank 96 = .ok (.idiv, 1) := by decide +kernel
theorem dX5_reckonBank_97 : decode cX5_reckonBank 97 = .ok (.iastore, 1) := by decide +kernel
theorem dX5_reckonBank_98 : decode cX5_reckonBank 98 = .ok (.iinc 5 1, 3) := by decide +kernel
theorem dX5_reckonBank_101 : decode cX5_reckonBank 101 = .ok (.goto (-65), 3) := by decide +kernel
theorem dX5_reckonBank_104 : decode cX5_reckonBank 104 = .ok (.return_, 1) := by decide +kernel
theorem dX5_reckonArrivals_0 : decode cX5_reckonArrivals 0 = .ok (.aload_n 0, 1) := by decide +kernel
theorem dX5_reckonArrivals_1 : decode cX5_reckonArrivals 1 = .ok (.getfield 46, 3) := by decide +kernel
theorem dX5_reckonArrivals_4 : decode cX5_reckonArrivals 4 = .ok (.iload_n 1, 1) := by decide +kernel
theorem dX5_reckonArrivals_5 : decode cX5_reckonArrivals 5 = .ok (.iconst 4, 1) := by decide +kernel
theorem dX5_reckonArrivals_6 : decode cX5_reckonArrivals 6 = .ok (.imul, 1) := by decide +kernel
theorem dX5_reckonArrivals_7 : decode cX5_reckonArrivals 7 = .ok (.iload_n 2, 1) := by decide +kernel
theorem dX5_reckonArrivals_8 : decode cX5_reckonArrivals 8 = .ok (.iadd, 1) := by decide +kernel
theorem dX5_reckonArrivals_9 : decode cX5_reckonArrivals 9 = .ok (.aaload, 1) := by decide +kernel
theorem dX5_reckonArrivals_10 : decode cX5_reckonArrivals 10 = .ok (.astore_n 3, 1) := by decide +kernel
theorem dX5_reckonArrivals_11 : decode cX5_reckonArrivals 11 = .ok (.iconst 0, 1) := by decide +kernel
theorem dX5_reckonArrivals_12 : decode cX5_reckonArrivals 12 = .ok (.istore 4, 2) := by decide +kernel
theorem dX5_reckonArrivals_14 : decode cX5_reckonArrivals 14 = .ok (.iload 4, 2) := by decide +kernel
theorem dX5_reckonArrivals_16 : decode cX5_reckonArrivals 16 = .ok (.aload_n 0, 1) := by decide +kernel
theorem dX5_reckonArrivals_17 : decode cX5_reckonArrivals 17 = .ok (.getfield 49, 3) := by decide +kernel
theorem dX5_reckonArrivals_20 : decode cX5_reckonArrivals 20 = .ok (.if_icmp .ge 59, 3) := by decide +kernel
theorem dX5_reckonArrivals_23 : decode cX5_reckonArrivals 23 = .ok (.iconst 0, 1) := by decide +kernel
theorem dX5_reckonArrivals_24 : decode cX5_reckonArrivals 24 = .ok (.istore 5, 2) := by decide +kernel
theorem dX5_reckonArrivals_26 : decode cX5_reckonArrivals 26 = .ok (.iload 5, 2) := by decide +kernel
theorem dX5_reckonArrivals_28 : decode cX5_reckonArrivals 28 = .ok (.bipush 24, 2) := by decide +kernel
theorem dX5_reckonArrivals_30 : decode cX5_reckonArrivals 30 = .ok (.if_icmp .ge 43, 3) := by decide +kernel
theorem dX5_reckonArrivals_33 : decode cX5_reckonArrivals 33 = .ok (.aload_n 3, 1) := by decide +kernel
theorem dX5_reckonArrivals_34 : decode cX5_reckonArrivals 34 = .ok (.iload 4, 2) := by decide +kernel
theorem dX5_reckonArrivals_36 : decode cX5_reckonArrivals 36 = .ok (.bipush 24, 2) := by decide +kernel
theorem dX5_reckonArrivals_38 : decode cX5_reckonArrivals 38 = .ok (.imul, 1) := by decide +kernel
theorem dX5_reckonArrivals_39 : decode cX5_reckonArrivals 39 = .ok (.iload 5, 2) := by decide +kernel
theorem dX5_reckonArrivals_41 : decode cX5_reckonArrivals 41 = .ok (.iadd, 1) := by decide +kernel
theorem dX5_reckonArrivals_42 : decode cX5_reckonArrivals 42 = .ok (.aload_n 0, 1) := by decide +kernel
theorem dX5_reckonArrivals_43 : decode cX5_reckonArrivals 43 = .ok (.aload_n 0, 1) := by decide +kernel
theorem dX5_reckonArrivals_44 : decode cX5_reckonArrivals 44 = .ok (.getfield 16, 3) := by decide +kernel
theorem dX5_reckonArrivals_47 : decode cX5_reckonArrivals 47 = .ok (.iload_n 2, 1) := by decide +kernel
theorem dX5_reckonArrivals_48 : decode cX5_reckonArrivals 48 = .ok (.aaload, 1) := by decide +kernel
theorem dX5_reckonArrivals_49 : decode cX5_reckonArrivals 49 = .ok (.iconst 1, 1) := by decide +kernel
theorem dX5_reckonArrivals_50 : decode cX5_reckonArrivals 50 = .ok (.iaload, 1) := by decide +kernel
theorem dX5_reckonArrivals_51 : decode cX5_reckonArrivals 51 = .ok (.aload_n 0, 1) := by decide +kernel
theorem dX5_reckonArrivals_52 : decode cX5_reckonArrivals 52 = .ok (.getfield 22, 3) := by decide +kernel
theorem dX5_reckonArrivals_55 : decode cX5_reckonArrivals 55 = .ok (.iload_n 2, 1) := by decide +kernel
theorem dX5_reckonArrivals_56 : decode cX5_reckonArrivals 56 = .ok (.aaload, 1) := by decide +kernel
theorem dX5_reckonArrivals_57 : decode cX5_reckonArrivals 57 = .ok (.iload 4, 2) := by decide +kernel
theorem dX5_reckonArrivals_59 : decode cX5_reckonArrivals 59 = .ok (.iaload, 1) := by decide +kernel
theorem dX5_reckonArrivals_60 : decode cX5_reckonArrivals 60 = .ok (.iload_n 1, 1) := by decide +kernel
theorem dX5_reckonArrivals_61 : decode cX5_reckonArrivals 61 = .ok (.iload 5, 2) := by decide +kernel
theorem dX5_reckonArrivals_63 : decode cX5_reckonArrivals 63 = .ok (.invokevirtual 91, 3) := by decide +kernel
theorem dX5_reckonArrivals_66 : decode cX5_reckonArrivals 66 = .ok (.iastore, 1) := by decide +kernel
theorem dX5_reckonArrivals_67 : decode cX5_reckonArrivals 67 = .ok (.iinc 5 1, 3) := by decide +kernel
theorem dX5_reckonArrivals_70 : decode cX5_reckonArrivals 70 = .ok (.goto (-44), 3) := by decide +kernel
theorem dX5_reckonArrivals_73 : decode cX5_reckonArrivals 73 = .ok (.iinc 4 1, 3) := by decide +kernel
theorem dX5_reckonArrivals_76 : decode cX5_reckonArrivals 76 = .ok (.goto (-62), 3) := by decide +kernel
theorem dX5_reckonArrivals_79 : decode cX5_reckonArrivals 79 = .ok (.return_, 1) := by decide +kernel
theorem dX5_arrivalAt_0 : decode cX5_arrivalAt 0 = .ok (.iconst 0, 1) := by decide +kernel
theorem dX5_arrivalAt_1 : decode cX5_arrivalAt 1 = .ok (.istore 5, 2) := by decide +kernel
theorem dX5_arrivalAt_3 : decode cX5_arrivalAt 3 = .ok (.iload 4, 2) := by decide +kernel
theorem dX5_arrivalAt_5 : decode cX5_arrivalAt 5 = .ok (.istore 6, 2) := by decide +kernel
theorem dX5_arrivalAt_7 : decode cX5_arrivalAt 7 = .ok (.iload 6, 2) := by decide +kernel
theorem dX5_arrivalAt_9 : decode cX5_arrivalAt 9 = .ok (.bipush 24, 2) := by decide +kernel
theorem dX5_arrivalAt_11 : decode cX5_arrivalAt 11 = .ok (.if_icmp .ge 60, 3) := by decide +kernel
theorem dX5_arrivalAt_14 : decode cX5_arrivalAt 14 = .ok (.aload_n 0, 1) := by decide +kernel
theorem dX5_arrivalAt_15 : decode cX5_arrivalAt 15 = .ok (.getfield 59, 3) := by decide +kernel
theorem dX5_arrivalAt_18 : decode cX5_arrivalAt 18 = .ok (.ifCond .le 20, 3) := by decide +kernel
theorem dX5_arrivalAt_21 : decode cX5_arrivalAt 21 = .ok (.aload_n 0, 1) := by decide +kernel
theorem dX5_arrivalAt_22 : decode cX5_arrivalAt 22 = .ok (.getfield 32, 3) := by decide +kernel
theorem dX5_arrivalAt_25 : decode cX5_arrivalAt 25 = .ok (.iload_n 3, 1) := by decide +kernel
theorem dX5_arrivalAt_26 : decode cX5_arrivalAt 26 = .ok (.aaload, 1) := by decide +kernel
theorem dX5_arrivalAt_27 : decode cX5_arrivalAt 27 = .ok (.iload 6, 2) := by decide +kernel
theorem dX5_arrivalAt_29 : decode cX5_arrivalAt 29 = .ok (.iaload, 1) := by decide +kernel
theorem dX5_arrivalAt_30 : decode cX5_arrivalAt 30 = .ok (.aload_n 0, 1) := by decide +kernel
theorem dX5_arrivalAt_31 : decode cX5_arrivalAt 31 = .ok (.getfield 59, 3) := by decide +kernel
theorem dX5_arrivalAt_34 : decode cX5_arrivalAt 34 = .ok (.idiv, 1) := by decide +kernel
theorem dX5_arrivalAt_35 : decode cX5_arrivalAt 35 = .ok (.goto 4, 3) := by decide +kernel
theorem dX5_arrivalAt_38 : decode cX5_arrivalAt 38 = .ok (.iconst 0, 1) := by decide +kernel
theorem dX5_arrivalAt_39 : decode cX5_arrivalAt 39 = .ok (.istore 7, 2) := by decide +kernel
theorem dX5_arrivalAt_41 : decode cX5_arrivalAt 41 = .ok (.iload 5, 2) := by decide +kernel
theorem dX5_arrivalAt_43 : decode cX5_arrivalAt 43 = .ok (.iconst 1, 1) := by decide +kernel
theorem dX5_arrivalAt_44 : decode cX5_arrivalAt 44 = .ok (.iload_n 1, 1) := by decide +kernel
theorem dX5_arrivalAt_45 : decode cX5_arrivalAt 45 = .ok (.iload 7, 2) := by decide +kernel
theorem dX5_arrivalAt_47 : decode cX5_arrivalAt 47 = .ok (.isub, 1) := by decide +kernel
theorem dX5_arrivalAt_48 : decode cX5_arrivalAt 48 = .ok (.invokestatic 95, 3) := by decide +kernel
theorem dX5_arrivalAt_51 : decode cX5_arrivalAt 51 = .ok (.iadd, 1) := by decide +kernel
theorem dX5_arrivalAt_52 : decode cX5_arrivalAt 52 = .ok (.istore 5, 2) := by decide +kernel
theorem dX5_arrivalAt_54 : decode cX5_arrivalAt 54 = .ok (.iload 5, 2) := by decide +kernel
theorem dX5_arrivalAt_56 : decode cX5_arrivalAt 56 = .ok (.iload_n 2, 1) := by decide +kernel
theorem dX5_arrivalAt_57 : decode cX5_arrivalAt 57 = .ok (.if_icmp .lt 8, 3) := by decide +kernel
theorem dX5_arrivalAt_60 : decode cX5_arrivalAt 60 = .ok (.iload 6, 2) := by decide +kernel
theorem dX5_arrivalAt_62 : decode cX5_arrivalAt 62 = .ok (.iconst 1, 1) := by decide +kernel
theorem dX5_arrivalAt_63 : decode cX5_arrivalAt 63 = .ok (.iadd, 1) := by decide +kernel
theorem dX5_arrivalAt_64 : decode cX5_arrivalAt 64 = .ok (.ireturn, 1) := by decide +kernel
theorem dX5_arrivalAt_65 : decode cX5_arrivalAt 65 = .ok (.iinc 6 1, 3) := by decide +kernel
theorem dX5_arrivalAt_68 : decode cX5_arrivalAt 68 = .ok (.goto (-61), 3) := by decide +kernel
theorem dX5_arrivalAt_71 : decode cX5_arrivalAt 71 = .ok (.bipush 24, 2) := by decide +kernel
theorem dX5_arrivalAt_73 : decode cX5_arrivalAt 73 = .ok (.ireturn, 1) := by decide +kernel
theorem dX5_arrival_0 : decode cX5_arrival 0 = .ok (.iload 4, 2) := by decide +kernel
theorem dX5_arrival_2 : decode cX5_arrival 2 = .ok (.bipush 24, 2) := by decide +kernel
theorem dX5_arrival_4 : decode cX5_arrival 4 = .ok (.if_icmp .ge 24, 3) := by decide +kernel
theorem dX5_arrival_7 : decode cX5_arrival 7 = .ok (.aload_n 0, 1) := by decide +kernel
theorem dX5_arrival_8 : decode cX5_arrival 8 = .ok (.getfield 46, 3) := by decide +kernel
theorem dX5_arrival_11 : decode cX5_arrival 11 = .ok (.iload_n 3, 1) := by decide +kernel
theorem dX5_arrival_12 : decode cX5_arrival 12 = .ok (.iconst 4, 1) := by decide +kernel
theorem dX5_arrival_13 : decode cX5_arrival 13 = .ok (.imul, 1) := by decide +kernel
theorem dX5_arrival_14 : decode cX5_arrival 14 = .ok (.iload_n 1, 1) := by decide +kernel
theorem dX5_arrival_15 : decode cX5_arrival 15 = .ok (.iadd, 1) := by decide +kernel
theorem dX5_arrival_16 : decode cX5_arrival 16 = .ok (.aaload, 1) := by decide +kernel
theorem dX5_arrival_17 : decode cX5_arrival 17 = .ok (.iload_n 2, 1) := by decide +kernel
theorem dX5_arrival_18 : decode cX5_arrival 18 = .ok (.bipush 24, 2) := by decide +kernel
theorem dX5_arrival_20 : decode cX5_arrival 20 = .ok (.imul, 1) := by decide +kernel
theorem dX5_arrival_21 : decode cX5_arrival 21 = .ok (.iload 4, 2) := by decide +kernel
theorem dX5_arrival_23 : decode cX5_arrival 23 = .ok (.iadd, 1) := by decide +kernel
theorem dX5_arrival_24 : decode cX5_arrival 24 = .ok (.iaload, 1) := by decide +kernel
theorem dX5_arrival_25 : decode cX5_arrival 25 = .ok (.goto 5, 3) := by decide +kernel
theorem dX5_arrival_28 : decode cX5_arrival 28 = .ok (.bipush 24, 2) := by decide +kernel
theorem dX5_arrival_30 : decode cX5_arrival 30 = .ok (.ireturn, 1) := by decide +kernel
theorem dX5_entryAlone_0 : decode cX5_entryAlone 0 = .ok (.aload_n 0, 1) := by decide +kernel
theorem dX5_entryAlone_1 : decode cX5_entryAlone 1 = .ok (.iload_n 1, 1) := by decide +kernel
theorem dX5_entryAlone_2 : decode cX5_entryAlone 2 = .ok (.iload_n 2, 1) := by decide +kernel
theorem dX5_entryAlone_3 : decode cX5_entryAlone 3 = .ok (.iload_n 3, 1) := by decide +kernel
theorem dX5_entryAlone_4 : decode cX5_entryAlone 4 = .ok (.iload 4, 2) := by decide +kernel
theorem dX5_entryAlone_6 : decode cX5_entryAlone 6 = .ok (.invokevirtual 98, 3) := by decide +kernel
theorem dX5_entryAlone_9 : decode cX5_entryAlone 9 = .ok (.istore 5, 2) := by decide +kernel
theorem dX5_entryAlone_11 : decode cX5_entryAlone 11 = .ok (.iload 5, 2) := by decide +kernel
theorem dX5_entryAlone_13 : decode cX5_entryAlone 13 = .ok (.bipush 24, 2) := by decide +kernel
theorem dX5_entryAlone_15 : decode cX5_entryAlone 15 = .ok (.if_icmp .ge 23, 3) := by decide +kernel
theorem dX5_entryAlone_18 : decode cX5_entryAlone 18 = .ok (.aload_n 0, 1) := by decide +kernel
theorem dX5_entryAlone_19 : decode cX5_entryAlone 19 = .ok (.iload_n 2, 1) := by decide +kernel
theorem dX5_entryAlone_20 : decode cX5_entryAlone 20 = .ok (.iload_n 3, 1) := by decide +kernel
theorem dX5_entryAlone_21 : decode cX5_entryAlone 21 = .ok (.iload 5, 2) := by decide +kernel
theorem dX5_entryAlone_23 : decode cX5_entryAlone 23 = .ok (.invokevirtual 101, 3) := by decide +kernel
theorem dX5_entryAlone_26 : decode cX5_entryAlone 26 = .ok (.ifCond .eq 6, 3) := by decide +kernel
theorem dX5_entryAlone_29 : decode cX5_entryAlone 29 = .ok (.iload 5, 2) := by decide +kernel
theorem dX5_entryAlone_31 : decode cX5_entryAlone 31 = .ok (.ireturn, 1) := by decide +kernel
theorem dX5_entryAlone_32 : decode cX5_entryAlone 32 = .ok (.iinc 5 1, 3) := by decide +kernel
theorem dX5_entryAlone_35 : decode cX5_entryAlone 35 = .ok (.goto (-24), 3) := by decide +kernel
theorem dX5_entryAlone_38 : decode cX5_entryAlone 38 = .ok (.bipush 24, 2) := by decide +kernel
theorem dX5_entryAlone_40 : decode cX5_entryAlone 40 = .ok (.ireturn, 1) := by decide +kernel
theorem dX5_aliveAt_0 : decode cX5_aliveAt 0 = .ok (.aload_n 0, 1) := by decide +kernel
theorem dX5_aliveAt_1 : decode cX5_aliveAt 1 = .ok (.getfield 38, 3) := by decide +kernel
theorem dX5_aliveAt_4 : decode cX5_aliveAt 4 = .ok (.iload_n 1, 1) := by decide +kernel
theorem dX5_aliveAt_5 : decode cX5_aliveAt 5 = .ok (.iconst 4, 1) := by decide +kernel
theorem dX5_aliveAt_6 : decode cX5_aliveAt 6 = .ok (.imul, 1) := by decide +kernel
theorem dX5_aliveAt_7 : decode cX5_aliveAt 7 = .ok (.iload_n 2, 1) := by decide +kernel
theorem dX5_aliveAt_8 : decode cX5_aliveAt 8 = .ok (.iadd, 1) := by decide +kernel
theorem dX5_aliveAt_9 : decode cX5_aliveAt 9 = .ok (.aaload, 1) := by decide +kernel
theorem dX5_aliveAt_10 : decode cX5_aliveAt 10 = .ok (.iload_n 3, 1) := by decide +kernel
theorem dX5_aliveAt_11 : decode cX5_aliveAt 11 = .ok (.iaload, 1) := by decide +kernel
theorem dX5_aliveAt_12 : decode cX5_aliveAt 12 = .ok (.ireturn, 1) := by decide +kernel
theorem dX5_fishedTill_0 : decode cX5_fishedTill 0 = .ok (.aload_n 0, 1) := by decide +kernel
theorem dX5_fishedTill_1 : decode cX5_fishedTill 1 = .ok (.getfield 43, 3) := by decide +kernel
theorem dX5_fishedTill_4 : decode cX5_fishedTill 4 = .ok (.iload_n 1, 1) := by decide +kernel
theorem dX5_fishedTill_5 : decode cX5_fishedTill 5 = .ok (.iconst 4, 1) := by decide +kernel
theorem dX5_fishedTill_6 : decode cX5_fishedTill 6 = .ok (.imul, 1) := by decide +kernel
theorem dX5_fishedTill_7 : decode cX5_fishedTill 7 = .ok (.iload_n 2, 1) := by decide +kernel
theorem dX5_fishedTill_8 : decode cX5_fishedTill 8 = .ok (.iadd, 1) := by decide +kernel
theorem dX5_fishedTill_9 : decode cX5_fishedTill 9 = .ok (.aaload, 1) := by decide +kernel
theorem dX5_fishedTill_10 : decode cX5_fishedTill 10 = .ok (.iload_n 3, 1) := by decide +kernel
theorem dX5_fishedTill_11 : decode cX5_fishedTill 11 = .ok (.laload, 1) := by decide +kernel
theorem dX5_fishedTill_12 : decode cX5_fishedTill 12 = .ok (.lreturn, 1) := by decide +kernel
theorem dX5_isOpen_0 : decode cX5_isOpen 0 = .ok (.aload_n 0, 1) := by decide +kernel
theorem dX5_isOpen_1 : decode cX5_isOpen 1 = .ok (.getfield 35, 3) := by decide +kernel
theorem dX5_isOpen_4 : decode cX5_isOpen 4 = .ok (.iload_n 1, 1) := by decide +kernel
theorem dX5_isOpen_5 : decode cX5_isOpen 5 = .ok (.aaload, 1) := by decide +kernel
theorem dX5_isOpen_6 : decode cX5_isOpen 6 = .ok (.iload_n 2, 1) := by decide +kernel
theorem dX5_isOpen_7 : decode cX5_isOpen 7 = .ok (.iaload, 1) := by decide +kernel
theorem dX5_isOpen_8 : decode cX5_isOpen 8 = .ok (.iload_n 3, 1) := by decide +kernel
theorem dX5_isOpen_9 : decode cX5_isOpen 9 = .ok (.ishr, 1) := by decide +kernel
theorem dX5_isOpen_10 : decode cX5_isOpen 10 = .ok (.iconst 1, 1) := by decide +kernel
theorem dX5_isOpen_11 : decode cX5_isOpen 11 = .ok (.iand, 1) := by decide +kernel
theorem dX5_isOpen_12 : decode cX5_isOpen 12 = .ok (.ifCond .eq 7, 3) := by decide +kernel
theorem dX5_isOpen_15 : decode cX5_isOpen 15 = .ok (.iconst 1, 1) := by decide +kernel
theorem dX5_isOpen_16 : decode cX5_isOpen 16 = .ok (.goto 4, 3) := by decide +kernel
theorem dX5_isOpen_19 : decode cX5_isOpen 19 = .ok (.iconst 0, 1) := by decide +kernel
theorem dX5_isOpen_20 : decode cX5_isOpen 20 = .ok (.ireturn, 1) := by decide +kernel
theorem dX5_riskOf_0 : decode cX5_riskOf 0 = .ok (.sipush 999, 3) := by decide +kernel
theorem dX5_riskOf_3 : decode cX5_riskOf 3 = .ok (.aload_n 0, 1) := by decide +kernel
theorem dX5_riskOf_4 : decode cX5_riskOf 4 = .ok (.getfield 28, 3) := by decide +kernel
theorem dX5_riskOf_7 : decode cX5_riskOf 7 = .ok (.aload_n 0, 1) := by decide +kernel
theorem dX5_riskOf_8 : decode cX5_riskOf 8 = .ok (.getfield 32, 3) := by decide +kernel
theorem dX5_riskOf_11 : decode cX5_riskOf 11 = .ok (.iload_n 2, 1) := by decide +kernel
theorem dX5_riskOf_12 : decode cX5_riskOf 12 = .ok (.aaload, 1) := by decide +kernel
theorem dX5_riskOf_13 : decode cX5_riskOf 13 = .ok (.iload_n 3, 1) := by decide +kernel
theorem dX5_riskOf_14 : decode cX5_riskOf 14 = .ok (.iaload, 1) := by decide +kernel
theorem dX5_riskOf_15 : decode cX5_riskOf 15 = .ok (.iaload, 1) := by decide +kernel
theorem dX5_riskOf_16 : decode cX5_riskOf 16 = .ok (.aload_n 0, 1) := by decide +kernel
theorem dX5_riskOf_17 : decode cX5_riskOf 17 = .ok (.getfield 16, 3) := by decide +kernel
theorem dX5_riskOf_20 : decode cX5_riskOf 20 = .ok (.iload_n 1, 1) := by decide +kernel
theorem dX5_riskOf_21 : decode cX5_riskOf 21 = .ok (.aaload, 1) := by decide +kernel
theorem dX5_riskOf_22 : decode cX5_riskOf 22 = .ok (.iconst 4, 1) := by decide +kernel
theorem dX5_riskOf_23 : decode cX5_riskOf 23 = .ok (.iaload, 1) := by decide +kernel
theorem dX5_riskOf_24 : decode cX5_riskOf 24 = .ok (.imul, 1) := by decide +kernel
theorem dX5_riskOf_25 : decode cX5_riskOf 25 = .ok (.invokestatic 81, 3) := by decide +kernel
theorem dX5_riskOf_28 : decode cX5_riskOf 28 = .ok (.ireturn, 1) := by decide +kernel
theorem dX5_nearest_0 : decode cX5_nearest 0 = .ok (.iconst 0, 1) := by decide +kernel
theorem dX5_nearest_1 : decode cX5_nearest 1 = .ok (.istore_n 2, 1) := by decide +kernel
theorem dX5_nearest_2 : decode cX5_nearest 2 = .ok (.iconst 1, 1) := by decide +kernel
theorem dX5_nearest_3 : decode cX5_nearest 3 = .ok (.istore_n 3, 1) := by decide +kernel
theorem dX5_nearest_4 : decode cX5_nearest 4 = .ok (.iload_n 3, 1) := by decide +kernel
theorem dX5_nearest_5 : decode cX5_nearest 5 = .ok (.aload_n 0, 1) := by decide +kernel
theorem dX5_nearest_6 : decode cX5_nearest 6 = .ok (.getfield 49, 3) := by decide +kernel
theorem dX5_nearest_9 : decode cX5_nearest 9 = .ok (.if_icmp .ge 30, 3) := by decide +kernel
theorem dX5_nearest_12 : decode cX5_nearest 12 = .ok (.aload_n 0, 1) := by decide +kernel
theorem dX5_nearest_13 : decode cX5_nearest 13 = .ok (.getfield 22, 3) := by decide +kernel
theorem dX5_nearest_16 : decode cX5_nearest 16 = .ok (.iload_n 1, 1) := by decide +kernel
theorem dX5_nearest_17 : decode cX5_nearest 17 = .ok (.aaload, 1) := by decide +kernel
theorem dX5_nearest_18 : decode cX5_nearest 18 = .ok (.iload_n 3, 1) := by decide +kernel
theorem dX5_nearest_19 : decode cX5_nearest 19 = .ok (.iaload, 1) := by decide +kernel
theorem dX5_nearest_20 : decode cX5_nearest 20 = .ok (.aload_n 0, 1) := by decide +kernel
theorem dX5_nearest_21 : decode cX5_nearest 21 = .ok (.getfield 22, 3) := by decide +kernel
theorem dX5_nearest_24 : decode cX5_nearest 24 = .ok (.iload_n 1, 1) := by decide +kernel
theorem dX5_nearest_25 : decode cX5_nearest 25 = .ok (.aaload, 1) := by decide +kernel
theorem dX5_nearest_26 : decode cX5_nearest 26 = .ok (.iload_n 2, 1) := by decide +kernel
theorem dX5_nearest_27 : decode cX5_nearest 27 = .ok (.iaload, 1) := by decide +kernel
theorem dX5_nearest_28 : decode cX5_nearest 28 = .ok (.if_icmp .ge 5, 3) := by decide +kernel
theorem dX5_nearest_31 : decode cX5_nearest 31 = .ok (.iload_n 3, 1) := by decide +kernel
theorem dX5_nearest_32 : decode cX5_nearest 32 = .ok (.istore_n 2, 1) := by decide +kernel
theorem dX5_nearest_33 : decode cX5_nearest 33 = .ok (.iinc 3 1, 3) := by decide +kernel
theorem dX5_nearest_36 : decode cX5_nearest 36 = .ok (.goto (-32), 3) := by decide +kernel
theorem dX5_nearest_39 : decode cX5_nearest 39 = .ok (.iload_n 2, 1) := by decide +kernel
theorem dX5_nearest_40 : decode cX5_nearest 40 = .ok (.ireturn, 1) := by decide +kernel
theorem dX5_leastSpeed_0 : decode cX5_leastSpeed 0 = .ok (.bipush 9, 2) := by decide +kernel
theorem dX5_leastSpeed_2 : decode cX5_leastSpeed 2 = .ok (.istore_n 2, 1) := by decide +kernel
theorem dX5_leastSpeed_3 : decode cX5_leastSpeed 3 = .ok (.iconst 0, 1) := by decide +kernel
theorem dX5_leastSpeed_4 : decode cX5_leastSpeed 4 = .ok (.istore_n 3, 1) := by decide +kernel
theorem dX5_leastSpeed_5 : decode cX5_leastSpeed 5 = .ok (.iload_n 3, 1) := by decide +kernel
theorem dX5_leastSpeed_6 : decode cX5_leastSpeed 6 = .ok (.aload_n 0, 1) := by decide +kernel
theorem dX5_leastSpeed_7 : decode cX5_leastSpeed 7 = .ok (.getfield 53, 3) := by decide +kernel
theorem dX5_leastSpeed_10 : decode cX5_leastSpeed 10 = .ok (.if_icmp .ge 30, 3) := by decide +kernel
theorem dX5_leastSpeed_13 : decode cX5_leastSpeed 13 = .ok (.iload_n 1, 1) := by decide +kernel
theorem dX5_leastSpeed_14 : decode cX5_leastSpeed 14 = .ok (.iload_n 3, 1) := by decide +kernel
theorem dX5_leastSpeed_15 : decode cX5_leastSpeed 15 = .ok (.ishr, 1) := by decide +kernel
theorem dX5_leastSpeed_16 : decode cX5_leastSpeed 16 = .ok (.iconst 1, 1) := by decide +kernel
theorem dX5_leastSpeed_17 : decode cX5_leastSpeed 17 = .ok (.iand, 1) := by decide +kernel
theorem dX5_leastSpeed_18 : decode cX5_leastSpeed 18 = .ok (.ifCond .eq 16, 3) := by decide +kernel
theorem dX5_leastSpeed_21 : decode cX5_leastSpeed 21 = .ok (.iload_n 2, 1) := by decide +kernel
theorem dX5_leastSpeed_22 : decode cX5_leastSpeed 22 = .ok (.aload_n 0, 1) := by decide +kernel
theorem dX5_leastSpeed_23 : decode cX5_leastSpeed 23 = .ok (.getfield 16, 3) := by decide +kernel
theorem dX5_leastSpeed_26 : decode cX5_leastSpeed 26 = .ok (.iload_n 3, 1) := by decide +kernel
theorem dX5_leastSpeed_27 : decode cX5_leastSpeed 27 = .ok (.aaload, 1) := by decide +kernel
theorem dX5_leastSpeed_28 : decode cX5_leastSpeed 28 = .ok (.iconst 1, 1) := by decide +kernel
theorem dX5_leastSpeed_29 : decode cX5_leastSpeed 29 = .ok (.iaload, 1) := by decide +kernel
theorem dX5_leastSpeed_30 : decode cX5_leastSpeed 30 = .ok (.invokestatic 81, 3) := by decide +kernel
theorem dX5_leastSpeed_33 : decode cX5_leastSpeed 33 = .ok (.istore_n 2, 1) := by decide +kernel
theorem dX5_leastSpeed_34 : decode cX5_leastSpeed 34 = .ok (.iinc 3 1, 3) := by decide +kernel
theorem dX5_leastSpeed_37 : decode cX5_leastSpeed 37 = .ok (.goto (-32), 3) := by decide +kernel
theorem dX5_leastSpeed_40 : decode cX5_leastSpeed 40 = .ok (.iload_n 2, 1) := by decide +kernel
theorem dX5_leastSpeed_41 : decode cX5_leastSpeed 41 = .ok (.ireturn, 1) := by decide +kernel
theorem dX5_allBoats_0 : decode cX5_allBoats 0 = .ok (.iconst 0, 1) := by decide +kernel
theorem dX5_allBoats_1 : decode cX5_allBoats 1 = .ok (.istore_n 1, 1) := by decide +kernel
theorem dX5_allBoats_2 : decode cX5_allBoats 2 = .ok (.iconst 0, 1) := by decide +kernel
theorem dX5_allBoats_3 : decode cX5_allBoats 3 = .ok (.istore_n 2, 1) := by decide +kernel
theorem dX5_allBoats_4 : decode cX5_allBoats 4 = .ok (.iload_n 2, 1) := by decide +kernel
theorem dX5_allBoats_5 : decode cX5_allBoats 5 = .ok (.aload_n 0, 1) := by decide +kernel
theorem dX5_allBoats_6 : decode cX5_allBoats 6 = .ok (.getfield 53, 3) := by decide +kernel
theorem dX5_allBoats_9 : decode cX5_allBoats 9 = .ok (.if_icmp .ge 20, 3) := by decide +kernel
theorem dX5_allBoats_12 : decode cX5_allBoats 12 = .ok (.iload_n 1, 1) := by decide +kernel
theorem dX5_allBoats_13 : decode cX5_allBoats 13 = .ok (.aload_n 0, 1) := by decide +kernel
theorem dX5_allBoats_14 : decode cX5_allBoats 14 = .ok (.getfield 16, 3) := by decide +kernel
theorem dX5_allBoats_17 : decode cX5_allBoats 17 = .ok (.iload_n 2, 1) := by decide +kernel
theorem dX5_allBoats_18 : decode cX5_allBoats 18 = .ok (.aaload, 1) := by decide +kernel
theorem dX5_allBoats_19 : decode cX5_allBoats 19 = .ok (.iconst 0, 1) := by decide +kernel
theorem dX5_allBoats_20 : decode cX5_allBoats 20 = .ok (.iaload, 1) := by decide +kernel
theorem dX5_allBoats_21 : decode cX5_allBoats 21 = .ok (.iadd, 1) := by decide +kernel
theorem dX5_allBoats_22 : decode cX5_allBoats 22 = .ok (.istore_n 1, 1) := by decide +kernel
theorem dX5_allBoats_23 : decode cX5_allBoats 23 = .ok (.iinc 2 1, 3) := by decide +kernel
theorem dX5_allBoats_26 : decode cX5_allBoats 26 = .ok (.goto (-22), 3) := by decide +kernel
theorem dX5_allBoats_29 : decode cX5_allBoats 29 = .ok (.iload_n 1, 1) := by decide +kernel
theorem dX5_allBoats_30 : decode cX5_allBoats 30 = .ok (.ireturn, 1) := by decide +kernel
theorem dX5_allSorts_0 : decode cX5_allSorts 0 = .ok (.iconst 1, 1) := by decide +kernel
theorem dX5_allSorts_1 : decode cX5_allSorts 1 = .ok (.aload_n 0, 1) := by decide +kernel
theorem dX5_allSorts_2 : decode cX5_allSorts 2 = .ok (.getfield 53, 3) := by decide +kernel
theorem dX5_allSorts_5 : decode cX5_allSorts 5 = .ok (.ishl, 1) := by decide +kernel
theorem dX5_allSorts_6 : decode cX5_allSorts 6 = .ok (.iconst 1, 1) := by decide +kernel
theorem dX5_allSorts_7 : decode cX5_allSorts 7 = .ok (.isub, 1) := by decide +kernel
theorem dX5_allSorts_8 : decode cX5_allSorts 8 = .ok (.ireturn, 1) := by decide +kernel
theorem dX5_allStorms_0 : decode cX5_allStorms 0 = .ok (.iconst 1, 1) := by decide +kernel
theorem dX5_allStorms_1 : decode cX5_allStorms 1 = .ok (.aload_n 0, 1) := by decide +kernel
theorem dX5_allStorms_2 : decode cX5_allStorms 2 = .ok (.getfield 56, 3) := by decide +kernel
theorem dX5_allStorms_5 : decode cX5_allStorms 5 = .ok (.ishl, 1) := by decide +kernel
theorem dX5_allStorms_6 : decode cX5_allStorms 6 = .ok (.iconst 1, 1) := by decide +kernel
theorem dX5_allStorms_7 : decode cX5_allStorms 7 = .ok (.isub, 1) := by decide +kernel
theorem dX5_allStorms_8 : decode cX5_allStorms 8 = .ok (.ireturn, 1) := by decide +kernel
theorem dX5_telling_0 : decode cX5_telling 0 = .ok (.iconst 0, 1) := by decide +kernel
theorem dX5_telling_1 : decode cX5_telling 1 = .ok (.istore 4, 2) := by decide +kernel
theorem dX5_telling_3 : decode cX5_telling 3 = .ok (.iconst 0, 1) := by decide +kernel
theorem dX5_telling_4 : decode cX5_telling 4 = .ok (.istore 5, 2) := by decide +kernel
theorem dX5_telling_6 : decode cX5_telling 6 = .ok (.iload 5, 2) := by decide +kernel
theorem dX5_telling_8 : decode cX5_telling 8 = .ok (.aload_n 0, 1) := by decide +kernel
theorem dX5_telling_9 : decode cX5_telling 9 = .ok (.getfield 56, 3) := by decide +kernel
theorem dX5_telling_12 : decode cX5_telling 12 = .ok (.if_icmp .ge 40, 3) := by decide +kernel
theorem dX5_telling_15 : decode cX5_telling 15 = .ok (.iload_n 1, 1) := by decide +kernel
theorem dX5_telling_16 : decode cX5_telling 16 = .ok (.iload 5, 2) := by decide +kernel
theorem dX5_telling_18 : decode cX5_telling 18 = .ok (.ishr, 1) := by decide +kernel
theorem dX5_telling_19 : decode cX5_telling 19 = .ok (.iconst 1, 1) := by decide +kernel
theorem dX5_telling_20 : decode cX5_telling 20 = .ok (.iand, 1) := by decide +kernel
theorem dX5_telling_21 : decode cX5_telling 21 = .ok (.ifCond .eq 25, 3) := by decide +kernel
theorem dX5_telling_24 : decode cX5_telling 24 = .ok (.aload_n 0, 1) := by decide +kernel
theorem dX5_telling_25 : decode cX5_telling 25 = .ok (.getfield 25, 3) := by decide +kernel
theorem dX5_telling_28 : decode cX5_telling 28 = .ok (.iload 5, 2) := by decide +kernel
theorem dX5_telling_30 : decode cX5_telling 30 = .ok (.aaload, 1) := by decide +kernel
theorem dX5_telling_31 : decode cX5_telling 31 = .ok (.iload_n 2, 1) := by decide +kernel
theorem dX5_telling_32 : decode cX5_telling 32 = .ok (.iaload, 1) := by decide +kernel
theorem dX5_telling_33 : decode cX5_telling 33 = .ok (.iload_n 3, 1) := by decide +kernel
theorem dX5_telling_34 : decode cX5_telling 34 = .ok (.if_icmp .ne 12, 3) := by decide +kernel
theorem dX5_telling_37 : decode cX5_telling 37 = .ok (.iload 4, 2) := by decide +kernel
theorem dX5_telling_39 : decode cX5_telling 39 = .ok (.iconst 1, 1) := by decide +kernel
theorem dX5_telling_40 : decode cX5_telling 40 = .ok (.iload 5, 2) := by decide +kernel
theorem dX5_telling_42 : decode cX5_telling 42 = .ok (.ishl, 1) := by decide +kernel
theorem dX5_telling_43 : decode cX5_telling 43 = .ok (.ior, 1) := by decide +kernel
theorem dX5_telling_44 : decode cX5_telling 44 = .ok (.istore 4, 2) := by decide +kernel
theorem dX5_telling_46 : decode cX5_telling 46 = .ok (.iinc 5 1, 3) := by decide +kernel
theorem dX5_telling_49 : decode cX5_telling 49 = .ok (.goto (-43), 3) := by decide +kernel
theorem dX5_telling_52 : decode cX5_telling 52 = .ok (.iload 4, 2) := by decide +kernel
theorem dX5_telling_54 : decode cX5_telling 54 = .ok (.ireturn, 1) := by decide +kernel
theorem dX5_drawnBy_0 : decode cX5_drawnBy 0 = .ok (.ldc2_w 105, 3) := by decide +kernel
theorem dX5_drawnBy_3 : decode cX5_drawnBy 3 = .ok (.iload_n 1, 1) := by decide +kernel
theorem dX5_drawnBy_4 : decode cX5_drawnBy 4 = .ok (.i2l, 1) := by decide +kernel
theorem dX5_drawnBy_5 : decode cX5_drawnBy 5 = .ok (.lmul, 1) := by decide +kernel
theorem dX5_drawnBy_6 : decode cX5_drawnBy 6 = .ok (.lconst 1, 1) := by decide +kernel
theorem dX5_drawnBy_7 : decode cX5_drawnBy 7 = .ok (.ladd, 1) := by decide +kernel
theorem dX5_drawnBy_8 : decode cX5_drawnBy 8 = .ok (.lstore_n 2, 1) := by decide +kernel
theorem dX5_drawnBy_9 : decode cX5_drawnBy 9 = .ok (.lload_n 2, 1) := by decide +kernel
theorem dX5_drawnBy_10 : decode cX5_drawnBy 10 = .ok (.lload_n 2, 1) := by decide +kernel
theorem dX5_drawnBy_11 : decode cX5_drawnBy 11 = .ok (.lmul, 1) := by decide +kernel
theorem dX5_drawnBy_12 : decode cX5_drawnBy 12 = .ok (.ldc2_w 107, 3) := by decide +kernel
theorem dX5_drawnBy_15 : decode cX5_drawnBy 15 = .ok (.lrem, 1) := by decide +kernel
theorem dX5_drawnBy_16 : decode cX5_drawnBy 16 = .ok (.ldc2_w 109, 3) := by decide +kernel
theorem dX5_drawnBy_19 : decode cX5_drawnBy 19 = .ok (.lrem, 1) := by decide +kernel
theorem dX5_drawnBy_20 : decode cX5_drawnBy 20 = .ok (.lstore 4, 2) := by decide +kernel
theorem dX5_drawnBy_22 : decode cX5_drawnBy 22 = .ok (.iconst 0, 1) := by decide +kernel
theorem dX5_drawnBy_23 : decode cX5_drawnBy 23 = .ok (.istore 6, 2) := by decide +kernel
theorem dX5_drawnBy_25 : decode cX5_drawnBy 25 = .ok (.iconst 0, 1) := by decide +kernel
theorem dX5_drawnBy_26 : decode cX5_drawnBy 26 = .ok (.istore 7, 2) := by decide +kernel
theorem dX5_drawnBy_28 : decode cX5_drawnBy 28 = .ok (.iload 7, 2) := by decide +kernel
theorem dX5_drawnBy_30 : decode cX5_drawnBy 30 = .ok (.aload_n 0, 1) := by decide +kernel
theorem dX5_drawnBy_31 : decode cX5_drawnBy 31 = .ok (.getfield 56, 3) := by decide +kernel
theorem dX5_drawnBy_34 : decode cX5_drawnBy 34 = .ok (.if_icmp .ge 35, 3) := by decide +kernel
theorem dX5_drawnBy_37 : decode cX5_drawnBy 37 = .ok (.iload 6, 2) := by decide +kernel
theorem dX5_drawnBy_39 : decode cX5_drawnBy 39 = .ok (.aload_n 0, 1) := by decide +kernel
theorem dX5_drawnBy_40 : decode cX5_drawnBy 40 = .ok (.getfield 19, 3) := by decide +kernel
theorem dX5_drawnBy_43 : decode cX5_drawnBy 43 = .ok (.iload 7, 2) := by decide +kernel
theorem dX5_drawnBy_45 : decode cX5_drawnBy 45 = .ok (.aaload, 1) := by decide +kernel
theorem dX5_drawnBy_46 : decode cX5_drawnBy 46 = .ok (.iconst 0, 1) := by decide +kernel
theorem dX5_drawnBy_47 : decode cX5_drawnBy 47 = .ok (.iaload, 1) := by decide +kernel
theorem dX5_drawnBy_48 : decode cX5_drawnBy 48 = .ok (.iadd, 1) := by decide +kernel
theorem dX5_drawnBy_49 : decode cX5_drawnBy 49 = .ok (.istore 6, 2) := by decide +kernel
theorem dX5_drawnBy_51 : decode cX5_drawnBy 51 = .ok (.lload 4, 2) := by decide +kernel
theorem dX5_drawnBy_53 : decode cX5_drawnBy 53 = .ok (.iload 6, 2) := by decide +kernel
theorem dX5_drawnBy_55 : decode cX5_drawnBy 55 = .ok (.i2l, 1) := by decide +kernel
theorem dX5_drawnBy_56 : decode cX5_drawnBy 56 = .ok (.lcmp, 1) := by decide +kernel
theorem dX5_drawnBy_57 : decode cX5_drawnBy 57 = .ok (.ifCond .ge 6, 3) := by decide +kernel
theorem dX5_drawnBy_60 : decode cX5_drawnBy 60 = .ok (.iload 7, 2) := by decide +kernel
theorem dX5_drawnBy_62 : decode cX5_drawnBy 62 = .ok (.ireturn, 1) := by decide +kernel
theorem dX5_drawnBy_63 : decode cX5_drawnBy 63 = .ok (.iinc 7 1, 3) := by decide +kernel
theorem dX5_drawnBy_66 : decode cX5_drawnBy 66 = .ok (.goto (-38), 3) := by decide +kernel
theorem dX5_drawnBy_69 : decode cX5_drawnBy 69 = .ok (.iconst 0, 1) := by decide +kernel
theorem dX5_drawnBy_70 : decode cX5_drawnBy 70 = .ok (.ireturn, 1) := by decide +kernel
theorem dX5_isHarbour_0 : decode cX5_isHarbour 0 = .ok (.iload_n 1, 1) := by decide +kernel
theorem dX5_isHarbour_1 : decode cX5_isHarbour 1 = .ok (.ifCond .lt 15, 3) := by decide +kernel
theorem dX5_isHarbour_4 : decode cX5_isHarbour 4 = .ok (.iload_n 1, 1) := by decide +kernel
theorem dX5_isHarbour_5 : decode cX5_isHarbour 5 = .ok (.aload_n 0, 1) := by decide +kernel
theorem dX5_isHarbour_6 : decode cX5_isHarbour 6 = .ok (.getfield 49, 3) := by decide +kernel
theorem dX5_isHarbour_9 : decode cX5_isHarbour 9 = .ok (.if_icmp .ge 7, 3) := by decide +kernel
theorem dX5_isHarbour_12 : decode cX5_isHarbour 12 = .ok (.iconst 1, 1) := by decide +kernel
theorem dX5_isHarbour_13 : decode cX5_isHarbour 13 = .ok (.goto 4, 3) := by decide +kernel
theorem dX5_isHarbour_16 : decode cX5_isHarbour 16 = .ok (.iconst 0, 1) := by decide +kernel
theorem dX5_isHarbour_17 : decode cX5_isHarbour 17 = .ok (.ireturn, 1) := by decide +kernel
theorem dX5_isSort_0 : decode cX5_isSort 0 = .ok (.iload_n 1, 1) := by decide +kernel
theorem dX5_isSort_1 : decode cX5_isSort 1 = .ok (.ifCond .lt 15, 3) := by decide +kernel
theorem dX5_isSort_4 : decode cX5_isSort 4 = .ok (.iload_n 1, 1) := by decide +kernel
theorem dX5_isSort_5 : decode cX5_isSort 5 = .ok (.aload_n 0, 1) := by decide +kernel
theorem dX5_isSort_6 : decode cX5_isSort 6 = .ok (.getfield 53, 3) := by decide +kernel
theorem dX5_isSort_9 : decode cX5_isSort 9 = .ok (.if_icmp .ge 7, 3) := by decide +kernel
theorem dX5_isSort_12 : decode cX5_isSort 12 = .ok (.iconst 1, 1) := by decide +kernel
theorem dX5_isSort_13 : decode cX5_isSort 13 = .ok (.goto 4, 3) := by decide +kernel
theorem dX5_isSort_16 : decode cX5_isSort 16 = .ok (.iconst 0, 1) := by decide +kernel
theorem dX5_isSort_17 : decode cX5_isSort 17 = .ok (.ireturn, 1) := by decide +kernel
theorem dX5_isStorm_0 : decode cX5_isStorm 0 = .ok (.iload_n 1, 1) := by decide +kernel
theorem dX5_isStorm_1 : decode cX5_isStorm 1 = .ok (.ifCond .lt 15, 3) := by decide +kernel
theorem dX5_isStorm_4 : decode cX5_isStorm 4 = .ok (.iload_n 1, 1) := by decide +kernel
theorem dX5_isStorm_5 : decode cX5_isStorm 5 = .ok (.aload_n 0, 1) := by decide +kernel
theorem dX5_isStorm_6 : decode cX5_isStorm 6 = .ok (.getfield 56, 3) := by decide +kernel
theorem dX5_isStorm_9 : decode cX5_isStorm 9 = .ok (.if_icmp .ge 7, 3) := by decide +kernel
theorem dX5_isStorm_12 : decode cX5_isStorm 12 = .ok (.iconst 1, 1) := by decide +kernel
theorem dX5_isStorm_13 : decode cX5_isStorm 13 = .ok (.goto 4, 3) := by decide +kernel
theorem dX5_isStorm_16 : decode cX5_isStorm 16 = .ok (.iconst 0, 1) := by decide +kernel
theorem dX5_isStorm_17 : decode cX5_isStorm 17 = .ok (.ireturn, 1) := by decide +kernel
theorem dX6_init_0 : decode cX6_init 0 = .ok (.aload_n 0, 1) := by decide +kernel
theorem dX6_init_1 : decode cX6_init 1 = .ok (.invokespecial 3, 3) := by decide +kernel
theorem dX6_init_4 : decode cX6_init 4 = .ok (.aload_n 0, 1) := by decide +kernel
theorem dX6_init_5 : decode cX6_init 5 = .ok (.sipush 500, 3) := by decide +kernel
theorem dX6_init_8 : decode cX6_init 8 = .ok (.newarray .byte, 2) := by decide +kernel
theorem dX6_init_10 : decode cX6_init 10 = .ok (.putfield 9, 3) := by decide +kernel
theorem dX6_init_13 : decode cX6_init 13 = .ok (.aload_n 0, 1) := by decide +kernel
theorem dX6_init_14 : decode cX6_init 14 = .ok (.bipush 6, 2) := by decide +kernel
theorem dX6_init_16 : decode cX6_init 16 = .ok (.newarray .int, 2) := by decide +kernel
theorem dX6_init_18 : decode cX6_init 18 = .ok (.putfield 15, 3) := by decide +kernel
theorem dX6_init_21 : decode cX6_init 21 = .ok (.return_, 1) := by decide +kernel
theorem dX6_append_0 : decode cX6_append 0 = .ok (.aload_n 0, 1) := by decide +kernel
theorem dX6_append_1 : decode cX6_append 1 = .ok (.getfield 19, 3) := by decide +kernel
theorem dX6_append_4 : decode cX6_append 4 = .ok (.sipush 500, 3) := by decide +kernel
theorem dX6_append_7 : decode cX6_append 7 = .ok (.if_icmp .ge 23, 3) := by decide +kernel
theorem dX6_append_10 : decode cX6_append 10 = .ok (.aload_n 0, 1) := by decide +kernel
theorem dX6_append_11 : decode cX6_append 11 = .ok (.getfield 9, 3) := by decide +kernel
theorem dX6_append_14 : decode cX6_append 14 = .ok (.aload_n 0, 1) := by decide +kernel
theorem dX6_append_15 : decode cX6_append 15 = .ok (.getfield 19, 3) := by decide +kernel
theorem dX6_append_18 : decode cX6_append 18 = .ok (.iload_n 1, 1) := by decide +kernel
theorem dX6_append_19 : decode cX6_append 19 = .ok (.bastore, 1) := by decide +kernel
theorem dX6_append_20 : decode cX6_append 20 = .ok (.aload_n 0, 1) := by decide +kernel
theorem dX6_append_21 : decode cX6_append 21 = .ok (.dup, 1) := by decide +kernel
theorem dX6_append_22 : decode cX6_append 22 = .ok (.getfield 19, 3) := by decide +kernel
theorem dX6_append_25 : decode cX6_append 25 = .ok (.iconst 1, 1) := by decide +kernel
theorem dX6_append_26 : decode cX6_append 26 = .ok (.iadd, 1) := by decide +kernel
theorem dX6_append_27 : decode cX6_append 27 = .ok (.putfield 19, 3) := by decide +kernel
theorem dX6_append_30 : decode cX6_append 30 = .ok (.return_, 1) := by decide +kernel
theorem dX6_clear_0 : decode cX6_clear 0 = .ok (.aload_n 0, 1) := by decide +kernel
theorem dX6_clear_1 : decode cX6_clear 1 = .ok (.iconst 0, 1) := by decide +kernel
theorem dX6_clear_2 : decode cX6_clear 2 = .ok (.putfield 19, 3) := by decide +kernel
theorem dX6_clear_5 : decode cX6_clear 5 = .ok (.return_, 1) := by decide +kernel
theorem dX6_firstFault_0 : decode cX6_firstFault 0 = .ok (.aload_n 0, 1) := by decide +kernel
theorem dX6_firstFault_1 : decode cX6_firstFault 1 = .ok (.invokevirtual 23, 3) := by decide +kernel
theorem dX6_firstFault_4 : decode cX6_firstFault 4 = .ok (.iconst 0, 1) := by decide +kernel
theorem dX6_firstFault_5 : decode cX6_firstFault 5 = .ok (.istore_n 1, 1) := by decide +kernel
theorem dX6_firstFault_6 : decode cX6_firstFault 6 = .ok (.iload_n 1, 1) := by decide +kernel
theorem dX6_firstFault_7 : decode cX6_firstFault 7 = .ok (.sipush 500, 3) := by decide +kernel
theorem dX6_firstFault_10 : decode cX6_firstFault 10 = .ok (.if_icmp .ge 45, 3) := by decide +kernel
theorem dX6_firstFault_13 : decode cX6_firstFault 13 = .ok (.aload_n 0, 1) := by decide +kernel
theorem dX6_firstFault_14 : decode cX6_firstFault 14 = .ok (.getfield 26, 3) := by decide +kernel
theorem dX6_firstFault_17 : decode cX6_firstFault 17 = .ok (.aload_n 0, 1) := by decide +kernel
theorem dX6_firstFault_18 : decode cX6_firstFault 18 = .ok (.getfield 19, 3) := by decide +kernel
theorem dX6_firstFault_21 : decode cX6_firstFault 21 = .ok (.if_icmp .ge 34, 3) := by decide +kernel
theorem dX6_firstFault_24 : decode cX6_firstFault 24 = .ok (.aload_n 0, 1) := by decide +kernel
theorem dX6_firstFault_25 : decode cX6_firstFault 25 = .ok (.getfield 26, 3) := by decide +kernel
theorem dX6_firstFault_28 : decode cX6_firstFault 28 = .ok (.istore_n 2, 1) := by decide +kernel
theorem dX6_firstFault_29 : decode cX6_firstFault 29 = .ok (.aload_n 0, 1) := by decide +kernel
theorem dX6_firstFault_30 : decode cX6_firstFault 30 = .ok (.invokevirtual 29, 3) := by decide +kernel
theorem dX6_firstFault_33 : decode cX6_firstFault 33 = .ok (.ifCond .eq 10, 3) := by decide +kernel
theorem dX6_firstFault_36 : decode cX6_firstFault 36 = .ok (.aload_n 0, 1) := by decide +kernel
theorem dX6_firstFault_37 : decode cX6_firstFault 37 = .ok (.invokevirtual 33, 3) := by decide +kernel
theorem dX6_firstFault_40 : decode cX6_firstFault 40 = .ok (.ifCond .ne 5, 3) := by decide +kernel
theorem dX6_firstFault_43 : decode cX6_firstFault 43 = .ok (.iload_n 2, 1) := by decide +kernel
theorem dX6_firstFault_44 : decode cX6_firstFault 44 = .ok (.ireturn, 1) := by decide +kernel
theorem dX6_firstFault_45 : decode cX6_firstFault 45 = .ok (.aload_n 0, 1) := by decide +kernel
theorem dX6_firstFault_46 : decode cX6_firstFault 46 = .ok (.invokevirtual 36, 3) := by decide +kernel
theorem dX6_firstFault_49 : decode cX6_firstFault 49 = .ok (.iinc 1 1, 3) := by decide +kernel
theorem dX6_firstFault_52 : decode cX6_firstFault 52 = .ok (.goto (-46), 3) := by decide +kernel
theorem dX6_firstFault_55 : decode cX6_firstFault 55 = .ok (.bipush (-4), 2) := by decide +kernel
theorem dX6_firstFault_57 : decode cX6_firstFault 57 = .ok (.ireturn, 1) := by decide +kernel
theorem dX6_isWhole_0 : decode cX6_isWhole 0 = .ok (.aload_n 0, 1) := by decide +kernel
theorem dX6_isWhole_1 : decode cX6_isWhole 1 = .ok (.getfield 39, 3) := by decide +kernel
theorem dX6_isWhole_4 : decode cX6_isWhole 4 = .ok (.ifCond .le 23, 3) := by decide +kernel
theorem dX6_isWhole_7 : decode cX6_isWhole 7 = .ok (.aload_n 0, 1) := by decide +kernel
theorem dX6_isWhole_8 : decode cX6_isWhole 8 = .ok (.getfield 42, 3) := by decide +kernel
theorem dX6_isWhole_11 : decode cX6_isWhole 11 = .ok (.ifCond .le 16, 3) := by decide +kernel
theorem dX6_isWhole_14 : decode cX6_isWhole 14 = .ok (.aload_n 0, 1) := by decide +kernel
theorem dX6_isWhole_15 : decode cX6_isWhole 15 = .ok (.getfield 45, 3) := by decide +kernel
theorem dX6_isWhole_18 : decode cX6_isWhole 18 = .ok (.bipush 10, 2) := by decide +kernel
theorem dX6_isWhole_20 : decode cX6_isWhole 20 = .ok (.if_icmp .ne 7, 3) := by decide +kernel
theorem dX6_isWhole_23 : decode cX6_isWhole 23 = .ok (.iconst 1, 1) := by decide +kernel
theorem dX6_isWhole_24 : decode cX6_isWhole 24 = .ok (.goto 4, 3) := by decide +kernel
theorem dX6_isWhole_27 : decode cX6_isWhole 27 = .ok (.iconst 0, 1) := by decide +kernel
theorem dX6_isWhole_28 : decode cX6_isWhole 28 = .ok (.ireturn, 1) := by decide +kernel
theorem dX6_fill_0 : decode cX6_fill 0 = .ok (.aload_n 0, 1) := by decide +kernel
theorem dX6_fill_1 : decode cX6_fill 1 = .ok (.invokevirtual 23, 3) := by decide +kernel
theorem dX6_fill_4 : decode cX6_fill 4 = .ok (.iconst 0, 1) := by decide +kernel
theorem dX6_fill_5 : decode cX6_fill 5 = .ok (.istore_n 2, 1) := by decide +kernel
theorem dX6_fill_6 : decode cX6_fill 6 = .ok (.iload_n 2, 1) := by decide +kernel
theorem dX6_fill_7 : decode cX6_fill 7 = .ok (.sipush 500, 3) := by decide +kernel
theorem dX6_fill_10 : decode cX6_fill 10 = .ok (.if_icmp .ge 51, 3) := by decide +kernel
theorem dX6_fill_13 : decode cX6_fill 13 = .ok (.aload_n 0, 1) := by decide +kernel
theorem dX6_fill_14 : decode cX6_fill 14 = .ok (.getfield 26, 3) := by decide +kernel
theorem dX6_fill_17 : decode cX6_fill 17 = .ok (.aload_n 0, 1) := by decide +kernel
theorem dX6_fill_18 : decode cX6_fill 18 = .ok (.getfield 19, 3) := by decide +kernel
theorem dX6_fill_21 : decode cX6_fill 21 = .ok (.if_icmp .ge 40, 3) := by decide +kernel
theorem dX6_fill_24 : decode cX6_fill 24 = .ok (.aload_n 0, 1) := by decide +kernel
theorem dX6_fill_25 : decode cX6_fill 25 = .ok (.invokevirtual 29, 3) := by decide +kernel
theorem dX6_fill_28 : decode cX6_fill 28 = .ok (.ifCond .eq 10, 3) := by decide +kernel
theorem dX6_fill_31 : decode cX6_fill 31 = .ok (.aload_n 0, 1) := by decide +kernel
theorem dX6_fill_32 : decode cX6_fill 32 = .ok (.invokevirtual 33, 3) := by decide +kernel
theorem dX6_fill_35 : decode cX6_fill 35 = .ok (.ifCond .ne 4, 3) := by decide +kernel
theorem dX6_fill_38 : decode cX6_fill 38 = .ok (.return_, 1) := by decide +kernel
theorem dX6_fill_39 : decode cX6_fill 39 = .ok (.aload_n 1, 1) := by decide +kernel
theorem dX6_fill_40 : decode cX6_fill 40 = .ok (.aload_n 0, 1) := by decide +kernel
theorem dX6_fill_41 : decode cX6_fill 41 = .ok (.getfield 48, 3) := by decide +kernel
theorem dX6_fill_44 : decode cX6_fill 44 = .ok (.aload_n 0, 1) := by decide +kernel
theorem dX6_fill_45 : decode cX6_fill 45 = .ok (.getfield 15, 3) := by decide +kernel
theorem dX6_fill_48 : decode cX6_fill 48 = .ok (.invokevirtual 51, 3) := by decide +kernel
theorem dX6_fill_51 : decode cX6_fill 51 = .ok (.aload_n 0, 1) := by decide +kernel
theorem dX6_fill_52 : decode cX6_fill 52 = .ok (.invokevirtual 36, 3) := by decide +kernel
theorem dX6_fill_55 : decode cX6_fill 55 = .ok (.iinc 2 1, 3) := by decide +kernel
theorem dX6_fill_58 : decode cX6_fill 58 = .ok (.goto (-52), 3) := by decide +kernel
theorem dX6_fill_61 : decode cX6_fill 61 = .ok (.return_, 1) := by decide +kernel
theorem dX6_toBegin_0 : decode cX6_toBegin 0 = .ok (.aload_n 0, 1) := by decide +kernel
theorem dX6_toBegin_1 : decode cX6_toBegin 1 = .ok (.iconst 0, 1) := by decide +kernel
theorem dX6_toBegin_2 : decode cX6_toBegin 2 = .ok (.putfield 26, 3) := by decide +kernel
theorem dX6_toBegin_5 : decode cX6_toBegin 5 = .ok (.aload_n 0, 1) := by decide +kernel
theorem dX6_toBegin_6 : decode cX6_toBegin 6 = .ok (.iconst 0, 1) := by decide +kernel
theorem dX6_toBegin_7 : decode cX6_toBegin 7 = .ok (.putfield 39, 3) := by decide +kernel
theorem dX6_toBegin_10 : decode cX6_toBegin 10 = .ok (.aload_n 0, 1) := by decide +kernel
theorem dX6_toBegin_11 : decode cX6_toBegin 11 = .ok (.iconst 0, 1) := by decide +kernel
theorem dX6_toBegin_12 : decode cX6_toBegin 12 = .ok (.putfield 42, 3) := by decide +kernel
theorem dX6_toBegin_15 : decode cX6_toBegin 15 = .ok (.aload_n 0, 1) := by decide +kernel
theorem dX6_toBegin_16 : decode cX6_toBegin 16 = .ok (.iconst 0, 1) := by decide +kernel
theorem dX6_toBegin_17 : decode cX6_toBegin 17 = .ok (.putfield 57, 3) := by decide +kernel
theorem dX6_toBegin_20 : decode cX6_toBegin 20 = .ok (.aload_n 0, 1) := by decide +kernel
theorem dX6_toBegin_21 : decode cX6_toBegin 21 = .ok (.iconst 0, 1) := by decide +kernel
theorem dX6_toBegin_22 : decode cX6_toBegin 22 = .ok (.putfield 45, 3) := by decide +kernel
theorem dX6_toBegin_25 : decode cX6_toBegin 25 = .ok (.return_, 1) := by decide +kernel
theorem dX6_readItem_0 : decode cX6_readItem 0 = .ok (.aload_n 0, 1) := by decide +kernel
theorem dX6_readItem_1 : decode cX6_readItem 1 = .ok (.getfield 26, 3) := by decide +kernel
theorem dX6_readItem_4 : decode cX6_readItem 4 = .ok (.aload_n 0, 1) := by decide +kernel
theorem dX6_readItem_5 : decode cX6_readItem 5 = .ok (.getfield 19, 3) := by decide +kernel
theorem dX6_readItem_8 : decode cX6_readItem 8 = .ok (.if_icmp .lt 5, 3) := by decide +kernel
theorem dX6_readItem_11 : decode cX6_readItem 11 = .ok (.iconst 0, 1) := by decide +kernel
theorem dX6_readItem_12 : decode cX6_readItem 12 = .ok (.ireturn, 1) := by decide +kernel
theorem dX6_readItem_13 : decode cX6_readItem 13 = .ok (.aload_n 0, 1) := by decide +kernel
theorem dX6_readItem_14 : decode cX6_readItem 14 = .ok (.aload_n 0, 1) := by decide +kernel
theorem dX6_readItem_15 : decode cX6_readItem 15 = .ok (.getfield 9, 3) := by decide +kernel
theorem dX6_readItem_18 : decode cX6_readItem 18 = .ok (.aload_n 0, 1) := by decide +kernel
theorem dX6_readItem_19 : decode cX6_readItem 19 = .ok (.getfield 26, 3) := by decide +kernel
theorem dX6_readItem_22 : decode cX6_readItem 22 = .ok (.baload, 1) := by decide +kernel
theorem dX6_readItem_23 : decode cX6_readItem 23 = .ok (.putfield 48, 3) := by decide +kernel
theorem dX6_readItem_26 : decode cX6_readItem 26 = .ok (.aload_n 0, 1) := by decide +kernel
theorem dX6_readItem_27 : decode cX6_readItem 27 = .ok (.dup, 1) := by decide +kernel
theorem dX6_readItem_28 : decode cX6_readItem 28 = .ok (.getfield 26, 3) := by decide +kernel
theorem dX6_readItem_31 : decode cX6_readItem 31 = .ok (.iconst 1, 1) := by decide +kernel
theorem dX6_readItem_32 : decode cX6_readItem 32 = .ok (.iadd, 1) := by decide +kernel
theorem dX6_readItem_33 : decode cX6_readItem 33 = .ok (.putfield 26, 3) := by decide +kernel
theorem dX6_readItem_36 : decode cX6_readItem 36 = .ok (.aload_n 0, 1) := by decide +kernel
theorem dX6_readItem_37 : decode cX6_readItem 37 = .ok (.getfield 48, 3) := by decide +kernel
theorem dX6_readItem_40 : decode cX6_readItem 40 = .ok (.invokestatic 60, 3) := by decide +kernel
theorem dX6_readItem_43 : decode cX6_readItem 43 = .ok (.arraylength, 1) := by decide +kernel
theorem dX6_readItem_44 : decode cX6_readItem 44 = .ok (.iconst 2, 1) := by decide +kernel
theorem dX6_readItem_45 : decode cX6_readItem 45 = .ok (.idiv, 1) := by decide +kernel
theorem dX6_readItem_46 : decode cX6_readItem 46 = .ok (.istore_n 1, 1) := by decide +kernel
theorem dX6_readItem_47 : decode cX6_readItem 47 = .ok (.iconst 0, 1) := by decide +kernel
theorem dX6_readItem_48 : decode cX6_readItem 48 = .ok (.istore_n 2, 1) := by decide +kernel
theorem dX6_readItem_49 : decode cX6_readItem 49 = .ok (.iload_n 2, 1) := by decide +kernel
theorem dX6_readItem_50 : decode cX6_readItem 50 = .ok (.iload_n 1, 1) := by decide +kernel
theorem dX6_readItem_51 : decode cX6_readItem 51 = .ok (.if_icmp .ge 33, 3) := by decide +kernel
theorem dX6_readItem_54 : decode cX6_readItem 54 = .ok (.aload_n 0, 1) := by decide +kernel
theorem dX6_readItem_55 : decode cX6_readItem 55 = .ok (.iload_n 2, 1) := by decide +kernel
theorem dX6_readItem_56 : decode cX6_readItem 56 = .ok (.iload_n 2, 1) := by decide +kernel
theorem dX6_readItem_57 : decode cX6_readItem 57 = .ok (.iconst 1, 1) := by decide +kernel
theorem dX6_readItem_58 : decode cX6_readItem 58 = .ok (.iadd, 1) := by decide +kernel
theorem dX6_readItem_59 : decode cX6_readItem 59 = .ok (.iload_n 1, 1) := by decide +kernel
theorem dX6_readItem_60 : decode cX6_readItem 60 = .ok (.if_icmp .ge 8, 3) := by decide +kernel
theorem dX6_readItem_63 : decode cX6_readItem 63 = .ok (.bipush 44, 2) := by decide +kernel
theorem dX6_readItem_65 : decode cX6_readItem 65 = .ok (.goto 5, 3) := by decide +kernel
theorem dX6_readItem_68 : decode cX6_readItem 68 = .ok (.bipush 59, 2) := by decide +kernel
theorem dX6_readItem_70 : decode cX6_readItem 70 = .ok (.invokevirtual 64, 3) := by decide +kernel
theorem dX6_readItem_73 : decode cX6_readItem 73 = .ok (.ifCond .ne 5, 3) := by decide +kernel
theorem dX6_readItem_76 : decode cX6_readItem 76 = .ok (.iconst 0, 1) := by decide +kernel
theorem dX6_readItem_77 : decode cX6_readItem 77 = .ok (.ireturn, 1) := by decide +kernel
theorem dX6_readItem_78 : decode cX6_readItem 78 = .ok (.iinc 2 1, 3) := by decide +kernel
theorem dX6_readItem_81 : decode cX6_readItem 81 = .ok (.goto (-32), 3) := by decide +kernel
theorem dX6_readItem_84 : decode cX6_readItem 84 = .ok (.iload_n 1, 1) := by decide +kernel
theorem dX6_readItem_85 : decode cX6_readItem 85 = .ok (.ifCond .le 7, 3) := by decide +kernel
theorem dX6_readItem_88 : decode cX6_readItem 88 = .ok (.iconst 1, 1) := by decide +kernel
theorem dX6_readItem_89 : decode cX6_readItem 89 = .ok (.goto 4, 3) := by decide +kernel
theorem dX6_readItem_92 : decode cX6_readItem 92 = .ok (.iconst 0, 1) := by decide +kernel
theorem dX6_readItem_93 : decode cX6_readItem 93 = .ok (.ireturn, 1) := by decide +kernel
theorem dX6_readNumber_0 : decode cX6_readNumber 0 = .ok (.iconst 0, 1) := by decide +kernel
theorem dX6_readNumber_1 : decode cX6_readNumber 1 = .ok (.istore_n 3, 1) := by decide +kernel
theorem dX6_readNumber_2 : decode cX6_readNumber 2 = .ok (.iconst 0, 1) := by decide +kernel
theorem dX6_readNumber_3 : decode cX6_readNumber 3 = .ok (.istore 4, 2) := by decide +kernel
theorem dX6_readNumber_5 : decode cX6_readNumber 5 = .ok (.aload_n 0, 1) := by decide +kernel
theorem dX6_readNumber_6 : decode cX6_readNumber 6 = .ok (.getfield 26, 3) := by decide +kernel
theorem dX6_readNumber_9 : decode cX6_readNumber 9 = .ok (.aload_n 0, 1) := by decide +kernel
theorem dX6_readNumber_10 : decode cX6_readNumber 10 = .ok (.getfield 19, 3) := by decide +kernel
theorem dX6_readNumber_13 : decode cX6_readNumber 13 = .ok (.if_icmp .ge 71, 3) := by decide +kernel
theorem dX6_readNumber_16 : decode cX6_readNumber 16 = .ok (.iload 4, 2) := by decide +kernel
theorem dX6_readNumber_18 : decode cX6_readNumber 18 = .ok (.iconst 3, 1) := by decide +kernel
theorem dX6_readNumber_19 : decode cX6_readNumber 19 = .ok (.if_icmp .ge 65, 3) := by decide +kernel
theorem dX6_readNumber_22 : decode cX6_readNumber 22 = .ok (.aload_n 0, 1) := by decide +kernel
theorem dX6_readNumber_23 : decode cX6_readNumber 23 = .ok (.getfield 9, 3) := by decide +kernel
theorem dX6_readNumber_26 : decode cX6_readNumber 26 = .ok (.aload_n 0, 1) := by decide +kernel
theorem dX6_readNumber_27 : decode cX6_readNumber 27 = .ok (.getfield 26, 3) := by decide +kernel
theorem dX6_readNumber_30 : decode cX6_readNumber 30 = .ok (.baload, 1) := by decide +kernel
theorem dX6_readNumber_31 : decode cX6_readNumber 31 = .ok (.bipush 48, 2) := by decide +kernel
theorem dX6_readNumber_33 : decode cX6_readNumber 33 = .ok (.if_icmp .lt 51, 3) := by decide +kernel
theorem dX6_readNumber_36 : decode cX6_readNumber 36 = .ok (.aload_n 0, 1) := by decide +kernel
theorem dX6_readNumber_37 : decode cX6_readNumber 37 = .ok (.getfield 9, 3) := by decide +kernel
theorem dX6_readNumber_40 : decode cX6_readNumber 40 = .ok (.aload_n 0, 1) := by decide +kernel
theorem dX6_readNumber_41 : decode cX6_readNumber 41 = .ok (.getfield 26, 3) := by decide +kernel
theorem dX6_readNumber_44 : decode cX6_readNumber 44 = .ok (.baload, 1) := by decide +kernel
theorem dX6_readNumber_45 : decode cX6_readNumber 45 = .ok (.bipush 57, 2) := by decide +kernel
theorem dX6_readNumber_47 : decode cX6_readNumber 47 = .ok (.if_icmp .gt 37, 3) := by decide +kernel
theorem dX6_readNumber_50 : decode cX6_readNumber 50 = .ok (.bipush 10, 2) := by decide +kernel
theorem dX6_readNumber_52 : decode cX6_readNumber 52 = .ok (.iload_n 3, 1) := by decide +kernel
theorem dX6_readNumber_53 : decode cX6_readNumber 53 = .ok (.imul, 1) := by decide +kernel
theorem dX6_readNumber_54 : decode cX6_readNumber 54 = .ok (.aload_n 0, 1) := by decide +kernel
theorem dX6_readNumber_55 : decode cX6_readNumber 55 = .ok (.getfield 9, 3) := by decide +kernel
theorem dX6_readNumber_58 : decode cX6_readNumber 58 = .ok (.aload_n 0, 1) := by decide +kernel
theorem dX6_readNumber_59 : decode cX6_readNumber 59 = .ok (.getfield 26, 3) := by decide +kernel
theorem dX6_readNumber_62 : decode cX6_readNumber 62 = .ok (.baload, 1) := by decide +kernel
theorem dX6_readNumber_63 : decode cX6_readNumber 63 = .ok (.iadd, 1) := by decide +kernel
theorem dX6_readNumber_64 : decode cX6_readNumber 64 = .ok (.bipush 48, 2) := by decide +kernel
theorem dX6_readNumber_66 : decode cX6_readNumber 66 = .ok (.isub, 1) := by decide +kernel
theorem dX6_readNumber_67 : decode cX6_readNumber 67 = .ok (.istore_n 3, 1) := by decide +kernel
theorem dX6_readNumber_68 : decode cX6_readNumber 68 = .ok (.iinc 4 1, 3) := by decide +kernel
theorem dX6_readNumber_71 : decode cX6_readNumber 71 = .ok (.aload_n 0, 1) := by decide +kernel
theorem dX6_readNumber_72 : decode cX6_readNumber 72 = .ok (.dup, 1) := by decide +kernel
theorem dX6_readNumber_73 : decode cX6_readNumber 73 = .ok (.getfield 26, 3) := by decide +kernel
theorem dX6_readNumber_76 : decode cX6_readNumber 76 = .ok (.iconst 1, 1) := by decide +kernel
theorem dX6_readNumber_77 : decode cX6_readNumber 77 = .ok (.iadd, 1) := by decide +kernel
theorem dX6_readNumber_78 : decode cX6_readNumber 78 = .ok (.putfield 26, 3) := by decide +kernel
theorem dX6_readNumber_81 : decode cX6_readNumber 81 = .ok (.goto (-76), 3) := by decide +kernel
theorem dX6_readNumber_84 : decode cX6_readNumber 84 = .ok (.iload 4, 2) := by decide +kernel
theorem dX6_readNumber_86 : decode cX6_readNumber 86 = .ok (.ifCond .eq 27, 3) := by decide +kernel
theorem dX6_readNumber_89 : decode cX6_readNumber 89 = .ok (.aload_n 0, 1) := by decide +kernel
theorem dX6_readNumber_90 : decode cX6_readNumber 90 = .ok (.getfield 26, 3) := by decide +kernel
theorem dX6_readNumber_93 : decode cX6_readNumber 93 = .ok (.aload_n 0, 1) := by decide +kernel
theorem dX6_readNumber_94 : decode cX6_readNumber 94 = .ok (.getfield 19, 3) := by decide +kernel
theorem dX6_readNumber_97 : decode cX6_readNumber 97 = .ok (.if_icmp .ge 16, 3) := by decide +kernel
theorem dX6_readNumber_100 : decode cX6_readNumber 100 = .ok (.aload_n 0, 1) := by decide +kernel
theorem dX6_readNumber_101 : decode cX6_readNumber 101 = .ok (.getfield 9, 3) := by decide +kernel
theorem dX6_readNumber_104 : decode cX6_readNumber 104 = .ok (.aload_n 0, 1) := by decide +kernel
theorem dX6_readNumber_105 : decode cX6_readNumber 105 = .ok (.getfield 26, 3) := by decide +kernel
theorem dX6_readNumber_108 : decode cX6_readNumber 108 = .ok (.baload, 1) := by decide +kernel
theorem dX6_readNumber_109 : decode cX6_readNumber 109 = .ok (.iload_n 2, 1) := by decide +kernel
theorem dX6_readNumber_110 : decode cX6_readNumber 110 = .ok (.if_icmp .eq 5, 3) := by decide +kernel
theorem dX6_readNumber_113 : decode cX6_readNumber 113 = .ok (.iconst 0, 1) := by decide +kernel
theorem dX6_readNumber_114 : decode cX6_readNumber 114 = .ok (.ireturn, 1) := by decide +kernel
theorem dX6_readNumber_115 : decode cX6_readNumber 115 = .ok (.aload_n 0, 1) := by decide +kernel
theorem dX6_readNumber_116 : decode cX6_readNumber 116 = .ok (.dup, 1) := by decide +kernel
theorem dX6_readNumber_117 : decode cX6_readNumber 117 = .ok (.getfield 26, 3) := by decide +kernel
theorem dX6_readNumber_120 : decode cX6_readNumber 120 = .ok (.iconst 1, 1) := by decide +kernel
theorem dX6_readNumber_121 : decode cX6_readNumber 121 = .ok (.iadd, 1) := by decide +kernel
theorem dX6_readNumber_122 : decode cX6_readNumber 122 = .ok (.putfield 26, 3) := by decide +kernel
theorem dX6_readNumber_125 : decode cX6_readNumber 125 = .ok (.aload_n 0, 1) := by decide +kernel
theorem dX6_readNumber_126 : decode cX6_readNumber 126 = .ok (.getfield 15, 3) := by decide +kernel
theorem dX6_readNumber_129 : decode cX6_readNumber 129 = .ok (.iload_n 1, 1) := by decide +kernel
theorem dX6_readNumber_130 : decode cX6_readNumber 130 = .ok (.iload_n 3, 1) := by decide +kernel
theorem dX6_readNumber_131 : decode cX6_readNumber 131 = .ok (.iastore, 1) := by decide +kernel
theorem dX6_readNumber_132 : decode cX6_readNumber 132 = .ok (.iconst 1, 1) := by decide +kernel
theorem dX6_readNumber_133 : decode cX6_readNumber 133 = .ok (.ireturn, 1) := by decide +kernel
theorem dX6_isSound_0 : decode cX6_isSound 0 = .ok (.aload_n 0, 1) := by decide +kernel
theorem dX6_isSound_1 : decode cX6_isSound 1 = .ok (.getfield 48, 3) := by decide +kernel
theorem dX6_isSound_4 : decode cX6_isSound 4 = .ok (.invokestatic 60, 3) := by decide +kernel
theorem dX6_isSound_7 : decode cX6_isSound 7 = .ok (.astore_n 1, 1) := by decide +kernel
theorem dX6_isSound_8 : decode cX6_isSound 8 = .ok (.iconst 0, 1) := by decide +kernel
theorem dX6_isSound_9 : decode cX6_isSound 9 = .ok (.istore_n 2, 1) := by decide +kernel
theorem dX6_isSound_10 : decode cX6_isSound 10 = .ok (.iload_n 2, 1) := by decide +kernel
theorem dX6_isSound_11 : decode cX6_isSound 11 = .ok (.aload_n 1, 1) := by decide +kernel
theorem dX6_isSound_12 : decode cX6_isSound 12 = .ok (.arraylength, 1) := by decide +kernel
theorem dX6_isSound_13 : decode cX6_isSound 13 = .ok (.iconst 2, 1) := by decide +kernel
theorem dX6_isSound_14 : decode cX6_isSound 14 = .ok (.idiv, 1) := by decide +kernel
theorem dX6_isSound_15 : decode cX6_isSound 15 = .ok (.if_icmp .ge 41, 3) := by decide +kernel
theorem dX6_isSound_18 : decode cX6_isSound 18 = .ok (.aload_n 0, 1) := by decide +kernel
theorem dX6_isSound_19 : decode cX6_isSound 19 = .ok (.getfield 15, 3) := by decide +kernel
theorem dX6_isSound_22 : decode cX6_isSound 22 = .ok (.iload_n 2, 1) := by decide +kernel
theorem dX6_isSound_23 : decode cX6_isSound 23 = .ok (.iaload, 1) := by decide +kernel
theorem dX6_isSound_24 : decode cX6_isSound 24 = .ok (.aload_n 1, 1) := by decide +kernel
theorem dX6_isSound_25 : decode cX6_isSound 25 = .ok (.iconst 2, 1) := by decide +kernel
theorem dX6_isSound_26 : decode cX6_isSound 26 = .ok (.iload_n 2, 1) := by decide +kernel
theorem dX6_isSound_27 : decode cX6_isSound 27 = .ok (.imul, 1) := by decide +kernel
theorem dX6_isSound_28 : decode cX6_isSound 28 = .ok (.iaload, 1) := by decide +kernel
theorem dX6_isSound_29 : decode cX6_isSound 29 = .ok (.if_icmp .lt 19, 3) := by decide +kernel
theorem dX6_isSound_32 : decode cX6_isSound 32 = .ok (.aload_n 0, 1) := by decide +kernel
theorem dX6_isSound_33 : decode cX6_isSound 33 = .ok (.getfield 15, 3) := by decide +kernel
theorem dX6_isSound_36 : decode cX6_isSound 36 = .ok (.iload_n 2, 1) := by decide +kernel
theorem dX6_isSound_37 : decode cX6_isSound 37 = .ok (.iaload, 1) := by decide +kernel
theorem dX6_isSound_38 : decode cX6_isSound 38 = .ok (.aload_n 1, 1) := by decide +kernel
theorem dX6_isSound_39 : decode cX6_isSound 39 = .ok (.iconst 2, 1) := by decide +kernel
theorem dX6_isSound_40 : decode cX6_isSound 40 = .ok (.iload_n 2, 1) := by decide +kernel
theorem dX6_isSound_41 : decode cX6_isSound 41 = .ok (.imul, 1) := by decide +kernel
theorem dX6_isSound_42 : decode cX6_isSound 42 = .ok (.iconst 1, 1) := by decide +kernel
theorem dX6_isSound_43 : decode cX6_isSound 43 = .ok (.iadd, 1) := by decide +kernel
theorem dX6_isSound_44 : decode cX6_isSound 44 = .ok (.iaload, 1) := by decide +kernel
theorem dX6_isSound_45 : decode cX6_isSound 45 = .ok (.if_icmp .le 5, 3) := by decide +kernel
theorem dX6_isSound_48 : decode cX6_isSound 48 = .ok (.iconst 0, 1) := by decide +kernel
theorem dX6_isSound_49 : decode cX6_isSound 49 = .ok (.ireturn, 1) := by decide +kernel
theorem dX6_isSound_50 : decode cX6_isSound 50 = .ok (.iinc 2 1, 3) := by decide +kernel
theorem dX6_isSound_53 : decode cX6_isSound 53 = .ok (.goto (-43), 3) := by decide +kernel
theorem dX6_isSound_56 : decode cX6_isSound 56 = .ok (.aload_n 0, 1) := by decide +kernel
theorem dX6_isSound_57 : decode cX6_isSound 57 = .ok (.getfield 48, 3) := by decide +kernel
theorem dX6_isSound_60 : decode cX6_isSound 60 = .ok (.lookupswitch 145 #[(98, 66), (100, 94), (103, 126), (104, 52), (115, 80)], 52) := by decide +kernel
theorem dX6_isSound_112 : decode cX6_isSound 112 = .ok (.aload_n 0, 1) := by decide +kernel
theorem dX6_isSound_113 : decode cX6_isSound 113 = .ok (.getfield 39, 3) := by decide +kernel
theorem dX6_isSound_116 : decode cX6_isSound 116 = .ok (.iconst 4, 1) := by decide +kernel
theorem dX6_isSound_117 : decode cX6_isSound 117 = .ok (.if_icmp .ge 7, 3) := by decide +kernel
theorem dX6_isSound_120 : decode cX6_isSound 120 = .ok (.iconst 1, 1) := by decide +kernel
theorem dX6_isSound_121 : decode cX6_isSound 121 = .ok (.goto 4, 3) := by decide +kernel
theorem dX6_isSound_124 : decode cX6_isSound 124 = .ok (.iconst 0, 1) := by decide +kernel
theorem dX6_isSound_125 : decode cX6_isSound 125 = .ok (.ireturn, 1) := by decide +kernel
theorem dX6_isSound_126 : decode cX6_isSound 126 = .ok (.aload_n 0, 1) := by decide +kernel
theorem dX6_isSound_127 : decode cX6_isSound 127 = .ok (.getfield 42, 3) := by decide +kernel
theorem dX6_isSound_130 : decode cX6_isSound 130 = .ok (.iconst 4, 1) := by decide +kernel
theorem dX6_isSound_131 : decode cX6_isSound 131 = .ok (.if_icmp .ge 7, 3) := by decide +kernel
theorem dX6_isSound_134 : decode cX6_isSound 134 = .ok (.iconst 1, 1) := by decide +kernel
theorem dX6_isSound_135 : decode cX6_isSound 135 = .ok (.goto 4, 3) := by decide +kernel
theorem dX6_isSound_138 : decode cX6_isSound 138 = .ok (.iconst 0, 1) := by decide +kernel
theorem dX6_isSound_139 : decode cX6_isSound 139 = .ok (.ireturn, 1) := by decide +kernel
theorem dX6_isSound_140 : decode cX6_isSound 140 = .ok (.aload_n 0, 1) := by decide +kernel
theorem dX6_isSound_141 : decode cX6_isSound 141 = .ok (.getfield 57, 3) := by decide +kernel
theorem dX6_isSound_144 : decode cX6_isSound 144 = .ok (.iconst 4, 1) := by decide +kernel
theorem dX6_isSound_145 : decode cX6_isSound 145 = .ok (.if_icmp .ge 7, 3) := by decide +kernel
theorem dX6_isSound_148 : decode cX6_isSound 148 = .ok (.iconst 1, 1) := by decide +kernel
theorem dX6_isSound_149 : decode cX6_isSound 149 = .ok (.goto 4, 3) := by decide +kernel
theorem dX6_isSound_152 : decode cX6_isSound 152 = .ok (.iconst 0, 1) := by decide +kernel
theorem dX6_isSound_153 : decode cX6_isSound 153 = .ok (.ireturn, 1) := by decide +kernel
theorem dX6_isSound_154 : decode cX6_isSound 154 = .ok (.aload_n 0, 1) := by decide +kernel
theorem dX6_isSound_155 : decode cX6_isSound 155 = .ok (.getfield 15, 3) := by decide +kernel
theorem dX6_isSound_158 : decode cX6_isSound 158 = .ok (.iconst 0, 1) := by decide +kernel
theorem dX6_isSound_159 : decode cX6_isSound 159 = .ok (.iaload, 1) := by decide +kernel
theorem dX6_isSound_160 : decode cX6_isSound 160 = .ok (.aload_n 0, 1) := by decide +kernel
theorem dX6_isSound_161 : decode cX6_isSound 161 = .ok (.getfield 42, 3) := by decide +kernel
theorem dX6_isSound_164 : decode cX6_isSound 164 = .ok (.if_icmp .ge 20, 3) := by decide +kernel
theorem dX6_isSound_167 : decode cX6_isSound 167 = .ok (.aload_n 0, 1) := by decide +kernel
theorem dX6_isSound_168 : decode cX6_isSound 168 = .ok (.getfield 15, 3) := by decide +kernel
theorem dX6_isSound_171 : decode cX6_isSound 171 = .ok (.iconst 1, 1) := by decide +kernel
theorem dX6_isSound_172 : decode cX6_isSound 172 = .ok (.iaload, 1) := by decide +kernel
theorem dX6_isSound_173 : decode cX6_isSound 173 = .ok (.aload_n 0, 1) := by decide +kernel
theorem dX6_isSound_174 : decode cX6_isSound 174 = .ok (.getfield 39, 3) := by decide +kernel
theorem dX6_isSound_177 : decode cX6_isSound 177 = .ok (.if_icmp .ge 7, 3) := by decide +kernel
theorem dX6_isSound_180 : decode cX6_isSound 180 = .ok (.iconst 1, 1) := by decide +kernel
theorem dX6_isSound_181 : decode cX6_isSound 181 = .ok (.goto 4, 3) := by decide +kernel
theorem dX6_isSound_184 : decode cX6_isSound 184 = .ok (.iconst 0, 1) := by decide +kernel
theorem dX6_isSound_185 : decode cX6_isSound 185 = .ok (.ireturn, 1) := by decide +kernel
theorem dX6_isSound_186 : decode cX6_isSound 186 = .ok (.aload_n 0, 1) := by decide +kernel
theorem dX6_isSound_187 : decode cX6_isSound 187 = .ok (.getfield 15, 3) := by decide +kernel
theorem dX6_isSound_190 : decode cX6_isSound 190 = .ok (.iconst 0, 1) := by decide +kernel
theorem dX6_isSound_191 : decode cX6_isSound 191 = .ok (.iaload, 1) := by decide +kernel
theorem dX6_isSound_192 : decode cX6_isSound 192 = .ok (.aload_n 0, 1) := by decide +kernel
theorem dX6_isSound_193 : decode cX6_isSound 193 = .ok (.getfield 57, 3) := by decide +kernel
theorem dX6_isSound_196 : decode cX6_isSound 196 = .ok (.if_icmp .ge 7, 3) := by decide +kernel
theorem dX6_isSound_199 : decode cX6_isSound 199 = .ok (.iconst 1, 1) := by decide +kernel
theorem dX6_isSound_200 : decode cX6_isSound 200 = .ok (.goto 4, 3) := by decide +kernel
theorem dX6_isSound_203 : decode cX6_isSound 203 = .ok (.iconst 0, 1) := by decide +kernel
theorem dX6_isSound_204 : decode cX6_isSound 204 = .ok (.ireturn, 1) := by decide +kernel
theorem dX6_isSound_205 : decode cX6_isSound 205 = .ok (.iconst 1, 1) := by decide +kernel
theorem dX6_isSound_206 : decode cX6_isSound 206 = .ok (.ireturn, 1) := by decide +kernel
theorem dX6_tally_0 : decode cX6_tally 0 = .ok (.aload_n 0, 1) := by decide +kernel
theorem dX6_tally_1 : decode cX6_tally 1 = .ok (.getfield 48, 3) := by decide +kernel
theorem dX6_tally_4 : decode cX6_tally 4 = .ok (.bipush 104, 2) := by decide +kernel
theorem dX6_tally_6 : decode cX6_tally 6 = .ok (.if_icmp .ne 16, 3) := by decide +kernel
theorem dX6_tally_9 : decode cX6_tally 9 = .ok (.aload_n 0, 1) := by decide +kernel
theorem dX6_tally_10 : decode cX6_tally 10 = .ok (.dup, 1) := by decide +kernel
theorem dX6_tally_11 : decode cX6_tally 11 = .ok (.getfield 39, 3) := by decide +kernel
theorem dX6_tally_14 : decode cX6_tally 14 = .ok (.iconst 1, 1) := by decide +kernel
theorem dX6_tally_15 : decode cX6_tally 15 = .ok (.iadd, 1) := by decide +kernel
theorem dX6_tally_16 : decode cX6_tally 16 = .ok (.putfield 39, 3) := by decide +kernel
theorem dX6_tally_19 : decode cX6_tally 19 = .ok (.goto 59, 3) := by decide +kernel
theorem dX6_tally_22 : decode cX6_tally 22 = .ok (.aload_n 0, 1) := by decide +kernel
theorem dX6_tally_23 : decode cX6_tally 23 = .ok (.getfield 48, 3) := by decide +kernel
theorem dX6_tally_26 : decode cX6_tally 26 = .ok (.bipush 98, 2) := by decide +kernel
theorem dX6_tally_28 : decode cX6_tally 28 = .ok (.if_icmp .ne 16, 3) := by decide +kernel
theorem dX6_tally_31 : decode cX6_tally 31 = .ok (.aload_n 0, 1) := by decide +kernel
theorem dX6_tally_32 : decode cX6_tally 32 = .ok (.dup, 1) := by decide +kernel
theorem dX6_tally_33 : decode cX6_tally 33 = .ok (.getfield 42, 3) := by decide +kernel
theorem dX6_tally_36 : decode cX6_tally 36 = .ok (.iconst 1, 1) := by decide +kernel
theorem dX6_tally_37 : decode cX6_tally 37 = .ok (.iadd, 1) := by decide +kernel
theorem dX6_tally_38 : decode cX6_tally 38 = .ok (.putfield 42, 3) := by decide +kernel
theorem dX6_tally_41 : decode cX6_tally 41 = .ok (.goto 37, 3) := by decide +kernel
theorem dX6_tally_44 : decode cX6_tally 44 = .ok (.aload_n 0, 1) := by decide +kernel
theorem dX6_tally_45 : decode cX6_tally 45 = .ok (.getfield 48, 3) := by decide +kernel
theorem dX6_tally_48 : decode cX6_tally 48 = .ok (.bipush 115, 2) := by decide +kernel
theorem dX6_tally_50 : decode cX6_tally 50 = .ok (.if_icmp .ne 28, 3) := by decide +kernel
theorem dX6_tally_53 : decode cX6_tally 53 = .ok (.aload_n 0, 1) := by decide +kernel
theorem dX6_tally_54 : decode cX6_tally 54 = .ok (.dup, 1) := by decide +kernel
theorem dX6_tally_55 : decode cX6_tally 55 = .ok (.getfield 57, 3) := by decide +kernel
theorem dX6_tally_58 : decode cX6_tally 58 = .ok (.iconst 1, 1) := by decide +kernel
theorem dX6_tally_59 : decode cX6_tally 59 = .ok (.iadd, 1) := by decide +kernel
theorem dX6_tally_60 : decode cX6_tally 60 = .ok (.putfield 57, 3) := by decide +kernel
theorem dX6_tally_63 : decode cX6_tally 63 = .ok (.aload_n 0, 1) := by decide +kernel
theorem dX6_tally_64 : decode cX6_tally 64 = .ok (.dup, 1) := by decide +kernel
theorem dX6_tally_65 : decode cX6_tally 65 = .ok (.getfield 45, 3) := by decide +kernel
theorem dX6_tally_68 : decode cX6_tally 68 = .ok (.aload_n 0, 1) := by decide +kernel
theorem dX6_tally_69 : decode cX6_tally 69 = .ok (.getfield 15, 3) := by decide +kernel
theorem dX6_tally_72 : decode cX6_tally 72 = .ok (.iconst 0, 1) := by decide +kernel
theorem dX6_tally_73 : decode cX6_tally 73 = .ok (.iaload, 1) := by decide +kernel
theorem dX6_tally_74 : decode cX6_tally 74 = .ok (.iadd, 1) := by decide +kernel
theorem dX6_tally_75 : decode cX6_tally 75 = .ok (.putfield 45, 3) := by decide +kernel
theorem dX6_tally_78 : decode cX6_tally 78 = .ok (.return_, 1) := by decide +kernel
theorem dX6_limitsOf_0 : decode cX6_limitsOf 0 = .ok (.iload_n 0, 1) := by decide +kernel
theorem dX6_limitsOf_1 : decode cX6_limitsOf 1 = .ok (.tableswitch 131 98 119 #[107, 131, 111, 131, 131, 119, 103, 131, 131, 131, 131, 131, 131, 131, 131, 131, 123, 115, 131, 131, 131, 127], 103) := by decide +kernel
theorem dX6_limitsOf_104 : decode cX6_limitsOf 104 = .ok (.getstatic 68, 3) := by decide +kernel
theorem dX6_limitsOf_107 : decode cX6_limitsOf 107 = .ok (.areturn, 1) := by decide +kernel
theorem dX6_limitsOf_108 : decode cX6_limitsOf 108 = .ok (.getstatic 71, 3) := by decide +kernel
theorem dX6_limitsOf_111 : decode cX6_limitsOf 111 = .ok (.areturn, 1) := by decide +kernel
theorem dX6_limitsOf_112 : decode cX6_limitsOf 112 = .ok (.getstatic 74, 3) := by decide +kernel
theorem dX6_limitsOf_115 : decode cX6_limitsOf 115 = .ok (.areturn, 1) := by decide +kernel
theorem dX6_limitsOf_116 : decode cX6_limitsOf 116 = .ok (.getstatic 77, 3) := by decide +kernel
theorem dX6_limitsOf_119 : decode cX6_limitsOf 119 = .ok (.areturn, 1) := by decide +kernel
theorem dX6_limitsOf_120 : decode cX6_limitsOf 120 = .ok (.getstatic 80, 3) := by decide +kernel
theorem dX6_limitsOf_123 : decode cX6_limitsOf 123 = .ok (.areturn, 1) := by decide +kernel
theorem dX6_limitsOf_124 : decode cX6_limitsOf 124 = .ok (.getstatic 83, 3) := by decide +kernel
theorem dX6_limitsOf_127 : decode cX6_limitsOf 127 = .ok (.areturn, 1) := by decide +kernel
theorem dX6_limitsOf_128 : decode cX6_limitsOf 128 = .ok (.getstatic 86, 3) := by decide +kernel
theorem dX6_limitsOf_131 : decode cX6_limitsOf 131 = .ok (.areturn, 1) := by decide +kernel
theorem dX6_limitsOf_132 : decode cX6_limitsOf 132 = .ok (.getstatic 89, 3) := by decide +kernel
theorem dX6_limitsOf_135 : decode cX6_limitsOf 135 = .ok (.areturn, 1) := by decide +kernel
theorem dX7_init_0 : decode cX7_init 0 = .ok (.aload_n 0, 1) := by decide +kernel
theorem dX7_init_1 : decode cX7_init 1 = .ok (.invokespecial 3, 3) := by decide +kernel
theorem dX7_init_4 : decode cX7_init 4 = .ok (.aload_n 0, 1) := by decide +kernel
theorem dX7_init_5 : decode cX7_init 5 = .ok (.new 9, 3) := by decide +kernel
theorem dX7_init_8 : decode cX7_init 8 = .ok (.dup, 1) := by decide +kernel
theorem dX7_init_9 : decode cX7_init 9 = .ok (.invokespecial 11, 3) := by decide +kernel
theorem dX7_init_12 : decode cX7_init 12 = .ok (.putfield 12, 3) := by decide +kernel
theorem dX7_init_15 : decode cX7_init 15 = .ok (.return_, 1) := by decide +kernel
theorem dX7_begin_0 : decode cX7_begin 0 = .ok (.aload_n 0, 1) := by decide +kernel
theorem dX7_begin_1 : decode cX7_begin 1 = .ok (.getfield 12, 3) := by decide +kernel
theorem dX7_begin_4 : decode cX7_begin 4 = .ok (.invokevirtual 18, 3) := by decide +kernel
theorem dX7_begin_7 : decode cX7_begin 7 = .ok (.aload_n 0, 1) := by decide +kernel
theorem dX7_begin_8 : decode cX7_begin 8 = .ok (.iconst 3, 1) := by decide +kernel
theorem dX7_begin_9 : decode cX7_begin 9 = .ok (.putfield 21, 3) := by decide +kernel
theorem dX7_begin_12 : decode cX7_begin 12 = .ok (.aload_n 0, 1) := by decide +kernel
theorem dX7_begin_13 : decode cX7_begin 13 = .ok (.iconst 4, 1) := by decide +kernel
theorem dX7_begin_14 : decode cX7_begin 14 = .ok (.putfield 25, 3) := by decide +kernel
theorem dX7_begin_17 : decode cX7_begin 17 = .ok (.aload_n 0, 1) := by decide +kernel
theorem dX7_begin_18 : decode cX7_begin 18 = .ok (.iconst 0, 1) := by decide +kernel
theorem dX7_begin_19 : decode cX7_begin 19 = .ok (.putfield 28, 3) := by decide +kernel
theorem dX7_begin_22 : decode cX7_begin 22 = .ok (.aload_n 0, 1) := by decide +kernel
theorem dX7_begin_23 : decode cX7_begin 23 = .ok (.iload_n 1, 1) := by decide +kernel
theorem dX7_begin_24 : decode cX7_begin 24 = .ok (.putfield 31, 3) := by decide +kernel
theorem dX7_begin_27 : decode cX7_begin 27 = .ok (.return_, 1) := by decide +kernel
theorem dX7_copyFrom_0 : decode cX7_copyFrom 0 = .ok (.aload_n 0, 1) := by decide +kernel
theorem dX7_copyFrom_1 : decode cX7_copyFrom 1 = .ok (.getfield 12, 3) := by decide +kernel
theorem dX7_copyFrom_4 : decode cX7_copyFrom 4 = .ok (.aload_n 1, 1) := by decide +kernel
theorem dX7_copyFrom_5 : decode cX7_copyFrom 5 = .ok (.getfield 12, 3) := by decide +kernel
theorem dX7_copyFrom_8 : decode cX7_copyFrom 8 = .ok (.invokevirtual 34, 3) := by decide +kernel
theorem dX7_copyFrom_11 : decode cX7_copyFrom 11 = .ok (.aload_n 0, 1) := by decide +kernel
theorem dX7_copyFrom_12 : decode cX7_copyFrom 12 = .ok (.aload_n 1, 1) := by decide +kernel
theorem dX7_copyFrom_13 : decode cX7_copyFrom 13 = .ok (.getfield 21, 3) := by decide +kernel
theorem dX7_copyFrom_16 : decode cX7_copyFrom 16 = .ok (.putfield 21, 3) := by decide +kernel
theorem dX7_copyFrom_19 : decode cX7_copyFrom 19 = .ok (.aload_n 0, 1) := by decide +kernel
theorem dX7_copyFrom_20 : decode cX7_copyFrom 20 = .ok (.aload_n 1, 1) := by decide +kernel
theorem dX7_copyFrom_21 : decode cX7_copyFrom 21 = .ok (.getfield 25, 3) := by decide +kernel
theorem dX7_copyFrom_24 : decode cX7_copyFrom 24 = .ok (.putfield 25, 3) := by decide +kernel
theorem dX7_copyFrom_27 : decode cX7_copyFrom 27 = .ok (.aload_n 0, 1) := by decide +kernel
theorem dX7_copyFrom_28 : decode cX7_copyFrom 28 = .ok (.aload_n 1, 1) := by decide +kernel
theorem dX7_copyFrom_29 : decode cX7_copyFrom 29 = .ok (.getfield 28, 3) := by decide +kernel
theorem dX7_copyFrom_32 : decode cX7_copyFrom 32 = .ok (.putfield 28, 3) := by decide +kernel
theorem dX7_copyFrom_35 : decode cX7_copyFrom 35 = .ok (.aload_n 0, 1) := by decide +kernel
theorem dX7_copyFrom_36 : decode cX7_copyFrom 36 = .ok (.aload_n 1, 1) := by decide +kernel
theorem dX7_copyFrom_37 : decode cX7_copyFrom 37 = .ok (.getfield 31, 3) := by decide +kernel
theorem dX7_copyFrom_40 : decode cX7_copyFrom 40 = .ok (.putfield 31, 3) := by decide +kernel
theorem dX7_copyFrom_43 : decode cX7_copyFrom 43 = .ok (.return_, 1) := by decide +kernel
theorem dX8_init_0 : decode cX8_init 0 = .ok (.aload_n 0, 1) := by decide +kernel
theorem dX8_init_1 : decode cX8_init 1 = .ok (.invokespecial 3, 3) := by decide +kernel
theorem dX8_init_4 : decode cX8_init 4 = .ok (.aload_n 0, 1) := by decide +kernel
theorem dX8_init_5 : decode cX8_init 5 = .ok (.new 9, 3) := by decide +kernel
theorem dX8_init_8 : decode cX8_init 8 = .ok (.dup, 1) := by decide +kernel
theorem dX8_init_9 : decode cX8_init 9 = .ok (.invokespecial 11, 3) := by decide +kernel
theorem dX8_init_12 : decode cX8_init 12 = .ok (.putfield 12, 3) := by decide +kernel
theorem dX8_init_15 : decode cX8_init 15 = .ok (.aload_n 0, 1) := by decide +kernel
theorem dX8_init_16 : decode cX8_init 16 = .ok (.new 18, 3) := by decide +kernel
theorem dX8_init_19 : decode cX8_init 19 = .ok (.dup, 1) := by decide +kernel
theorem dX8_init_20 : decode cX8_init 20 = .ok (.invokespecial 20, 3) := by decide +kernel
theorem dX8_init_23 : decode cX8_init 23 = .ok (.putfield 21, 3) := by decide +kernel
theorem dX8_init_26 : decode cX8_init 26 = .ok (.aload_n 0, 1) := by decide +kernel
theorem dX8_init_27 : decode cX8_init 27 = .ok (.new 25, 3) := by decide +kernel
theorem dX8_init_30 : decode cX8_init 30 = .ok (.dup, 1) := by decide +kernel
theorem dX8_init_31 : decode cX8_init 31 = .ok (.invokespecial 27, 3) := by decide +kernel
theorem dX8_init_34 : decode cX8_init 34 = .ok (.putfield 28, 3) := by decide +kernel
theorem dX8_init_37 : decode cX8_init 37 = .ok (.aload_n 0, 1) := by decide +kernel
theorem dX8_init_38 : decode cX8_init 38 = .ok (.iconst 2, 1) := by decide +kernel
theorem dX8_init_39 : decode cX8_init 39 = .ok (.anewarray 25, 3) := by decide +kernel
theorem dX8_init_42 : decode cX8_init 42 = .ok (.putfield 32, 3) := by decide +kernel
theorem dX8_init_45 : decode cX8_init 45 = .ok (.iconst 0, 1) := by decide +kernel
theorem dX8_init_46 : decode cX8_init 46 = .ok (.istore_n 1, 1) := by decide +kernel
theorem dX8_init_47 : decode cX8_init 47 = .ok (.iload_n 1, 1) := by decide +kernel
theorem dX8_init_48 : decode cX8_init 48 = .ok (.iconst 2, 1) := by decide +kernel
theorem dX8_init_49 : decode cX8_init 49 = .ok (.if_icmp .ge 22, 3) := by decide +kernel
theorem dX8_init_52 : decode cX8_init 52 = .ok (.aload_n 0, 1) := by decide +kernel
theorem dX8_init_53 : decode cX8_init 53 = .ok (.getfield 32, 3) := by decide +kernel
theorem dX8_init_56 : decode cX8_init 56 = .ok (.iload_n 1, 1) := by decide +kernel
theorem dX8_init_57 : decode cX8_init 57 = .ok (.new 25, 3) := by decide +kernel
theorem dX8_init_60 : decode cX8_init 60 = .ok (.dup, 1) := by decide +kernel
theorem dX8_init_61 : decode cX8_init 61 = .ok (.invokespecial 27, 3) := by decide +kernel
theorem dX8_init_64 : decode cX8_init 64 = .ok (.aastore, 1) := by decide +kernel
theorem dX8_init_65 : decode cX8_init 65 = .ok (.iinc 1 1, 3) := by decide +kernel
theorem dX8_init_68 : decode cX8_init 68 = .ok (.goto (-21), 3) := by decide +kernel
theorem dX8_init_71 : decode cX8_init 71 = .ok (.aload_n 0, 1) := by decide +kernel
theorem dX8_init_72 : decode cX8_init 72 = .ok (.new 36, 3) := by decide +kernel
theorem dX8_init_75 : decode cX8_init 75 = .ok (.dup, 1) := by decide +kernel
theorem dX8_init_76 : decode cX8_init 76 = .ok (.aload_n 0, 1) := by decide +kernel
theorem dX8_init_77 : decode cX8_init 77 = .ok (.getfield 21, 3) := by decide +kernel
theorem dX8_init_80 : decode cX8_init 80 = .ok (.invokespecial 38, 3) := by decide +kernel
theorem dX8_init_83 : decode cX8_init 83 = .ok (.putfield 41, 3) := by decide +kernel
theorem dX8_init_86 : decode cX8_init 86 = .ok (.aload_n 0, 1) := by decide +kernel
theorem dX8_init_87 : decode cX8_init 87 = .ok (.new 45, 3) := by decide +kernel
theorem dX8_init_90 : decode cX8_init 90 = .ok (.dup, 1) := by decide +kernel
theorem dX8_init_91 : decode cX8_init 91 = .ok (.aload_n 0, 1) := by decide +kernel
theorem dX8_init_92 : decode cX8_init 92 = .ok (.getfield 21, 3) := by decide +kernel
theorem dX8_init_95 : decode cX8_init 95 = .ok (.aload_n 0, 1) := by decide +kernel
theorem dX8_init_96 : decode cX8_init 96 = .ok (.getfield 28, 3) := by decide +kernel
theorem dX8_init_99 : decode cX8_init 99 = .ok (.invokespecial 47, 3) := by decide +kernel
theorem dX8_init_102 : decode cX8_init 102 = .ok (.putfield 50, 3) := by decide +kernel
theorem dX8_init_105 : decode cX8_init 105 = .ok (.aload_n 0, 1) := by decide +kernel
theorem dX8_init_106 : decode cX8_init 106 = .ok (.new 54, 3) := by decide +kernel
theorem dX8_init_109 : decode cX8_init 109 = .ok (.dup, 1) := by decide +kernel
theorem dX8_init_110 : decode cX8_init 110 = .ok (.aload_n 0, 1) := by decide +kernel
theorem dX8_init_111 : decode cX8_init 111 = .ok (.getfield 21, 3) := by decide +kernel
theorem dX8_init_114 : decode cX8_init 114 = .ok (.invokespecial 56, 3) := by decide +kernel
theorem dX8_init_117 : decode cX8_init 117 = .ok (.putfield 57, 3) := by decide +kernel
theorem dX8_init_120 : decode cX8_init 120 = .ok (.aload_n 0, 1) := by decide +kernel
theorem dX8_init_121 : decode cX8_init 121 = .ok (.new 61, 3) := by decide +kernel
theorem dX8_init_124 : decode cX8_init 124 = .ok (.dup, 1) := by decide +kernel
theorem dX8_init_125 : decode cX8_init 125 = .ok (.aload_n 0, 1) := by decide +kernel
theorem dX8_init_126 : decode cX8_init 126 = .ok (.getfield 21, 3) := by decide +kernel
theorem dX8_init_129 : decode cX8_init 129 = .ok (.aload_n 0, 1) := by decide +kernel
theorem dX8_init_130 : decode cX8_init 130 = .ok (.getfield 28, 3) := by decide +kernel
theorem dX8_init_133 : decode cX8_init 133 = .ok (.aload_n 0, 1) := by decide +kernel
theorem dX8_init_134 : decode cX8_init 134 = .ok (.getfield 41, 3) := by decide +kernel
theorem dX8_init_137 : decode cX8_init 137 = .ok (.invokespecial 63, 3) := by decide +kernel
theorem dX8_init_140 : decode cX8_init 140 = .ok (.putfield 66, 3) := by decide +kernel
theorem dX8_init_143 : decode cX8_init 143 = .ok (.aload_n 0, 1) := by decide +kernel
theorem dX8_init_144 : decode cX8_init 144 = .ok (.new 70, 3) := by decide +kernel
theorem dX8_init_147 : decode cX8_init 147 = .ok (.dup, 1) := by decide +kernel
theorem dX8_init_148 : decode cX8_init 148 = .ok (.invokespecial 72, 3) := by decide +kernel
theorem dX8_init_151 : decode cX8_init 151 = .ok (.putfield 73, 3) := by decide +kernel
theorem dX8_init_154 : decode cX8_init 154 = .ok (.iconst 0, 1) := by decide +kernel
theorem dX8_init_155 : decode cX8_init 155 = .ok (.istore_n 1, 1) := by decide +kernel
theorem dX8_init_156 : decode cX8_init 156 = .ok (.iload_n 1, 1) := by decide +kernel
theorem dX8_init_157 : decode cX8_init 157 = .ok (.ldc 77, 2) := by decide +kernel
theorem dX8_init_159 : decode cX8_init 159 = .ok (.invokevirtual 79, 3) := by decide +kernel
theorem dX8_init_162 : decode cX8_init 162 = .ok (.if_icmp .ge 23, 3) := by decide +kernel
theorem dX8_init_165 : decode cX8_init 165 = .ok (.aload_n 0, 1) := by decide +kernel
theorem dX8_init_166 : decode cX8_init 166 = .ok (.getfield 12, 3) := by decide +kernel
theorem dX8_init_169 : decode cX8_init 169 = .ok (.ldc 77, 2) := by decide +kernel
theorem dX8_init_171 : decode cX8_init 171 = .ok (.iload_n 1, 1) := by decide +kernel
theorem dX8_init_172 : decode cX8_init 172 = .ok (.invokevirtual 85, 3) := by decide +kernel
theorem dX8_init_175 : decode cX8_init 175 = .ok (.i2b, 1) := by decide +kernel
theorem dX8_init_176 : decode cX8_init 176 = .ok (.invokevirtual 89, 3) := by decide +kernel
theorem dX8_init_179 : decode cX8_init 179 = .ok (.iinc 1 1, 3) := by decide +kernel
theorem dX8_init_182 : decode cX8_init 182 = .ok (.goto (-26), 3) := by decide +kernel
theorem dX8_init_185 : decode cX8_init 185 = .ok (.aload_n 0, 1) := by decide +kernel
theorem dX8_init_186 : decode cX8_init 186 = .ok (.invokevirtual 93, 3) := by decide +kernel
theorem dX8_init_189 : decode cX8_init 189 = .ok (.pop, 1) := by decide +kernel
theorem dX8_init_190 : decode cX8_init 190 = .ok (.aload_n 0, 1) := by decide +kernel
theorem dX8_init_191 : decode cX8_init 191 = .ok (.getfield 12, 3) := by decide +kernel
theorem dX8_init_194 : decode cX8_init 194 = .ok (.invokevirtual 96, 3) := by decide +kernel
theorem dX8_init_197 : decode cX8_init 197 = .ok (.return_, 1) := by decide +kernel
theorem dX8_write_0 : decode cX8_write 0 = .ok (.iload_n 1, 1) := by decide +kernel
theorem dX8_write_1 : decode cX8_write 1 = .ok (.iconst 1, 1) := by decide +kernel
theorem dX8_write_2 : decode cX8_write 2 = .ok (.if_icmp .lt 9, 3) := by decide +kernel
theorem dX8_write_5 : decode cX8_write 5 = .ok (.iload_n 1, 1) := by decide +kernel
theorem dX8_write_6 : decode cX8_write 6 = .ok (.bipush 8, 2) := by decide +kernel
theorem dX8_write_8 : decode cX8_write 8 = .ok (.if_icmp .le 5, 3) := by decide +kernel
theorem dX8_write_11 : decode cX8_write 11 = .ok (.iconst (-1), 1) := by decide +kernel
theorem dX8_write_12 : decode cX8_write 12 = .ok (.ireturn, 1) := by decide +kernel
theorem dX8_write_13 : decode cX8_write 13 = .ok (.aload_n 0, 1) := by decide +kernel
theorem dX8_write_14 : decode cX8_write 14 = .ok (.getfield 12, 3) := by decide +kernel
theorem dX8_write_17 : decode cX8_write 17 = .ok (.getfield 99, 3) := by decide +kernel
theorem dX8_write_20 : decode cX8_write 20 = .ok (.iload_n 1, 1) := by decide +kernel
theorem dX8_write_21 : decode cX8_write 21 = .ok (.iadd, 1) := by decide +kernel
theorem dX8_write_22 : decode cX8_write 22 = .ok (.sipush 500, 3) := by decide +kernel
theorem dX8_write_25 : decode cX8_write 25 = .ok (.if_icmp .le 6, 3) := by decide +kernel
theorem dX8_write_28 : decode cX8_write 28 = .ok (.bipush (-3), 2) := by decide +kernel
theorem dX8_write_30 : decode cX8_write 30 = .ok (.ireturn, 1) := by decide +kernel
theorem dX8_write_31 : decode cX8_write 31 = .ok (.iload_n 1, 1) := by decide +kernel
theorem dX8_write_32 : decode cX8_write 32 = .ok (.iconst 1, 1) := by decide +kernel
theorem dX8_write_33 : decode cX8_write 33 = .ok (.isub, 1) := by decide +kernel
theorem dX8_write_34 : decode cX8_write 34 = .ok (.istore 4, 2) := by decide +kernel
theorem dX8_write_36 : decode cX8_write 36 = .ok (.iload 4, 2) := by decide +kernel
theorem dX8_write_38 : decode cX8_write 38 = .ok (.ifCond .lt 25, 3) := by decide +kernel
theorem dX8_write_41 : decode cX8_write 41 = .ok (.aload_n 0, 1) := by decide +kernel
theorem dX8_write_42 : decode cX8_write 42 = .ok (.getfield 12, 3) := by decide +kernel
theorem dX8_write_45 : decode cX8_write 45 = .ok (.lload_n 2, 1) := by decide +kernel
theorem dX8_write_46 : decode cX8_write 46 = .ok (.bipush 8, 2) := by decide +kernel
theorem dX8_write_48 : decode cX8_write 48 = .ok (.iload 4, 2) := by decide +kernel
theorem dX8_write_50 : decode cX8_write 50 = .ok (.imul, 1) := by decide +kernel
theorem dX8_write_51 : decode cX8_write 51 = .ok (.lushr, 1) := by decide +kernel
theorem dX8_write_52 : decode cX8_write 52 = .ok (.l2i, 1) := by decide +kernel
theorem dX8_write_53 : decode cX8_write 53 = .ok (.i2b, 1) := by decide +kernel
theorem dX8_write_54 : decode cX8_write 54 = .ok (.invokevirtual 89, 3) := by decide +kernel
theorem dX8_write_57 : decode cX8_write 57 = .ok (.iinc 4 (-1), 3) := by decide +kernel
theorem dX8_write_60 : decode cX8_write 60 = .ok (.goto (-24), 3) := by decide +kernel
theorem dX8_write_63 : decode cX8_write 63 = .ok (.aload_n 0, 1) := by decide +kernel
theorem dX8_write_64 : decode cX8_write 64 = .ok (.getfield 12, 3) := by decide +kernel
theorem dX8_write_67 : decode cX8_write 67 = .ok (.getfield 99, 3) := by decide +kernel
theorem dX8_write_70 : decode cX8_write 70 = .ok (.ireturn, 1) := by decide +kernel
theorem dX8_wipe_0 : decode cX8_wipe 0 = .ok (.aload_n 0, 1) := by decide +kernel
theorem dX8_wipe_1 : decode cX8_wipe 1 = .ok (.getfield 12, 3) := by decide +kernel
theorem dX8_wipe_4 : decode cX8_wipe 4 = .ok (.getfield 99, 3) := by decide +kernel
theorem dX8_wipe_7 : decode cX8_wipe 7 = .ok (.istore_n 1, 1) := by decide +kernel
theorem dX8_wipe_8 : decode cX8_wipe 8 = .ok (.aload_n 0, 1) := by decide +kernel
theorem dX8_wipe_9 : decode cX8_wipe 9 = .ok (.getfield 12, 3) := by decide +kernel
theorem dX8_wipe_12 : decode cX8_wipe 12 = .ok (.invokevirtual 96, 3) := by decide +kernel
theorem dX8_wipe_15 : decode cX8_wipe 15 = .ok (.iload_n 1, 1) := by decide +kernel
theorem dX8_wipe_16 : decode cX8_wipe 16 = .ok (.ireturn, 1) := by decide +kernel
theorem dX8_fault_0 : decode cX8_fault 0 = .ok (.aload_n 0, 1) := by decide +kernel
theorem dX8_fault_1 : decode cX8_fault 1 = .ok (.getfield 12, 3) := by decide +kernel
theorem dX8_fault_4 : decode cX8_fault 4 = .ok (.invokevirtual 102, 3) := by decide +kernel
theorem dX8_fault_7 : decode cX8_fault 7 = .ok (.ireturn, 1) := by decide +kernel
theorem dX8_lay_0 : decode cX8_lay 0 = .ok (.aload_n 0, 1) := by decide +kernel
theorem dX8_lay_1 : decode cX8_lay 1 = .ok (.getfield 12, 3) := by decide +kernel
theorem dX8_lay_4 : decode cX8_lay 4 = .ok (.invokevirtual 102, 3) := by decide +kernel
theorem dX8_lay_7 : decode cX8_lay 7 = .ok (.bipush (-4), 2) := by decide +kernel
theorem dX8_lay_9 : decode cX8_lay 9 = .ok (.if_icmp .ne 13, 3) := by decide +kernel
theorem dX8_lay_12 : decode cX8_lay 12 = .ok (.aload_n 0, 1) := by decide +kernel
theorem dX8_lay_13 : decode cX8_lay 13 = .ok (.getfield 12, 3) := by decide +kernel
theorem dX8_lay_16 : decode cX8_lay 16 = .ok (.invokevirtual 105, 3) := by decide +kernel
theorem dX8_lay_19 : decode cX8_lay 19 = .ok (.ifCond .ne 6, 3) := by decide +kernel
theorem dX8_lay_22 : decode cX8_lay 22 = .ok (.bipush (-2), 2) := by decide +kernel
theorem dX8_lay_24 : decode cX8_lay 24 = .ok (.ireturn, 1) := by decide +kernel
theorem dX8_lay_25 : decode cX8_lay 25 = .ok (.aload_n 0, 1) := by decide +kernel
theorem dX8_lay_26 : decode cX8_lay 26 = .ok (.getfield 21, 3) := by decide +kernel
theorem dX8_lay_29 : decode cX8_lay 29 = .ok (.invokevirtual 109, 3) := by decide +kernel
theorem dX8_lay_32 : decode cX8_lay 32 = .ok (.aload_n 0, 1) := by decide +kernel
theorem dX8_lay_33 : decode cX8_lay 33 = .ok (.getfield 12, 3) := by decide +kernel
theorem dX8_lay_36 : decode cX8_lay 36 = .ok (.aload_n 0, 1) := by decide +kernel
theorem dX8_lay_37 : decode cX8_lay 37 = .ok (.getfield 21, 3) := by decide +kernel
theorem dX8_lay_40 : decode cX8_lay 40 = .ok (.invokevirtual 110, 3) := by decide +kernel
theorem dX8_lay_43 : decode cX8_lay 43 = .ok (.aload_n 0, 1) := by decide +kernel
theorem dX8_lay_44 : decode cX8_lay 44 = .ok (.getfield 21, 3) := by decide +kernel
theorem dX8_lay_47 : decode cX8_lay 47 = .ok (.invokevirtual 113, 3) := by decide +kernel
theorem dX8_lay_50 : decode cX8_lay 50 = .ok (.aload_n 0, 1) := by decide +kernel
theorem dX8_lay_51 : decode cX8_lay 51 = .ok (.getfield 28, 3) := by decide +kernel
theorem dX8_lay_54 : decode cX8_lay 54 = .ok (.aload_n 0, 1) := by decide +kernel
theorem dX8_lay_55 : decode cX8_lay 55 = .ok (.getfield 21, 3) := by decide +kernel
theorem dX8_lay_58 : decode cX8_lay 58 = .ok (.invokevirtual 116, 3) := by decide +kernel
theorem dX8_lay_61 : decode cX8_lay 61 = .ok (.invokevirtual 119, 3) := by decide +kernel
theorem dX8_lay_64 : decode cX8_lay 64 = .ok (.aload_n 0, 1) := by decide +kernel
theorem dX8_lay_65 : decode cX8_lay 65 = .ok (.iconst 0, 1) := by decide +kernel
theorem dX8_lay_66 : decode cX8_lay 66 = .ok (.putfield 123, 3) := by decide +kernel
theorem dX8_lay_69 : decode cX8_lay 69 = .ok (.aload_n 0, 1) := by decide +kernel
theorem dX8_lay_70 : decode cX8_lay 70 = .ok (.getfield 21, 3) := by decide +kernel
theorem dX8_lay_73 : decode cX8_lay 73 = .ok (.getfield 126, 3) := by decide +kernel
theorem dX8_lay_76 : decode cX8_lay 76 = .ok (.ireturn, 1) := by decide +kernel
theorem dX8_storm_0 : decode cX8_storm 0 = .ok (.aload_n 0, 1) := by decide +kernel
theorem dX8_storm_1 : decode cX8_storm 1 = .ok (.getfield 21, 3) := by decide +kernel
theorem dX8_storm_4 : decode cX8_storm 4 = .ok (.iload_n 1, 1) := by decide +kernel
theorem dX8_storm_5 : decode cX8_storm 5 = .ok (.invokevirtual 129, 3) := by decide +kernel
theorem dX8_storm_8 : decode cX8_storm 8 = .ok (.ifCond .eq 19, 3) := by decide +kernel
theorem dX8_storm_11 : decode cX8_storm 11 = .ok (.iload_n 2, 1) := by decide +kernel
theorem dX8_storm_12 : decode cX8_storm 12 = .ok (.invokestatic 133, 3) := by decide +kernel
theorem dX8_storm_15 : decode cX8_storm 15 = .ok (.ifCond .eq 12, 3) := by decide +kernel
theorem dX8_storm_18 : decode cX8_storm 18 = .ok (.iload_n 3, 1) := by decide +kernel
theorem dX8_storm_19 : decode cX8_storm 19 = .ok (.ifCond .lt 8, 3) := by decide +kernel
theorem dX8_storm_22 : decode cX8_storm 22 = .ok (.iload_n 3, 1) := by decide +kernel
theorem dX8_storm_23 : decode cX8_storm 23 = .ok (.iconst 1, 1) := by decide +kernel
theorem dX8_storm_24 : decode cX8_storm 24 = .ok (.if_icmp .le 5, 3) := by decide +kernel
theorem dX8_storm_27 : decode cX8_storm 27 = .ok (.iconst (-1), 1) := by decide +kernel
theorem dX8_storm_28 : decode cX8_storm 28 = .ok (.ireturn, 1) := by decide +kernel
theorem dX8_storm_29 : decode cX8_storm 29 = .ok (.iload_n 3, 1) := by decide +kernel
theorem dX8_storm_30 : decode cX8_storm 30 = .ok (.ifCond .ne 17, 3) := by decide +kernel
theorem dX8_storm_33 : decode cX8_storm 33 = .ok (.aload_n 0, 1) := by decide +kernel
theorem dX8_storm_34 : decode cX8_storm 34 = .ok (.getfield 21, 3) := by decide +kernel
theorem dX8_storm_37 : decode cX8_storm 37 = .ok (.getfield 136, 3) := by decide +kernel
theorem dX8_storm_40 : decode cX8_storm 40 = .ok (.iload_n 1, 1) := by decide +kernel
theorem dX8_storm_41 : decode cX8_storm 41 = .ok (.aaload, 1) := by decide +kernel
theorem dX8_storm_42 : decode cX8_storm 42 = .ok (.iload_n 2, 1) := by decide +kernel
theorem dX8_storm_43 : decode cX8_storm 43 = .ok (.iaload, 1) := by decide +kernel
theorem dX8_storm_44 : decode cX8_storm 44 = .ok (.goto 14, 3) := by decide +kernel
theorem dX8_storm_47 : decode cX8_storm 47 = .ok (.aload_n 0, 1) := by decide +kernel
theorem dX8_storm_48 : decode cX8_storm 48 = .ok (.getfield 21, 3) := by decide +kernel
theorem dX8_storm_51 : decode cX8_storm 51 = .ok (.getfield 140, 3) := by decide +kernel
theorem dX8_storm_54 : decode cX8_storm 54 = .ok (.iload_n 1, 1) := by decide +kernel
theorem dX8_storm_55 : decode cX8_storm 55 = .ok (.aaload, 1) := by decide +kernel
theorem dX8_storm_56 : decode cX8_storm 56 = .ok (.iload_n 2, 1) := by decide +kernel
theorem dX8_storm_57 : decode cX8_storm 57 = .ok (.iaload, 1) := by decide +kernel
theorem dX8_storm_58 : decode cX8_storm 58 = .ok (.ireturn, 1) := by decide +kernel
theorem dX8_open_0 : decode cX8_open 0 = .ok (.aload_n 0, 1) := by decide +kernel
theorem dX8_open_1 : decode cX8_open 1 = .ok (.getfield 21, 3) := by decide +kernel
theorem dX8_open_4 : decode cX8_open 4 = .ok (.iload_n 1, 1) := by decide +kernel
theorem dX8_open_5 : decode cX8_open 5 = .ok (.invokevirtual 143, 3) := by decide +kernel
theorem dX8_open_8 : decode cX8_open 8 = .ok (.ifCond .eq 21, 3) := by decide +kernel
theorem dX8_open_11 : decode cX8_open 11 = .ok (.aload_n 0, 1) := by decide +kernel
theorem dX8_open_12 : decode cX8_open 12 = .ok (.getfield 21, 3) := by decide +kernel
theorem dX8_open_15 : decode cX8_open 15 = .ok (.iload_n 2, 1) := by decide +kernel
theorem dX8_open_16 : decode cX8_open 16 = .ok (.invokevirtual 129, 3) := by decide +kernel
theorem dX8_open_19 : decode cX8_open 19 = .ok (.ifCond .eq 10, 3) := by decide +kernel
theorem dX8_open_22 : decode cX8_open 22 = .ok (.iload_n 3, 1) := by decide +kernel
theorem dX8_open_23 : decode cX8_open 23 = .ok (.invokestatic 133, 3) := by decide +kernel
theorem dX8_open_26 : decode cX8_open 26 = .ok (.ifCond .ne 5, 3) := by decide +kernel
theorem dX8_open_29 : decode cX8_open 29 = .ok (.iconst (-1), 1) := by decide +kernel
theorem dX8_open_30 : decode cX8_open 30 = .ok (.ireturn, 1) := by decide +kernel
theorem dX8_open_31 : decode cX8_open 31 = .ok (.aload_n 0, 1) := by decide +kernel
theorem dX8_open_32 : decode cX8_open 32 = .ok (.getfield 21, 3) := by decide +kernel
theorem dX8_open_35 : decode cX8_open 35 = .ok (.iload_n 1, 1) := by decide +kernel
theorem dX8_open_36 : decode cX8_open 36 = .ok (.iload_n 2, 1) := by decide +kernel
theorem dX8_open_37 : decode cX8_open 37 = .ok (.iload_n 3, 1) := by decide +kernel
theorem dX8_open_38 : decode cX8_open 38 = .ok (.invokevirtual 146, 3) := by decide +kernel
theorem dX8_open_41 : decode cX8_open 41 = .ok (.ifCond .eq 7, 3) := by decide +kernel
theorem dX8_open_44 : decode cX8_open 44 = .ok (.iconst 1, 1) := by decide +kernel
theorem dX8_open_45 : decode cX8_open 45 = .ok (.goto 4, 3) := by decide +kernel
theorem dX8_open_48 : decode cX8_open 48 = .ok (.iconst 0, 1) := by decide +kernel
theorem dX8_open_49 : decode cX8_open 49 = .ok (.ireturn, 1) := by decide +kernel
theorem dX8_risk_0 : decode cX8_risk 0 = .ok (.aload_n 0, 1) := by decide +kernel
theorem dX8_risk_1 : decode cX8_risk 1 = .ok (.getfield 21, 3) := by decide +kernel
theorem dX8_risk_4 : decode cX8_risk 4 = .ok (.iload_n 1, 1) := by decide +kernel
theorem dX8_risk_5 : decode cX8_risk 5 = .ok (.invokevirtual 150, 3) := by decide +kernel
theorem dX8_risk_8 : decode cX8_risk 8 = .ok (.ifCond .eq 21, 3) := by decide +kernel
theorem dX8_risk_11 : decode cX8_risk 11 = .ok (.aload_n 0, 1) := by decide +kernel
theorem dX8_risk_12 : decode cX8_risk 12 = .ok (.getfield 21, 3) := by decide +kernel
theorem dX8_risk_15 : decode cX8_risk 15 = .ok (.iload_n 2, 1) := by decide +kernel
theorem dX8_risk_16 : decode cX8_risk 16 = .ok (.invokevirtual 129, 3) := by decide +kernel
theorem dX8_risk_19 : decode cX8_risk 19 = .ok (.ifCond .eq 10, 3) := by decide +kernel
theorem dX8_risk_22 : decode cX8_risk 22 = .ok (.iload_n 3, 1) := by decide +kernel
theorem dX8_risk_23 : decode cX8_risk 23 = .ok (.invokestatic 133, 3) := by decide +kernel
theorem dX8_risk_26 : decode cX8_risk 26 = .ok (.ifCond .ne 5, 3) := by decide +kernel
theorem dX8_risk_29 : decode cX8_risk 29 = .ok (.iconst (-1), 1) := by decide +kernel
theorem dX8_risk_30 : decode cX8_risk 30 = .ok (.ireturn, 1) := by decide +kernel
theorem dX8_risk_31 : decode cX8_risk 31 = .ok (.aload_n 0, 1) := by decide +kernel
theorem dX8_risk_32 : decode cX8_risk 32 = .ok (.getfield 21, 3) := by decide +kernel
theorem dX8_risk_35 : decode cX8_risk 35 = .ok (.iload_n 1, 1) := by decide +kernel
theorem dX8_risk_36 : decode cX8_risk 36 = .ok (.iload_n 2, 1) := by decide +kernel
theorem dX8_risk_37 : decode cX8_risk 37 = .ok (.iload_n 3, 1) := by decide +kernel
theorem dX8_risk_38 : decode cX8_risk 38 = .ok (.invokevirtual 153, 3) := by decide +kernel
theorem dX8_risk_41 : decode cX8_risk 41 = .ok (.ireturn, 1) := by decide +kernel
theorem dX8_reach_0 : decode cX8_reach 0 = .ok (.aload_n 0, 1) := by decide +kernel
theorem dX8_reach_1 : decode cX8_reach 1 = .ok (.getfield 21, 3) := by decide +kernel
theorem dX8_reach_4 : decode cX8_reach 4 = .ok (.iload_n 1, 1) := by decide +kernel
theorem dX8_reach_5 : decode cX8_reach 5 = .ok (.invokevirtual 150, 3) := by decide +kernel
theorem dX8_reach_8 : decode cX8_reach 8 = .ok (.ifCond .eq 33, 3) := by decide +kernel
theorem dX8_reach_11 : decode cX8_reach 11 = .ok (.aload_n 0, 1) := by decide +kernel
theorem dX8_reach_12 : decode cX8_reach 12 = .ok (.getfield 21, 3) := by decide +kernel
theorem dX8_reach_15 : decode cX8_reach 15 = .ok (.iload_n 2, 1) := by decide +kernel
theorem dX8_reach_16 : decode cX8_reach 16 = .ok (.invokevirtual 143, 3) := by decide +kernel
theorem dX8_reach_19 : decode cX8_reach 19 = .ok (.ifCond .eq 22, 3) := by decide +kernel
theorem dX8_reach_22 : decode cX8_reach 22 = .ok (.aload_n 0, 1) := by decide +kernel
theorem dX8_reach_23 : decode cX8_reach 23 = .ok (.getfield 21, 3) := by decide +kernel
theorem dX8_reach_26 : decode cX8_reach 26 = .ok (.iload_n 3, 1) := by decide +kernel
theorem dX8_reach_27 : decode cX8_reach 27 = .ok (.invokevirtual 129, 3) := by decide +kernel
theorem dX8_reach_30 : decode cX8_reach 30 = .ok (.ifCond .eq 11, 3) := by decide +kernel
theorem dX8_reach_33 : decode cX8_reach 33 = .ok (.iload 4, 2) := by decide +kernel
theorem dX8_reach_35 : decode cX8_reach 35 = .ok (.invokestatic 133, 3) := by decide +kernel
theorem dX8_reach_38 : decode cX8_reach 38 = .ok (.ifCond .ne 5, 3) := by decide +kernel
theorem dX8_reach_41 : decode cX8_reach 41 = .ok (.iconst (-1), 1) := by decide +kernel
theorem dX8_reach_42 : decode cX8_reach 42 = .ok (.ireturn, 1) := by decide +kernel
theorem dX8_reach_43 : decode cX8_reach 43 = .ok (.aload_n 0, 1) := by decide +kernel
theorem dX8_reach_44 : decode cX8_reach 44 = .ok (.getfield 21, 3) := by decide +kernel
theorem dX8_reach_47 : decode cX8_reach 47 = .ok (.iload_n 1, 1) := by decide +kernel
theorem dX8_reach_48 : decode cX8_reach 48 = .ok (.iload_n 2, 1) := by decide +kernel
theorem dX8_reach_49 : decode cX8_reach 49 = .ok (.iload_n 3, 1) := by decide +kernel
theorem dX8_reach_50 : decode cX8_reach 50 = .ok (.iload 4, 2) := by decide +kernel
theorem dX8_reach_52 : decode cX8_reach 52 = .ok (.invokevirtual 157, 3) := by decide +kernel
theorem dX8_reach_55 : decode cX8_reach 55 = .ok (.istore 5, 2) := by decide +kernel
theorem dX8_reach_57 : decode cX8_reach 57 = .ok (.iload 5, 2) := by decide +kernel
theorem dX8_reach_59 : decode cX8_reach 59 = .ok (.bipush 24, 2) := by decide +kernel
theorem dX8_reach_61 : decode cX8_reach 61 = .ok (.if_icmp .ge 8, 3) := by decide +kernel
theorem dX8_reach_64 : decode cX8_reach 64 = .ok (.iload 5, 2) := by decide +kernel
theorem dX8_reach_66 : decode cX8_reach 66 = .ok (.goto 5, 3) := by decide +kernel
theorem dX8_reach_69 : decode cX8_reach 69 = .ok (.bipush (-4), 2) := by decide +kernel
theorem dX8_reach_71 : decode cX8_reach 71 = .ok (.ireturn, 1) := by decide +kernel
theorem dX8_plan_0 : decode cX8_plan 0 = .ok (.aload_n 0, 1) := by decide +kernel
theorem dX8_plan_1 : decode cX8_plan 1 = .ok (.getfield 21, 3) := by decide +kernel
theorem dX8_plan_4 : decode cX8_plan 4 = .ok (.iload_n 1, 1) := by decide +kernel
theorem dX8_plan_5 : decode cX8_plan 5 = .ok (.invokevirtual 150, 3) := by decide +kernel
theorem dX8_plan_8 : decode cX8_plan 8 = .ok (.ifCond .eq 21, 3) := by decide +kernel
theorem dX8_plan_11 : decode cX8_plan 11 = .ok (.iload_n 2, 1) := by decide +kernel
theorem dX8_plan_12 : decode cX8_plan 12 = .ok (.invokestatic 161, 3) := by decide +kernel
theorem dX8_plan_15 : decode cX8_plan 15 = .ok (.ifCond .eq 14, 3) := by decide +kernel
theorem dX8_plan_18 : decode cX8_plan 18 = .ok (.aload_n 0, 1) := by decide +kernel
theorem dX8_plan_19 : decode cX8_plan 19 = .ok (.getfield 21, 3) := by decide +kernel
theorem dX8_plan_22 : decode cX8_plan 22 = .ok (.iload_n 3, 1) := by decide +kernel
theorem dX8_plan_23 : decode cX8_plan 23 = .ok (.invokevirtual 143, 3) := by decide +kernel
theorem dX8_plan_26 : decode cX8_plan 26 = .ok (.ifCond .ne 5, 3) := by decide +kernel
theorem dX8_plan_29 : decode cX8_plan 29 = .ok (.iconst (-1), 1) := by decide +kernel
theorem dX8_plan_30 : decode cX8_plan 30 = .ok (.ireturn, 1) := by decide +kernel
theorem dX8_plan_31 : decode cX8_plan 31 = .ok (.aload_n 0, 1) := by decide +kernel
theorem dX8_plan_32 : decode cX8_plan 32 = .ok (.getfield 28, 3) := by decide +kernel
theorem dX8_plan_35 : decode cX8_plan 35 = .ok (.getfield 164, 3) := by decide +kernel
theorem dX8_plan_38 : decode cX8_plan 38 = .ok (.iload_n 1, 1) := by decide +kernel
theorem dX8_plan_39 : decode cX8_plan 39 = .ok (.invokevirtual 167, 3) := by decide +kernel
theorem dX8_plan_42 : decode cX8_plan 42 = .ok (.istore 4, 2) := by decide +kernel
theorem dX8_plan_44 : decode cX8_plan 44 = .ok (.aload_n 0, 1) := by decide +kernel
theorem dX8_plan_45 : decode cX8_plan 45 = .ok (.getfield 28, 3) := by decide +kernel
theorem dX8_plan_48 : decode cX8_plan 48 = .ok (.getfield 164, 3) := by decide +kernel
theorem dX8_plan_51 : decode cX8_plan 51 = .ok (.iload_n 1, 1) := by decide +kernel
theorem dX8_plan_52 : decode cX8_plan 52 = .ok (.iload_n 2, 1) := by decide +kernel
theorem dX8_plan_53 : decode cX8_plan 53 = .ok (.iload_n 3, 1) := by decide +kernel
theorem dX8_plan_54 : decode cX8_plan 54 = .ok (.invokevirtual 171, 3) := by decide +kernel
theorem dX8_plan_57 : decode cX8_plan 57 = .ok (.iload 4, 2) := by decide +kernel
theorem dX8_plan_59 : decode cX8_plan 59 = .ok (.ireturn, 1) := by decide +kernel
theorem dX8_value_0 : decode cX8_value 0 = .ok (.aload_n 0, 1) := by decide +kernel
theorem dX8_value_1 : decode cX8_value 1 = .ok (.getfield 21, 3) := by decide +kernel
theorem dX8_value_4 : decode cX8_value 4 = .ok (.iload_n 1, 1) := by decide +kernel
theorem dX8_value_5 : decode cX8_value 5 = .ok (.invokevirtual 129, 3) := by decide +kernel
theorem dX8_value_8 : decode cX8_value 8 = .ok (.ifCond .ne 7, 3) := by decide +kernel
theorem dX8_value_11 : decode cX8_value 11 = .ok (.ldc2_w 175, 3) := by decide +kernel
theorem dX8_value_14 : decode cX8_value 14 = .ok (.lreturn, 1) := by decide +kernel
theorem dX8_value_15 : decode cX8_value 15 = .ok (.aload_n 0, 1) := by decide +kernel
theorem dX8_value_16 : decode cX8_value 16 = .ok (.getfield 41, 3) := by decide +kernel
theorem dX8_value_19 : decode cX8_value 19 = .ok (.invokevirtual 177, 3) := by decide +kernel
theorem dX8_value_22 : decode cX8_value 22 = .ok (.aload_n 0, 1) := by decide +kernel
theorem dX8_value_23 : decode cX8_value 23 = .ok (.getfield 41, 3) := by decide +kernel
theorem dX8_value_26 : decode cX8_value 26 = .ok (.iload_n 1, 1) := by decide +kernel
theorem dX8_value_27 : decode cX8_value 27 = .ok (.aload_n 0, 1) := by decide +kernel
theorem dX8_value_28 : decode cX8_value 28 = .ok (.getfield 28, 3) := by decide +kernel
theorem dX8_value_31 : decode cX8_value 31 = .ok (.getfield 164, 3) := by decide +kernel
theorem dX8_value_34 : decode cX8_value 34 = .ok (.aload_n 0, 1) := by decide +kernel
theorem dX8_value_35 : decode cX8_value 35 = .ok (.getfield 21, 3) := by decide +kernel
theorem dX8_value_38 : decode cX8_value 38 = .ok (.invokevirtual 180, 3) := by decide +kernel
theorem dX8_value_41 : decode cX8_value 41 = .ok (.invokevirtual 183, 3) := by decide +kernel
theorem dX8_value_44 : decode cX8_value 44 = .ok (.lreturn, 1) := by decide +kernel
theorem dX8_in_0 : decode cX8_in 0 = .ok (.aload_n 0, 1) := by decide +kernel
theorem dX8_in_1 : decode cX8_in 1 = .ok (.getfield 21, 3) := by decide +kernel
theorem dX8_in_4 : decode cX8_in 4 = .ok (.iload_n 1, 1) := by decide +kernel
theorem dX8_in_5 : decode cX8_in 5 = .ok (.invokevirtual 129, 3) := by decide +kernel
theorem dX8_in_8 : decode cX8_in 8 = .ok (.ifCond .eq 14, 3) := by decide +kernel
theorem dX8_in_11 : decode cX8_in 11 = .ok (.aload_n 0, 1) := by decide +kernel
theorem dX8_in_12 : decode cX8_in 12 = .ok (.getfield 21, 3) := by decide +kernel
theorem dX8_in_15 : decode cX8_in 15 = .ok (.iload_n 2, 1) := by decide +kernel
theorem dX8_in_16 : decode cX8_in 16 = .ok (.invokevirtual 150, 3) := by decide +kernel
theorem dX8_in_19 : decode cX8_in 19 = .ok (.ifCond .ne 5, 3) := by decide +kernel
theorem dX8_in_22 : decode cX8_in 22 = .ok (.iconst (-1), 1) := by decide +kernel
theorem dX8_in_23 : decode cX8_in 23 = .ok (.ireturn, 1) := by decide +kernel
theorem dX8_in_24 : decode cX8_in 24 = .ok (.aload_n 0, 1) := by decide +kernel
theorem dX8_in_25 : decode cX8_in 25 = .ok (.getfield 41, 3) := by decide +kernel
theorem dX8_in_28 : decode cX8_in 28 = .ok (.invokevirtual 177, 3) := by decide +kernel
theorem dX8_in_31 : decode cX8_in 31 = .ok (.aload_n 0, 1) := by decide +kernel
theorem dX8_in_32 : decode cX8_in 32 = .ok (.getfield 41, 3) := by decide +kernel
theorem dX8_in_35 : decode cX8_in 35 = .ok (.iload_n 1, 1) := by decide +kernel
theorem dX8_in_36 : decode cX8_in 36 = .ok (.aload_n 0, 1) := by decide +kernel
theorem dX8_in_37 : decode cX8_in 37 = .ok (.getfield 28, 3) := by decide +kernel
theorem dX8_in_40 : decode cX8_in 40 = .ok (.getfield 164, 3) := by decide +kernel
theorem dX8_in_43 : decode cX8_in 43 = .ok (.invokevirtual 187, 3) := by decide +kernel
theorem dX8_in_46 : decode cX8_in 46 = .ok (.aload_n 0, 1) := by decide +kernel
theorem dX8_in_47 : decode cX8_in 47 = .ok (.getfield 41, 3) := by decide +kernel
theorem dX8_in_50 : decode cX8_in 50 = .ok (.getfield 191, 3) := by decide +kernel
theorem dX8_in_53 : decode cX8_in 53 = .ok (.iload_n 2, 1) := by decide +kernel
theorem dX8_in_54 : decode cX8_in 54 = .ok (.iaload, 1) := by decide +kernel
theorem dX8_in_55 : decode cX8_in 55 = .ok (.ireturn, 1) := by decide +kernel
theorem dX8_lives_0 : decode cX8_lives 0 = .ok (.aload_n 0, 1) := by decide +kernel
theorem dX8_lives_1 : decode cX8_lives 1 = .ok (.getfield 21, 3) := by decide +kernel
theorem dX8_lives_4 : decode cX8_lives 4 = .ok (.iload_n 1, 1) := by decide +kernel
theorem dX8_lives_5 : decode cX8_lives 5 = .ok (.invokevirtual 129, 3) := by decide +kernel
theorem dX8_lives_8 : decode cX8_lives 8 = .ok (.ifCond .eq 33, 3) := by decide +kernel
theorem dX8_lives_11 : decode cX8_lives 11 = .ok (.aload_n 0, 1) := by decide +kernel
theorem dX8_lives_12 : decode cX8_lives 12 = .ok (.getfield 21, 3) := by decide +kernel
theorem dX8_lives_15 : decode cX8_lives 15 = .ok (.iload_n 2, 1) := by decide +kernel
theorem dX8_lives_16 : decode cX8_lives 16 = .ok (.invokevirtual 150, 3) := by decide +kernel
theorem dX8_lives_19 : decode cX8_lives 19 = .ok (.ifCond .eq 22, 3) := by decide +kernel
theorem dX8_lives_22 : decode cX8_lives 22 = .ok (.iload_n 3, 1) := by decide +kernel
theorem dX8_lives_23 : decode cX8_lives 23 = .ok (.ifCond .lt 18, 3) := by decide +kernel
theorem dX8_lives_26 : decode cX8_lives 26 = .ok (.iload_n 3, 1) := by decide +kernel
theorem dX8_lives_27 : decode cX8_lives 27 = .ok (.aload_n 0, 1) := by decide +kernel
theorem dX8_lives_28 : decode cX8_lives 28 = .ok (.getfield 21, 3) := by decide +kernel
theorem dX8_lives_31 : decode cX8_lives 31 = .ok (.getfield 195, 3) := by decide +kernel
theorem dX8_lives_34 : decode cX8_lives 34 = .ok (.iload_n 2, 1) := by decide +kernel
theorem dX8_lives_35 : decode cX8_lives 35 = .ok (.aaload, 1) := by decide +kernel
theorem dX8_lives_36 : decode cX8_lives 36 = .ok (.iconst 0, 1) := by decide +kernel
theorem dX8_lives_37 : decode cX8_lives 37 = .ok (.iaload, 1) := by decide +kernel
theorem dX8_lives_38 : decode cX8_lives 38 = .ok (.if_icmp .lt 5, 3) := by decide +kernel
theorem dX8_lives_41 : decode cX8_lives 41 = .ok (.iconst (-1), 1) := by decide +kernel
theorem dX8_lives_42 : decode cX8_lives 42 = .ok (.ireturn, 1) := by decide +kernel
theorem dX8_lives_43 : decode cX8_lives 43 = .ok (.aload_n 0, 1) := by decide +kernel
theorem dX8_lives_44 : decode cX8_lives 44 = .ok (.getfield 41, 3) := by decide +kernel
theorem dX8_lives_47 : decode cX8_lives 47 = .ok (.invokevirtual 177, 3) := by decide +kernel
theorem dX8_lives_50 : decode cX8_lives 50 = .ok (.aload_n 0, 1) := by decide +kernel
theorem dX8_lives_51 : decode cX8_lives 51 = .ok (.getfield 41, 3) := by decide +kernel
theorem dX8_lives_54 : decode cX8_lives 54 = .ok (.iload_n 1, 1) := by decide +kernel
theorem dX8_lives_55 : decode cX8_lives 55 = .ok (.aload_n 0, 1) := by decide +kernel
theorem dX8_lives_56 : decode cX8_lives 56 = .ok (.getfield 28, 3) := by decide +kernel
theorem dX8_lives_59 : decode cX8_lives 59 = .ok (.getfield 164, 3) := by decide +kernel
theorem dX8_lives_62 : decode cX8_lives 62 = .ok (.invokevirtual 187, 3) := by decide +kernel
theorem dX8_lives_65 : decode cX8_lives 65 = .ok (.aload_n 0, 1) := by decide +kernel
theorem dX8_lives_66 : decode cX8_lives 66 = .ok (.getfield 21, 3) := by decide +kernel
theorem dX8_lives_69 : decode cX8_lives 69 = .ok (.iload_n 1, 1) := by decide +kernel
theorem dX8_lives_70 : decode cX8_lives 70 = .ok (.iload_n 2, 1) := by decide +kernel
theorem dX8_lives_71 : decode cX8_lives 71 = .ok (.aload_n 0, 1) := by decide +kernel
theorem dX8_lives_72 : decode cX8_lives 72 = .ok (.getfield 41, 3) := by decide +kernel
theorem dX8_lives_75 : decode cX8_lives 75 = .ok (.getfield 198, 3) := by decide +kernel
theorem dX8_lives_78 : decode cX8_lives 78 = .ok (.iload_n 2, 1) := by decide +kernel
theorem dX8_lives_79 : decode cX8_lives 79 = .ok (.aaload, 1) := by decide +kernel
theorem dX8_lives_80 : decode cX8_lives 80 = .ok (.iload_n 3, 1) := by decide +kernel
theorem dX8_lives_81 : decode cX8_lives 81 = .ok (.iaload, 1) := by decide +kernel
theorem dX8_lives_82 : decode cX8_lives 82 = .ok (.invokevirtual 201, 3) := by decide +kernel
theorem dX8_lives_85 : decode cX8_lives 85 = .ok (.ireturn, 1) := by decide +kernel
theorem dX8_mean_0 : decode cX8_mean 0 = .ok (.aload_n 0, 1) := by decide +kernel
theorem dX8_mean_1 : decode cX8_mean 1 = .ok (.getfield 41, 3) := by decide +kernel
theorem dX8_mean_4 : decode cX8_mean 4 = .ok (.invokevirtual 177, 3) := by decide +kernel
theorem dX8_mean_7 : decode cX8_mean 7 = .ok (.aload_n 0, 1) := by decide +kernel
theorem dX8_mean_8 : decode cX8_mean 8 = .ok (.getfield 41, 3) := by decide +kernel
theorem dX8_mean_11 : decode cX8_mean 11 = .ok (.aload_n 0, 1) := by decide +kernel
theorem dX8_mean_12 : decode cX8_mean 12 = .ok (.getfield 28, 3) := by decide +kernel
theorem dX8_mean_15 : decode cX8_mean 15 = .ok (.getfield 164, 3) := by decide +kernel
theorem dX8_mean_18 : decode cX8_mean 18 = .ok (.aload_n 0, 1) := by decide +kernel
theorem dX8_mean_19 : decode cX8_mean 19 = .ok (.getfield 28, 3) := by decide +kernel
theorem dX8_mean_22 : decode cX8_mean 22 = .ok (.getfield 204, 3) := by decide +kernel
theorem dX8_mean_25 : decode cX8_mean 25 = .ok (.aload_n 0, 1) := by decide +kernel
theorem dX8_mean_26 : decode cX8_mean 26 = .ok (.getfield 21, 3) := by decide +kernel
theorem dX8_mean_29 : decode cX8_mean 29 = .ok (.invokevirtual 180, 3) := by decide +kernel
theorem dX8_mean_32 : decode cX8_mean 32 = .ok (.invokevirtual 207, 3) := by decide +kernel
theorem dX8_mean_35 : decode cX8_mean 35 = .ok (.lreturn, 1) := by decide +kernel
theorem dX8_shut_0 : decode cX8_shut 0 = .ok (.aload_n 0, 1) := by decide +kernel
theorem dX8_shut_1 : decode cX8_shut 1 = .ok (.getfield 21, 3) := by decide +kernel
theorem dX8_shut_4 : decode cX8_shut 4 = .ok (.iload_n 1, 1) := by decide +kernel
theorem dX8_shut_5 : decode cX8_shut 5 = .ok (.invokevirtual 129, 3) := by decide +kernel
theorem dX8_shut_8 : decode cX8_shut 8 = .ok (.ifCond .ne 5, 3) := by decide +kernel
theorem dX8_shut_11 : decode cX8_shut 11 = .ok (.iconst (-1), 1) := by decide +kernel
theorem dX8_shut_12 : decode cX8_shut 12 = .ok (.ireturn, 1) := by decide +kernel
theorem dX8_shut_13 : decode cX8_shut 13 = .ok (.aload_n 0, 1) := by decide +kernel
theorem dX8_shut_14 : decode cX8_shut 14 = .ok (.getfield 41, 3) := by decide +kernel
theorem dX8_shut_17 : decode cX8_shut 17 = .ok (.invokevirtual 177, 3) := by decide +kernel
theorem dX8_shut_20 : decode cX8_shut 20 = .ok (.aload_n 0, 1) := by decide +kernel
theorem dX8_shut_21 : decode cX8_shut 21 = .ok (.getfield 41, 3) := by decide +kernel
theorem dX8_shut_24 : decode cX8_shut 24 = .ok (.iload_n 1, 1) := by decide +kernel
theorem dX8_shut_25 : decode cX8_shut 25 = .ok (.aload_n 0, 1) := by decide +kernel
theorem dX8_shut_26 : decode cX8_shut 26 = .ok (.getfield 28, 3) := by decide +kernel
theorem dX8_shut_29 : decode cX8_shut 29 = .ok (.getfield 164, 3) := by decide +kernel
theorem dX8_shut_32 : decode cX8_shut 32 = .ok (.invokevirtual 187, 3) := by decide +kernel
theorem dX8_shut_35 : decode cX8_shut 35 = .ok (.iconst 0, 1) := by decide +kernel
theorem dX8_shut_36 : decode cX8_shut 36 = .ok (.istore_n 2, 1) := by decide +kernel
theorem dX8_shut_37 : decode cX8_shut 37 = .ok (.iload_n 2, 1) := by decide +kernel
theorem dX8_shut_38 : decode cX8_shut 38 = .ok (.aload_n 0, 1) := by decide +kernel
theorem dX8_shut_39 : decode cX8_shut 39 = .ok (.getfield 21, 3) := by decide +kernel
theorem dX8_shut_42 : decode cX8_shut 42 = .ok (.getfield 126, 3) := by decide +kernel
theorem dX8_shut_45 : decode cX8_shut 45 = .ok (.if_icmp .ge 64, 3) := by decide +kernel
theorem dX8_shut_48 : decode cX8_shut 48 = .ok (.aload_n 0, 1) := by decide +kernel
theorem dX8_shut_49 : decode cX8_shut 49 = .ok (.getfield 28, 3) := by decide +kernel
theorem dX8_shut_52 : decode cX8_shut 52 = .ok (.getfield 164, 3) := by decide +kernel
theorem dX8_shut_55 : decode cX8_shut 55 = .ok (.getfield 211, 3) := by decide +kernel
theorem dX8_shut_58 : decode cX8_shut 58 = .ok (.iload_n 2, 1) := by decide +kernel
theorem dX8_shut_59 : decode cX8_shut 59 = .ok (.iaload, 1) := by decide +kernel
theorem dX8_shut_60 : decode cX8_shut 60 = .ok (.bipush 24, 2) := by decide +kernel
theorem dX8_shut_62 : decode cX8_shut 62 = .ok (.if_icmp .ge 41, 3) := by decide +kernel
theorem dX8_shut_65 : decode cX8_shut 65 = .ok (.aload_n 0, 1) := by decide +kernel
theorem dX8_shut_66 : decode cX8_shut 66 = .ok (.getfield 41, 3) := by decide +kernel
theorem dX8_shut_69 : decode cX8_shut 69 = .ok (.getfield 191, 3) := by decide +kernel
theorem dX8_shut_72 : decode cX8_shut 72 = .ok (.iload_n 2, 1) := by decide +kernel
theorem dX8_shut_73 : decode cX8_shut 73 = .ok (.iaload, 1) := by decide +kernel
theorem dX8_shut_74 : decode cX8_shut 74 = .ok (.aload_n 0, 1) := by decide +kernel
theorem dX8_shut_75 : decode cX8_shut 75 = .ok (.getfield 21, 3) := by decide +kernel
theorem dX8_shut_78 : decode cX8_shut 78 = .ok (.getfield 195, 3) := by decide +kernel
theorem dX8_shut_81 : decode cX8_shut 81 = .ok (.iload_n 2, 1) := by decide +kernel
theorem dX8_shut_82 : decode cX8_shut 82 = .ok (.aaload, 1) := by decide +kernel
theorem dX8_shut_83 : decode cX8_shut 83 = .ok (.iconst 0, 1) := by decide +kernel
theorem dX8_shut_84 : decode cX8_shut 84 = .ok (.iaload, 1) := by decide +kernel
theorem dX8_shut_85 : decode cX8_shut 85 = .ok (.if_icmp .ge 18, 3) := by decide +kernel
theorem dX8_shut_88 : decode cX8_shut 88 = .ok (.bipush 10, 2) := by decide +kernel
theorem dX8_shut_90 : decode cX8_shut 90 = .ok (.iload_n 2, 1) := by decide +kernel
theorem dX8_shut_91 : decode cX8_shut 91 = .ok (.imul, 1) := by decide +kernel
theorem dX8_shut_92 : decode cX8_shut 92 = .ok (.aload_n 0, 1) := by decide +kernel
theorem dX8_shut_93 : decode cX8_shut 93 = .ok (.getfield 41, 3) := by decide +kernel
theorem dX8_shut_96 : decode cX8_shut 96 = .ok (.getfield 191, 3) := by decide +kernel
theorem dX8_shut_99 : decode cX8_shut 99 = .ok (.iload_n 2, 1) := by decide +kernel
theorem dX8_shut_100 : decode cX8_shut 100 = .ok (.iaload, 1) := by decide +kernel
theorem dX8_shut_101 : decode cX8_shut 101 = .ok (.iadd, 1) := by decide +kernel
theorem dX8_shut_102 : decode cX8_shut 102 = .ok (.ireturn, 1) := by decide +kernel
theorem dX8_shut_103 : decode cX8_shut 103 = .ok (.iinc 2 1, 3) := by decide +kernel
theorem dX8_shut_106 : decode cX8_shut 106 = .ok (.goto (-69), 3) := by decide +kernel
theorem dX8_shut_109 : decode cX8_shut 109 = .ok (.bipush (-4), 2) := by decide +kernel
theorem dX8_shut_111 : decode cX8_shut 111 = .ok (.ireturn, 1) := by decide +kernel
theorem dX8_sign_0 : decode cX8_sign 0 = .ok (.iload_n 1, 1) := by decide +kernel
theorem dX8_sign_1 : decode cX8_sign 1 = .ok (.ifCond .lt 9, 3) := by decide +kernel
theorem dX8_sign_4 : decode cX8_sign 4 = .ok (.iload_n 1, 1) := by decide +kernel
theorem dX8_sign_5 : decode cX8_sign 5 = .ok (.bipush 9, 2) := by decide +kernel
theorem dX8_sign_7 : decode cX8_sign 7 = .ok (.if_icmp .le 5, 3) := by decide +kernel
theorem dX8_sign_10 : decode cX8_sign 10 = .ok (.iconst (-1), 1) := by decide +kernel
theorem dX8_sign_11 : decode cX8_sign 11 = .ok (.ireturn, 1) := by decide +kernel
theorem dX8_sign_12 : decode cX8_sign 12 = .ok (.aload_n 0, 1) := by decide +kernel
theorem dX8_sign_13 : decode cX8_sign 13 = .ok (.getfield 28, 3) := by decide +kernel
theorem dX8_sign_16 : decode cX8_sign 16 = .ok (.getfield 214, 3) := by decide +kernel
theorem dX8_sign_19 : decode cX8_sign 19 = .ok (.invokestatic 133, 3) := by decide +kernel
theorem dX8_sign_22 : decode cX8_sign 22 = .ok (.ifCond .ne 6, 3) := by decide +kernel
theorem dX8_sign_25 : decode cX8_sign 25 = .ok (.bipush (-2), 2) := by decide +kernel
theorem dX8_sign_27 : decode cX8_sign 27 = .ok (.ireturn, 1) := by decide +kernel
theorem dX8_sign_28 : decode cX8_sign 28 = .ok (.aload_n 0, 1) := by decide +kernel
theorem dX8_sign_29 : decode cX8_sign 29 = .ok (.getfield 21, 3) := by decide +kernel
theorem dX8_sign_32 : decode cX8_sign 32 = .ok (.aload_n 0, 1) := by decide +kernel
theorem dX8_sign_33 : decode cX8_sign 33 = .ok (.getfield 28, 3) := by decide +kernel
theorem dX8_sign_36 : decode cX8_sign 36 = .ok (.getfield 204, 3) := by decide +kernel
theorem dX8_sign_39 : decode cX8_sign 39 = .ok (.aload_n 0, 1) := by decide +kernel
theorem dX8_sign_40 : decode cX8_sign 40 = .ok (.getfield 28, 3) := by decide +kernel
theorem dX8_sign_43 : decode cX8_sign 43 = .ok (.getfield 214, 3) := by decide +kernel
theorem dX8_sign_46 : decode cX8_sign 46 = .ok (.iload_n 1, 1) := by decide +kernel
theorem dX8_sign_47 : decode cX8_sign 47 = .ok (.invokevirtual 216, 3) := by decide +kernel
theorem dX8_sign_50 : decode cX8_sign 50 = .ok (.istore_n 2, 1) := by decide +kernel
theorem dX8_sign_51 : decode cX8_sign 51 = .ok (.iload_n 2, 1) := by decide +kernel
theorem dX8_sign_52 : decode cX8_sign 52 = .ok (.ifCond .ne 6, 3) := by decide +kernel
theorem dX8_sign_55 : decode cX8_sign 55 = .ok (.bipush (-2), 2) := by decide +kernel
theorem dX8_sign_57 : decode cX8_sign 57 = .ok (.ireturn, 1) := by decide +kernel
theorem dX8_sign_58 : decode cX8_sign 58 = .ok (.aload_n 0, 1) := by decide +kernel
theorem dX8_sign_59 : decode cX8_sign 59 = .ok (.getfield 28, 3) := by decide +kernel
theorem dX8_sign_62 : decode cX8_sign 62 = .ok (.iload_n 2, 1) := by decide +kernel
theorem dX8_sign_63 : decode cX8_sign 63 = .ok (.putfield 204, 3) := by decide +kernel
theorem dX8_sign_66 : decode cX8_sign 66 = .ok (.aload_n 0, 1) := by decide +kernel
theorem dX8_sign_67 : decode cX8_sign 67 = .ok (.getfield 28, 3) := by decide +kernel
theorem dX8_sign_70 : decode cX8_sign 70 = .ok (.dup, 1) := by decide +kernel
theorem dX8_sign_71 : decode cX8_sign 71 = .ok (.getfield 214, 3) := by decide +kernel
theorem dX8_sign_74 : decode cX8_sign 74 = .ok (.iconst 1, 1) := by decide +kernel
theorem dX8_sign_75 : decode cX8_sign 75 = .ok (.iadd, 1) := by decide +kernel
theorem dX8_sign_76 : decode cX8_sign 76 = .ok (.putfield 214, 3) := by decide +kernel
theorem dX8_sign_79 : decode cX8_sign 79 = .ok (.iload_n 2, 1) := by decide +kernel
theorem dX8_sign_80 : decode cX8_sign 80 = .ok (.ireturn, 1) := by decide +kernel
theorem dX8_now_0 : decode cX8_now 0 = .ok (.iload_n 1, 1) := by decide +kernel
theorem dX8_now_1 : decode cX8_now 1 = .ok (.tableswitch 63 0 3 #[31, 39, 47, 55], 31) := by decide +kernel
theorem dX8_now_32 : decode cX8_now 32 = .ok (.aload_n 0, 1) := by decide +kernel
theorem dX8_now_33 : decode cX8_now 33 = .ok (.getfield 28, 3) := by decide +kernel
theorem dX8_now_36 : decode cX8_now 36 = .ok (.getfield 214, 3) := by decide +kernel
theorem dX8_now_39 : decode cX8_now 39 = .ok (.ireturn, 1) := by decide +kernel
theorem dX8_now_40 : decode cX8_now 40 = .ok (.aload_n 0, 1) := by decide +kernel
theorem dX8_now_41 : decode cX8_now 41 = .ok (.getfield 28, 3) := by decide +kernel
theorem dX8_now_44 : decode cX8_now 44 = .ok (.getfield 204, 3) := by decide +kernel
theorem dX8_now_47 : decode cX8_now 47 = .ok (.ireturn, 1) := by decide +kernel
theorem dX8_now_48 : decode cX8_now 48 = .ok (.aload_n 0, 1) := by decide +kernel
theorem dX8_now_49 : decode cX8_now 49 = .ok (.getfield 28, 3) := by decide +kernel
theorem dX8_now_52 : decode cX8_now 52 = .ok (.getfield 219, 3) := by decide +kernel
theorem dX8_now_55 : decode cX8_now 55 = .ok (.ireturn, 1) := by decide +kernel
theorem dX8_now_56 : decode cX8_now 56 = .ok (.aload_n 0, 1) := by decide +kernel
theorem dX8_now_57 : decode cX8_now 57 = .ok (.getfield 28, 3) := by decide +kernel
theorem dX8_now_60 : decode cX8_now 60 = .ok (.getfield 222, 3) := by decide +kernel
theorem dX8_now_63 : decode cX8_now 63 = .ok (.ireturn, 1) := by decide +kernel
theorem dX8_now_64 : decode cX8_now 64 = .ok (.iconst (-1), 1) := by decide +kernel
theorem dX8_now_65 : decode cX8_now 65 = .ok (.ireturn, 1) := by decide +kernel
theorem dX8_set_0 : decode cX8_set 0 = .ok (.iload_n 1, 1) := by decide +kernel
theorem dX8_set_1 : decode cX8_set 1 = .ok (.ifCond .ne 31, 3) := by decide +kernel
theorem dX8_set_4 : decode cX8_set 4 = .ok (.iload_n 2, 1) := by decide +kernel
theorem dX8_set_5 : decode cX8_set 5 = .ok (.ifCond .lt 27, 3) := by decide +kernel
theorem dX8_set_8 : decode cX8_set 8 = .ok (.iload_n 2, 1) := by decide +kernel
theorem dX8_set_9 : decode cX8_set 9 = .ok (.bipush 9, 2) := by decide +kernel
theorem dX8_set_11 : decode cX8_set 11 = .ok (.if_icmp .gt 21, 3) := by decide +kernel
theorem dX8_set_14 : decode cX8_set 14 = .ok (.aload_n 0, 1) := by decide +kernel
theorem dX8_set_15 : decode cX8_set 15 = .ok (.getfield 28, 3) := by decide +kernel
theorem dX8_set_18 : decode cX8_set 18 = .ok (.getfield 219, 3) := by decide +kernel
theorem dX8_set_21 : decode cX8_set 21 = .ok (.istore_n 3, 1) := by decide +kernel
theorem dX8_set_22 : decode cX8_set 22 = .ok (.aload_n 0, 1) := by decide +kernel
theorem dX8_set_23 : decode cX8_set 23 = .ok (.getfield 28, 3) := by decide +kernel
theorem dX8_set_26 : decode cX8_set 26 = .ok (.iload_n 2, 1) := by decide +kernel
theorem dX8_set_27 : decode cX8_set 27 = .ok (.putfield 219, 3) := by decide +kernel
theorem dX8_set_30 : decode cX8_set 30 = .ok (.iload_n 3, 1) := by decide +kernel
theorem dX8_set_31 : decode cX8_set 31 = .ok (.ireturn, 1) := by decide +kernel
theorem dX8_set_32 : decode cX8_set 32 = .ok (.iload_n 1, 1) := by decide +kernel
theorem dX8_set_33 : decode cX8_set 33 = .ok (.iconst 1, 1) := by decide +kernel
theorem dX8_set_34 : decode cX8_set 34 = .ok (.if_icmp .ne 32, 3) := by decide +kernel
theorem dX8_set_37 : decode cX8_set 37 = .ok (.iload_n 2, 1) := by decide +kernel
theorem dX8_set_38 : decode cX8_set 38 = .ok (.iconst 1, 1) := by decide +kernel
theorem dX8_set_39 : decode cX8_set 39 = .ok (.if_icmp .lt 27, 3) := by decide +kernel
theorem dX8_set_42 : decode cX8_set 42 = .ok (.iload_n 2, 1) := by decide +kernel
theorem dX8_set_43 : decode cX8_set 43 = .ok (.bipush 32, 2) := by decide +kernel
theorem dX8_set_45 : decode cX8_set 45 = .ok (.if_icmp .gt 21, 3) := by decide +kernel
theorem dX8_set_48 : decode cX8_set 48 = .ok (.aload_n 0, 1) := by decide +kernel
theorem dX8_set_49 : decode cX8_set 49 = .ok (.getfield 28, 3) := by decide +kernel
theorem dX8_set_52 : decode cX8_set 52 = .ok (.getfield 222, 3) := by decide +kernel
theorem dX8_set_55 : decode cX8_set 55 = .ok (.istore_n 3, 1) := by decide +kernel
theorem dX8_set_56 : decode cX8_set 56 = .ok (.aload_n 0, 1) := by decide +kernel
theorem dX8_set_57 : decode cX8_set 57 = .ok (.getfield 28, 3) := by decide +kernel
theorem dX8_set_60 : decode cX8_set 60 = .ok (.iload_n 2, 1) := by decide +kernel
theorem dX8_set_61 : decode cX8_set 61 = .ok (.putfield 222, 3) := by decide +kernel
theorem dX8_set_64 : decode cX8_set 64 = .ok (.iload_n 3, 1) := by decide +kernel
theorem dX8_set_65 : decode cX8_set 65 = .ok (.ireturn, 1) := by decide +kernel
theorem dX8_set_66 : decode cX8_set 66 = .ok (.iconst (-1), 1) := by decide +kernel
theorem dX8_set_67 : decode cX8_set 67 = .ok (.ireturn, 1) := by decide +kernel
theorem dX8_by_0 : decode cX8_by 0 = .ok (.iload_n 1, 1) := by decide +kernel
theorem dX8_by_1 : decode cX8_by 1 = .ok (.invokestatic 225, 3) := by decide +kernel
theorem dX8_by_4 : decode cX8_by 4 = .ok (.ifCond .ne 7, 3) := by decide +kernel
theorem dX8_by_7 : decode cX8_by 7 = .ok (.ldc2_w 175, 3) := by decide +kernel
theorem dX8_by_10 : decode cX8_by 10 = .ok (.lreturn, 1) := by decide +kernel
theorem dX8_by_11 : decode cX8_by 11 = .ok (.lconst 0, 1) := by decide +kernel
theorem dX8_by_12 : decode cX8_by 12 = .ok (.lstore_n 2, 1) := by decide +kernel
theorem dX8_by_13 : decode cX8_by 13 = .ok (.iconst 0, 1) := by decide +kernel
theorem dX8_by_14 : decode cX8_by 14 = .ok (.istore 4, 2) := by decide +kernel
theorem dX8_by_16 : decode cX8_by 16 = .ok (.iload 4, 2) := by decide +kernel
theorem dX8_by_18 : decode cX8_by 18 = .ok (.aload_n 0, 1) := by decide +kernel
theorem dX8_by_19 : decode cX8_by 19 = .ok (.getfield 21, 3) := by decide +kernel
theorem dX8_by_22 : decode cX8_by 22 = .ok (.getfield 228, 3) := by decide +kernel
theorem dX8_by_25 : decode cX8_by 25 = .ok (.if_icmp .ge 48, 3) := by decide +kernel
theorem dX8_by_28 : decode cX8_by 28 = .ok (.aload_n 0, 1) := by decide +kernel
theorem dX8_by_29 : decode cX8_by 29 = .ok (.getfield 28, 3) := by decide +kernel
theorem dX8_by_32 : decode cX8_by 32 = .ok (.getfield 204, 3) := by decide +kernel
theorem dX8_by_35 : decode cX8_by 35 = .ok (.iload 4, 2) := by decide +kernel
theorem dX8_by_37 : decode cX8_by 37 = .ok (.ishr, 1) := by decide +kernel
theorem dX8_by_38 : decode cX8_by 38 = .ok (.iconst 1, 1) := by decide +kernel
theorem dX8_by_39 : decode cX8_by 39 = .ok (.iand, 1) := by decide +kernel
theorem dX8_by_40 : decode cX8_by 40 = .ok (.ifCond .eq 27, 3) := by decide +kernel
theorem dX8_by_43 : decode cX8_by 43 = .ok (.lload_n 2, 1) := by decide +kernel
theorem dX8_by_44 : decode cX8_by 44 = .ok (.aload_n 0, 1) := by decide +kernel
theorem dX8_by_45 : decode cX8_by 45 = .ok (.getfield 21, 3) := by decide +kernel
theorem dX8_by_48 : decode cX8_by 48 = .ok (.getfield 231, 3) := by decide +kernel
theorem dX8_by_51 : decode cX8_by 51 = .ok (.iload 4, 2) := by decide +kernel
theorem dX8_by_53 : decode cX8_by 53 = .ok (.aaload, 1) := by decide +kernel
theorem dX8_by_54 : decode cX8_by 54 = .ok (.iconst 0, 1) := by decide +kernel
theorem dX8_by_55 : decode cX8_by 55 = .ok (.iaload, 1) := by decide +kernel
theorem dX8_by_56 : decode cX8_by 56 = .ok (.i2l, 1) := by decide +kernel
theorem dX8_by_57 : decode cX8_by 57 = .ok (.aload_n 0, 1) := by decide +kernel
theorem dX8_by_58 : decode cX8_by 58 = .ok (.iload_n 1, 1) := by decide +kernel
theorem dX8_by_59 : decode cX8_by 59 = .ok (.iload 4, 2) := by decide +kernel
theorem dX8_by_61 : decode cX8_by 61 = .ok (.invokevirtual 234, 3) := by decide +kernel
theorem dX8_by_64 : decode cX8_by 64 = .ok (.lmul, 1) := by decide +kernel
theorem dX8_by_65 : decode cX8_by 65 = .ok (.ladd, 1) := by decide +kernel
theorem dX8_by_66 : decode cX8_by 66 = .ok (.lstore_n 2, 1) := by decide +kernel
theorem dX8_by_67 : decode cX8_by 67 = .ok (.iinc 4 1, 3) := by decide +kernel
theorem dX8_by_70 : decode cX8_by 70 = .ok (.goto (-54), 3) := by decide +kernel
theorem dX8_by_73 : decode cX8_by 73 = .ok (.lload_n 2, 1) := by decide +kernel
theorem dX8_by_74 : decode cX8_by 74 = .ok (.lreturn, 1) := by decide +kernel
theorem dX8_ran_0 : decode cX8_ran 0 = .ok (.iload_n 1, 1) := by decide +kernel
theorem dX8_ran_1 : decode cX8_ran 1 = .ok (.invokestatic 225, 3) := by decide +kernel
theorem dX8_ran_4 : decode cX8_ran 4 = .ok (.ifCond .eq 25, 3) := by decide +kernel
theorem dX8_ran_7 : decode cX8_ran 7 = .ok (.aload_n 0, 1) := by decide +kernel
theorem dX8_ran_8 : decode cX8_ran 8 = .ok (.getfield 21, 3) := by decide +kernel
theorem dX8_ran_11 : decode cX8_ran 11 = .ok (.iload_n 2, 1) := by decide +kernel
theorem dX8_ran_12 : decode cX8_ran 12 = .ok (.invokevirtual 129, 3) := by decide +kernel
theorem dX8_ran_15 : decode cX8_ran 15 = .ok (.ifCond .eq 14, 3) := by decide +kernel
theorem dX8_ran_18 : decode cX8_ran 18 = .ok (.aload_n 0, 1) := by decide +kernel
theorem dX8_ran_19 : decode cX8_ran 19 = .ok (.getfield 21, 3) := by decide +kernel
theorem dX8_ran_22 : decode cX8_ran 22 = .ok (.iload_n 3, 1) := by decide +kernel
theorem dX8_ran_23 : decode cX8_ran 23 = .ok (.invokevirtual 150, 3) := by decide +kernel
theorem dX8_ran_26 : decode cX8_ran 26 = .ok (.ifCond .ne 5, 3) := by decide +kernel
theorem dX8_ran_29 : decode cX8_ran 29 = .ok (.iconst (-1), 1) := by decide +kernel
theorem dX8_ran_30 : decode cX8_ran 30 = .ok (.ireturn, 1) := by decide +kernel
theorem dX8_ran_31 : decode cX8_ran 31 = .ok (.aload_n 0, 1) := by decide +kernel
theorem dX8_ran_32 : decode cX8_ran 32 = .ok (.getfield 50, 3) := by decide +kernel
theorem dX8_ran_35 : decode cX8_ran 35 = .ok (.iload_n 1, 1) := by decide +kernel
theorem dX8_ran_36 : decode cX8_ran 36 = .ok (.iload_n 2, 1) := by decide +kernel
theorem dX8_ran_37 : decode cX8_ran 37 = .ok (.aload_n 0, 1) := by decide +kernel
theorem dX8_ran_38 : decode cX8_ran 38 = .ok (.getfield 73, 3) := by decide +kernel
theorem dX8_ran_41 : decode cX8_ran 41 = .ok (.invokevirtual 238, 3) := by decide +kernel
theorem dX8_ran_44 : decode cX8_ran 44 = .ok (.aload_n 0, 1) := by decide +kernel
theorem dX8_ran_45 : decode cX8_ran 45 = .ok (.getfield 73, 3) := by decide +kernel
theorem dX8_ran_48 : decode cX8_ran 48 = .ok (.getfield 211, 3) := by decide +kernel
theorem dX8_ran_51 : decode cX8_ran 51 = .ok (.iload_n 3, 1) := by decide +kernel
theorem dX8_ran_52 : decode cX8_ran 52 = .ok (.iaload, 1) := by decide +kernel
theorem dX8_ran_53 : decode cX8_ran 53 = .ok (.bipush 24, 2) := by decide +kernel
theorem dX8_ran_55 : decode cX8_ran 55 = .ok (.if_icmp .ge 14, 3) := by decide +kernel
theorem dX8_ran_58 : decode cX8_ran 58 = .ok (.aload_n 0, 1) := by decide +kernel
theorem dX8_ran_59 : decode cX8_ran 59 = .ok (.getfield 73, 3) := by decide +kernel
theorem dX8_ran_62 : decode cX8_ran 62 = .ok (.iload_n 3, 1) := by decide +kernel
theorem dX8_ran_63 : decode cX8_ran 63 = .ok (.invokevirtual 167, 3) := by decide +kernel
theorem dX8_ran_66 : decode cX8_ran 66 = .ok (.goto 6, 3) := by decide +kernel
theorem dX8_ran_69 : decode cX8_ran 69 = .ok (.sipush 240, 3) := by decide +kernel
theorem dX8_ran_72 : decode cX8_ran 72 = .ok (.ireturn, 1) := by decide +kernel
theorem dX8_alone_0 : decode cX8_alone 0 = .ok (.aload_n 0, 1) := by decide +kernel
theorem dX8_alone_1 : decode cX8_alone 1 = .ok (.getfield 21, 3) := by decide +kernel
theorem dX8_alone_4 : decode cX8_alone 4 = .ok (.iload_n 1, 1) := by decide +kernel
theorem dX8_alone_5 : decode cX8_alone 5 = .ok (.invokevirtual 150, 3) := by decide +kernel
theorem dX8_alone_8 : decode cX8_alone 8 = .ok (.ifCond .ne 7, 3) := by decide +kernel
theorem dX8_alone_11 : decode cX8_alone 11 = .ok (.ldc2_w 175, 3) := by decide +kernel
theorem dX8_alone_14 : decode cX8_alone 14 = .ok (.lreturn, 1) := by decide +kernel
theorem dX8_alone_15 : decode cX8_alone 15 = .ok (.aload_n 0, 1) := by decide +kernel
theorem dX8_alone_16 : decode cX8_alone 16 = .ok (.getfield 57, 3) := by decide +kernel
theorem dX8_alone_19 : decode cX8_alone 19 = .ok (.iload_n 1, 1) := by decide +kernel
theorem dX8_alone_20 : decode cX8_alone 20 = .ok (.iconst 0, 1) := by decide +kernel
theorem dX8_alone_21 : decode cX8_alone 21 = .ok (.aload_n 0, 1) := by decide +kernel
theorem dX8_alone_22 : decode cX8_alone 22 = .ok (.getfield 21, 3) := by decide +kernel
theorem dX8_alone_25 : decode cX8_alone 25 = .ok (.invokevirtual 116, 3) := by decide +kernel
theorem dX8_alone_28 : decode cX8_alone 28 = .ok (.invokevirtual 242, 3) := by decide +kernel
theorem dX8_alone_31 : decode cX8_alone 31 = .ok (.lreturn, 1) := by decide +kernel
theorem dX8_does_0 : decode cX8_does 0 = .ok (.aload_n 0, 1) := by decide +kernel
theorem dX8_does_1 : decode cX8_does 1 = .ok (.getfield 21, 3) := by decide +kernel
theorem dX8_does_4 : decode cX8_does 4 = .ok (.iload_n 1, 1) := by decide +kernel
theorem dX8_does_5 : decode cX8_does 5 = .ok (.invokevirtual 150, 3) := by decide +kernel
theorem dX8_does_8 : decode cX8_does 8 = .ok (.ifCond .eq 26, 3) := by decide +kernel
theorem dX8_does_11 : decode cX8_does 11 = .ok (.iload_n 2, 1) := by decide +kernel
theorem dX8_does_12 : decode cX8_does 12 = .ok (.invokestatic 133, 3) := by decide +kernel
theorem dX8_does_15 : decode cX8_does 15 = .ok (.ifCond .eq 19, 3) := by decide +kernel
theorem dX8_does_18 : decode cX8_does 18 = .ok (.iload_n 3, 1) := by decide +kernel
theorem dX8_does_19 : decode cX8_does 19 = .ok (.iconst 1, 1) := by decide +kernel
theorem dX8_does_20 : decode cX8_does 20 = .ok (.if_icmp .lt 14, 3) := by decide +kernel
theorem dX8_does_23 : decode cX8_does 23 = .ok (.iload_n 3, 1) := by decide +kernel
theorem dX8_does_24 : decode cX8_does 24 = .ok (.aload_n 0, 1) := by decide +kernel
theorem dX8_does_25 : decode cX8_does 25 = .ok (.getfield 21, 3) := by decide +kernel
theorem dX8_does_28 : decode cX8_does 28 = .ok (.invokevirtual 116, 3) := by decide +kernel
theorem dX8_does_31 : decode cX8_does 31 = .ok (.if_icmp .le 5, 3) := by decide +kernel
theorem dX8_does_34 : decode cX8_does 34 = .ok (.iconst (-1), 1) := by decide +kernel
theorem dX8_does_35 : decode cX8_does 35 = .ok (.ireturn, 1) := by decide +kernel
theorem dX8_does_36 : decode cX8_does 36 = .ok (.aload_n 0, 1) := by decide +kernel
theorem dX8_does_37 : decode cX8_does 37 = .ok (.getfield 57, 3) := by decide +kernel
theorem dX8_does_40 : decode cX8_does 40 = .ok (.iload_n 1, 1) := by decide +kernel
theorem dX8_does_41 : decode cX8_does 41 = .ok (.iload_n 2, 1) := by decide +kernel
theorem dX8_does_42 : decode cX8_does 42 = .ok (.iload_n 3, 1) := by decide +kernel
theorem dX8_does_43 : decode cX8_does 43 = .ok (.invokevirtual 246, 3) := by decide +kernel
theorem dX8_does_46 : decode cX8_does 46 = .ok (.ireturn, 1) := by decide +kernel
theorem dX8_better_0 : decode cX8_better 0 = .ok (.aload_n 0, 1) := by decide +kernel
theorem dX8_better_1 : decode cX8_better 1 = .ok (.getfield 41, 3) := by decide +kernel
theorem dX8_better_4 : decode cX8_better 4 = .ok (.invokevirtual 177, 3) := by decide +kernel
theorem dX8_better_7 : decode cX8_better 7 = .ok (.iconst 1, 1) := by decide +kernel
theorem dX8_better_8 : decode cX8_better 8 = .ok (.istore_n 2, 1) := by decide +kernel
theorem dX8_better_9 : decode cX8_better 9 = .ok (.iload_n 2, 1) := by decide +kernel
theorem dX8_better_10 : decode cX8_better 10 = .ok (.bipush 6, 2) := by decide +kernel
theorem dX8_better_12 : decode cX8_better 12 = .ok (.if_icmp .gt 70, 3) := by decide +kernel
theorem dX8_better_15 : decode cX8_better 15 = .ok (.iconst 0, 1) := by decide +kernel
theorem dX8_better_16 : decode cX8_better 16 = .ok (.istore_n 3, 1) := by decide +kernel
theorem dX8_better_17 : decode cX8_better 17 = .ok (.iconst 0, 1) := by decide +kernel
theorem dX8_better_18 : decode cX8_better 18 = .ok (.istore 4, 2) := by decide +kernel
theorem dX8_better_20 : decode cX8_better 20 = .ok (.iload 4, 2) := by decide +kernel
theorem dX8_better_22 : decode cX8_better 22 = .ok (.aload_n 0, 1) := by decide +kernel
theorem dX8_better_23 : decode cX8_better 23 = .ok (.getfield 21, 3) := by decide +kernel
theorem dX8_better_26 : decode cX8_better 26 = .ok (.getfield 126, 3) := by decide +kernel
theorem dX8_better_29 : decode cX8_better 29 = .ok (.if_icmp .ge 41, 3) := by decide +kernel
theorem dX8_better_32 : decode cX8_better 32 = .ok (.aload_n 0, 1) := by decide +kernel
theorem dX8_better_33 : decode cX8_better 33 = .ok (.getfield 66, 3) := by decide +kernel
theorem dX8_better_36 : decode cX8_better 36 = .ok (.iload 4, 2) := by decide +kernel
theorem dX8_better_38 : decode cX8_better 38 = .ok (.iload_n 1, 1) := by decide +kernel
theorem dX8_better_39 : decode cX8_better 39 = .ok (.ifCond .eq 10, 3) := by decide +kernel
theorem dX8_better_42 : decode cX8_better 42 = .ok (.iconst 1, 1) := by decide +kernel
theorem dX8_better_43 : decode cX8_better 43 = .ok (.iload 4, 2) := by decide +kernel
theorem dX8_better_45 : decode cX8_better 45 = .ok (.ishl, 1) := by decide +kernel
theorem dX8_better_46 : decode cX8_better 46 = .ok (.goto 10, 3) := by decide +kernel
theorem dX8_better_49 : decode cX8_better 49 = .ok (.aload_n 0, 1) := by decide +kernel
theorem dX8_better_50 : decode cX8_better 50 = .ok (.getfield 21, 3) := by decide +kernel
theorem dX8_better_53 : decode cX8_better 53 = .ok (.invokevirtual 180, 3) := by decide +kernel
theorem dX8_better_56 : decode cX8_better 56 = .ok (.invokevirtual 249, 3) := by decide +kernel
theorem dX8_better_59 : decode cX8_better 59 = .ok (.ifCond .eq 5, 3) := by decide +kernel
theorem dX8_better_62 : decode cX8_better 62 = .ok (.iconst 1, 1) := by decide +kernel
theorem dX8_better_63 : decode cX8_better 63 = .ok (.istore_n 3, 1) := by decide +kernel
theorem dX8_better_64 : decode cX8_better 64 = .ok (.iinc 4 1, 3) := by decide +kernel
theorem dX8_better_67 : decode cX8_better 67 = .ok (.goto (-47), 3) := by decide +kernel
theorem dX8_better_70 : decode cX8_better 70 = .ok (.iload_n 3, 1) := by decide +kernel
theorem dX8_better_71 : decode cX8_better 71 = .ok (.ifCond .ne 5, 3) := by decide +kernel
theorem dX8_better_74 : decode cX8_better 74 = .ok (.iload_n 2, 1) := by decide +kernel
theorem dX8_better_75 : decode cX8_better 75 = .ok (.ireturn, 1) := by decide +kernel
theorem dX8_better_76 : decode cX8_better 76 = .ok (.iinc 2 1, 3) := by decide +kernel
theorem dX8_better_79 : decode cX8_better 79 = .ok (.goto (-70), 3) := by decide +kernel
theorem dX8_better_82 : decode cX8_better 82 = .ok (.bipush (-4), 2) := by decide +kernel
theorem dX8_better_84 : decode cX8_better 84 = .ok (.ireturn, 1) := by decide +kernel
theorem dX8_gun_0 : decode cX8_gun 0 = .ok (.iload_n 1, 1) := by decide +kernel
theorem dX8_gun_1 : decode cX8_gun 1 = .ok (.invokestatic 161, 3) := by decide +kernel
theorem dX8_gun_4 : decode cX8_gun 4 = .ok (.ifCond .ne 7, 3) := by decide +kernel
theorem dX8_gun_7 : decode cX8_gun 7 = .ok (.ldc2_w 175, 3) := by decide +kernel
theorem dX8_gun_10 : decode cX8_gun 10 = .ok (.lreturn, 1) := by decide +kernel
theorem dX8_gun_11 : decode cX8_gun 11 = .ok (.aload_n 0, 1) := by decide +kernel
theorem dX8_gun_12 : decode cX8_gun 12 = .ok (.iload_n 1, 1) := by decide +kernel
theorem dX8_gun_13 : decode cX8_gun 13 = .ok (.invokevirtual 253, 3) := by decide +kernel
theorem dX8_gun_16 : decode cX8_gun 16 = .ok (.lreturn, 1) := by decide +kernel
theorem dX8_bestGun_0 : decode cX8_bestGun 0 = .ok (.iconst 0, 1) := by decide +kernel
theorem dX8_bestGun_1 : decode cX8_bestGun 1 = .ok (.istore_n 1, 1) := by decide +kernel
theorem dX8_bestGun_2 : decode cX8_bestGun 2 = .ok (.aload_n 0, 1) := by decide +kernel
theorem dX8_bestGun_3 : decode cX8_bestGun 3 = .ok (.iconst 0, 1) := by decide +kernel
theorem dX8_bestGun_4 : decode cX8_bestGun 4 = .ok (.invokevirtual 253, 3) := by decide +kernel
theorem dX8_bestGun_7 : decode cX8_bestGun 7 = .ok (.lstore_n 2, 1) := by decide +kernel
theorem dX8_bestGun_8 : decode cX8_bestGun 8 = .ok (.iconst 1, 1) := by decide +kernel
theorem dX8_bestGun_9 : decode cX8_bestGun 9 = .ok (.istore 4, 2) := by decide +kernel
theorem dX8_bestGun_11 : decode cX8_bestGun 11 = .ok (.iload 4, 2) := by decide +kernel
theorem dX8_bestGun_13 : decode cX8_bestGun 13 = .ok (.bipush 24, 2) := by decide +kernel
theorem dX8_bestGun_15 : decode cX8_bestGun 15 = .ok (.if_icmp .gt 30, 3) := by decide +kernel
theorem dX8_bestGun_18 : decode cX8_bestGun 18 = .ok (.aload_n 0, 1) := by decide +kernel
theorem dX8_bestGun_19 : decode cX8_bestGun 19 = .ok (.iload 4, 2) := by decide +kernel
theorem dX8_bestGun_21 : decode cX8_bestGun 21 = .ok (.invokevirtual 253, 3) := by decide +kernel
theorem dX8_bestGun_24 : decode cX8_bestGun 24 = .ok (.lstore 5, 2) := by decide +kernel
theorem dX8_bestGun_26 : decode cX8_bestGun 26 = .ok (.lload 5, 2) := by decide +kernel
theorem dX8_bestGun_28 : decode cX8_bestGun 28 = .ok (.lload_n 2, 1) := by decide +kernel
theorem dX8_bestGun_29 : decode cX8_bestGun 29 = .ok (.lcmp, 1) := by decide +kernel
theorem dX8_bestGun_30 : decode cX8_bestGun 30 = .ok (.ifCond .le 9, 3) := by decide +kernel
theorem dX8_bestGun_33 : decode cX8_bestGun 33 = .ok (.lload 5, 2) := by decide +kernel
theorem dX8_bestGun_35 : decode cX8_bestGun 35 = .ok (.lstore_n 2, 1) := by decide +kernel
theorem dX8_bestGun_36 : decode cX8_bestGun 36 = .ok (.iload 4, 2) := by decide +kernel
theorem dX8_bestGun_38 : decode cX8_bestGun 38 = .ok (.istore_n 1, 1) := by decide +kernel
theorem dX8_bestGun_39 : decode cX8_bestGun 39 = .ok (.iinc 4 1, 3) := by decide +kernel
theorem dX8_bestGun_42 : decode cX8_bestGun 42 = .ok (.goto (-31), 3) := by decide +kernel
theorem dX8_bestGun_45 : decode cX8_bestGun 45 = .ok (.iload_n 1, 1) := by decide +kernel
theorem dX8_bestGun_46 : decode cX8_bestGun 46 = .ok (.ireturn, 1) := by decide +kernel
theorem dX8_convoy_0 : decode cX8_convoy 0 = .ok (.iload_n 1, 1) := by decide +kernel
theorem dX8_convoy_1 : decode cX8_convoy 1 = .ok (.iconst 1, 1) := by decide +kernel
theorem dX8_convoy_2 : decode cX8_convoy 2 = .ok (.if_icmp .lt 32, 3) := by decide +kernel
theorem dX8_convoy_5 : decode cX8_convoy 5 = .ok (.iload_n 1, 1) := by decide +kernel
theorem dX8_convoy_6 : decode cX8_convoy 6 = .ok (.aload_n 0, 1) := by decide +kernel
theorem dX8_convoy_7 : decode cX8_convoy 7 = .ok (.getfield 21, 3) := by decide +kernel
theorem dX8_convoy_10 : decode cX8_convoy 10 = .ok (.invokevirtual 180, 3) := by decide +kernel
theorem dX8_convoy_13 : decode cX8_convoy 13 = .ok (.if_icmp .gt 21, 3) := by decide +kernel
theorem dX8_convoy_16 : decode cX8_convoy 16 = .ok (.iload_n 2, 1) := by decide +kernel
theorem dX8_convoy_17 : decode cX8_convoy 17 = .ok (.invokestatic 133, 3) := by decide +kernel
theorem dX8_convoy_20 : decode cX8_convoy 20 = .ok (.ifCond .eq 14, 3) := by decide +kernel
theorem dX8_convoy_23 : decode cX8_convoy 23 = .ok (.aload_n 0, 1) := by decide +kernel
theorem dX8_convoy_24 : decode cX8_convoy 24 = .ok (.getfield 21, 3) := by decide +kernel
theorem dX8_convoy_27 : decode cX8_convoy 27 = .ok (.iload_n 3, 1) := by decide +kernel
theorem dX8_convoy_28 : decode cX8_convoy 28 = .ok (.invokevirtual 143, 3) := by decide +kernel
theorem dX8_convoy_31 : decode cX8_convoy 31 = .ok (.ifCond .ne 7, 3) := by decide +kernel
theorem dX8_convoy_34 : decode cX8_convoy 34 = .ok (.ldc2_w 175, 3) := by decide +kernel
theorem dX8_convoy_37 : decode cX8_convoy 37 = .ok (.lreturn, 1) := by decide +kernel
theorem dX8_convoy_38 : decode cX8_convoy 38 = .ok (.aload_n 0, 1) := by decide +kernel
theorem dX8_convoy_39 : decode cX8_convoy 39 = .ok (.getfield 73, 3) := by decide +kernel
theorem dX8_convoy_42 : decode cX8_convoy 42 = .ok (.aload_n 0, 1) := by decide +kernel
theorem dX8_convoy_43 : decode cX8_convoy 43 = .ok (.getfield 28, 3) := by decide +kernel
theorem dX8_convoy_46 : decode cX8_convoy 46 = .ok (.getfield 164, 3) := by decide +kernel
theorem dX8_convoy_49 : decode cX8_convoy 49 = .ok (.invokevirtual 257, 3) := by decide +kernel
theorem dX8_convoy_52 : decode cX8_convoy 52 = .ok (.iconst 0, 1) := by decide +kernel
theorem dX8_convoy_53 : decode cX8_convoy 53 = .ok (.istore 4, 2) := by decide +kernel
theorem dX8_convoy_55 : decode cX8_convoy 55 = .ok (.iload 4, 2) := by decide +kernel
theorem dX8_convoy_57 : decode cX8_convoy 57 = .ok (.aload_n 0, 1) := by decide +kernel
theorem dX8_convoy_58 : decode cX8_convoy 58 = .ok (.getfield 21, 3) := by decide +kernel
theorem dX8_convoy_61 : decode cX8_convoy 61 = .ok (.getfield 126, 3) := by decide +kernel
theorem dX8_convoy_64 : decode cX8_convoy 64 = .ok (.if_icmp .ge 29, 3) := by decide +kernel
theorem dX8_convoy_67 : decode cX8_convoy 67 = .ok (.iload_n 1, 1) := by decide +kernel
theorem dX8_convoy_68 : decode cX8_convoy 68 = .ok (.iload 4, 2) := by decide +kernel
theorem dX8_convoy_70 : decode cX8_convoy 70 = .ok (.ishr, 1) := by decide +kernel
theorem dX8_convoy_71 : decode cX8_convoy 71 = .ok (.iconst 1, 1) := by decide +kernel
theorem dX8_convoy_72 : decode cX8_convoy 72 = .ok (.iand, 1) := by decide +kernel
theorem dX8_convoy_73 : decode cX8_convoy 73 = .ok (.ifCond .eq 14, 3) := by decide +kernel
theorem dX8_convoy_76 : decode cX8_convoy 76 = .ok (.aload_n 0, 1) := by decide +kernel
theorem dX8_convoy_77 : decode cX8_convoy 77 = .ok (.getfield 73, 3) := by decide +kernel
theorem dX8_convoy_80 : decode cX8_convoy 80 = .ok (.iload 4, 2) := by decide +kernel
theorem dX8_convoy_82 : decode cX8_convoy 82 = .ok (.iload_n 2, 1) := by decide +kernel
theorem dX8_convoy_83 : decode cX8_convoy 83 = .ok (.iload_n 3, 1) := by decide +kernel
theorem dX8_convoy_84 : decode cX8_convoy 84 = .ok (.invokevirtual 171, 3) := by decide +kernel
theorem dX8_convoy_87 : decode cX8_convoy 87 = .ok (.iinc 4 1, 3) := by decide +kernel
theorem dX8_convoy_90 : decode cX8_convoy 90 = .ok (.goto (-35), 3) := by decide +kernel
theorem dX8_convoy_93 : decode cX8_convoy 93 = .ok (.aload_n 0, 1) := by decide +kernel
theorem dX8_convoy_94 : decode cX8_convoy 94 = .ok (.getfield 41, 3) := by decide +kernel
theorem dX8_convoy_97 : decode cX8_convoy 97 = .ok (.iload_n 1, 1) := by decide +kernel
theorem dX8_convoy_98 : decode cX8_convoy 98 = .ok (.aload_n 0, 1) := by decide +kernel
theorem dX8_convoy_99 : decode cX8_convoy 99 = .ok (.getfield 21, 3) := by decide +kernel
theorem dX8_convoy_102 : decode cX8_convoy 102 = .ok (.iload_n 1, 1) := by decide +kernel
theorem dX8_convoy_103 : decode cX8_convoy 103 = .ok (.invokevirtual 261, 3) := by decide +kernel
theorem dX8_convoy_106 : decode cX8_convoy 106 = .ok (.invokevirtual 264, 3) := by decide +kernel
theorem dX8_convoy_109 : decode cX8_convoy 109 = .ok (.aload_n 0, 1) := by decide +kernel
theorem dX8_convoy_110 : decode cX8_convoy 110 = .ok (.getfield 41, 3) := by decide +kernel
theorem dX8_convoy_113 : decode cX8_convoy 113 = .ok (.aload_n 0, 1) := by decide +kernel
theorem dX8_convoy_114 : decode cX8_convoy 114 = .ok (.getfield 73, 3) := by decide +kernel
theorem dX8_convoy_117 : decode cX8_convoy 117 = .ok (.aload_n 0, 1) := by decide +kernel
theorem dX8_convoy_118 : decode cX8_convoy 118 = .ok (.getfield 28, 3) := by decide +kernel
theorem dX8_convoy_121 : decode cX8_convoy 121 = .ok (.getfield 204, 3) := by decide +kernel
theorem dX8_convoy_124 : decode cX8_convoy 124 = .ok (.aload_n 0, 1) := by decide +kernel
theorem dX8_convoy_125 : decode cX8_convoy 125 = .ok (.getfield 21, 3) := by decide +kernel
theorem dX8_convoy_128 : decode cX8_convoy 128 = .ok (.invokevirtual 180, 3) := by decide +kernel
theorem dX8_convoy_131 : decode cX8_convoy 131 = .ok (.invokevirtual 207, 3) := by decide +kernel
theorem dX8_convoy_134 : decode cX8_convoy 134 = .ok (.lreturn, 1) := by decide +kernel
theorem dX8_first_0 : decode cX8_first 0 = .ok (.aload_n 0, 1) := by decide +kernel
theorem dX8_first_1 : decode cX8_first 1 = .ok (.getfield 41, 3) := by decide +kernel
theorem dX8_first_4 : decode cX8_first 4 = .ok (.invokevirtual 268, 3) := by decide +kernel
theorem dX8_first_7 : decode cX8_first 7 = .ok (.aload_n 0, 1) := by decide +kernel
theorem dX8_first_8 : decode cX8_first 8 = .ok (.getfield 41, 3) := by decide +kernel
theorem dX8_first_11 : decode cX8_first 11 = .ok (.aload_n 0, 1) := by decide +kernel
theorem dX8_first_12 : decode cX8_first 12 = .ok (.getfield 28, 3) := by decide +kernel
theorem dX8_first_15 : decode cX8_first 15 = .ok (.getfield 164, 3) := by decide +kernel
theorem dX8_first_18 : decode cX8_first 18 = .ok (.aload_n 0, 1) := by decide +kernel
theorem dX8_first_19 : decode cX8_first 19 = .ok (.getfield 28, 3) := by decide +kernel
theorem dX8_first_22 : decode cX8_first 22 = .ok (.getfield 204, 3) := by decide +kernel
theorem dX8_first_25 : decode cX8_first 25 = .ok (.aload_n 0, 1) := by decide +kernel
theorem dX8_first_26 : decode cX8_first 26 = .ok (.getfield 21, 3) := by decide +kernel
theorem dX8_first_29 : decode cX8_first 29 = .ok (.invokevirtual 180, 3) := by decide +kernel
theorem dX8_first_32 : decode cX8_first 32 = .ok (.invokevirtual 207, 3) := by decide +kernel
theorem dX8_first_35 : decode cX8_first 35 = .ok (.lreturn, 1) := by decide +kernel
theorem dX8_night_0 : decode cX8_night 0 = .ok (.iload_n 1, 1) := by decide +kernel
theorem dX8_night_1 : decode cX8_night 1 = .ok (.ifCond .lt 26, 3) := by decide +kernel
theorem dX8_night_4 : decode cX8_night 4 = .ok (.iload_n 1, 1) := by decide +kernel
theorem dX8_night_5 : decode cX8_night 5 = .ok (.sipush 9999, 3) := by decide +kernel
theorem dX8_night_8 : decode cX8_night 8 = .ok (.if_icmp .gt 19, 3) := by decide +kernel
theorem dX8_night_11 : decode cX8_night 11 = .ok (.iload_n 2, 1) := by decide +kernel
theorem dX8_night_12 : decode cX8_night 12 = .ok (.invokestatic 225, 3) := by decide +kernel
theorem dX8_night_15 : decode cX8_night 15 = .ok (.ifCond .eq 12, 3) := by decide +kernel
theorem dX8_night_18 : decode cX8_night 18 = .ok (.iload_n 3, 1) := by decide +kernel
theorem dX8_night_19 : decode cX8_night 19 = .ok (.ifCond .lt 8, 3) := by decide +kernel
theorem dX8_night_22 : decode cX8_night 22 = .ok (.iload_n 3, 1) := by decide +kernel
theorem dX8_night_23 : decode cX8_night 23 = .ok (.iconst 1, 1) := by decide +kernel
theorem dX8_night_24 : decode cX8_night 24 = .ok (.if_icmp .le 7, 3) := by decide +kernel
theorem dX8_night_27 : decode cX8_night 27 = .ok (.ldc2_w 175, 3) := by decide +kernel
theorem dX8_night_30 : decode cX8_night 30 = .ok (.lreturn, 1) := by decide +kernel
theorem dX8_night_31 : decode cX8_night 31 = .ok (.aload_n 0, 1) := by decide +kernel
theorem dX8_night_32 : decode cX8_night 32 = .ok (.getfield 21, 3) := by decide +kernel
theorem dX8_night_35 : decode cX8_night 35 = .ok (.iload_n 1, 1) := by decide +kernel
theorem dX8_night_36 : decode cX8_night 36 = .ok (.invokevirtual 271, 3) := by decide +kernel
theorem dX8_night_39 : decode cX8_night 39 = .ok (.istore 4, 2) := by decide +kernel
theorem dX8_night_41 : decode cX8_night 41 = .ok (.iload_n 3, 1) := by decide +kernel
theorem dX8_night_42 : decode cX8_night 42 = .ok (.ifCond .ne 9, 3) := by decide +kernel
theorem dX8_night_45 : decode cX8_night 45 = .ok (.iload 4, 2) := by decide +kernel
theorem dX8_night_47 : decode cX8_night 47 = .ok (.i2l, 1) := by decide +kernel
theorem dX8_night_48 : decode cX8_night 48 = .ok (.goto 10, 3) := by decide +kernel
theorem dX8_night_51 : decode cX8_night 51 = .ok (.aload_n 0, 1) := by decide +kernel
theorem dX8_night_52 : decode cX8_night 52 = .ok (.iload_n 2, 1) := by decide +kernel
theorem dX8_night_53 : decode cX8_night 53 = .ok (.iload 4, 2) := by decide +kernel
theorem dX8_night_55 : decode cX8_night 55 = .ok (.invokevirtual 234, 3) := by decide +kernel
theorem dX8_night_58 : decode cX8_night 58 = .ok (.lreturn, 1) := by decide +kernel
theorem dX8_keep_0 : decode cX8_keep 0 = .ok (.aload_n 0, 1) := by decide +kernel
theorem dX8_keep_1 : decode cX8_keep 1 = .ok (.getfield 123, 3) := by decide +kernel
theorem dX8_keep_4 : decode cX8_keep 4 = .ok (.iconst 2, 1) := by decide +kernel
theorem dX8_keep_5 : decode cX8_keep 5 = .ok (.if_icmp .lt 6, 3) := by decide +kernel
theorem dX8_keep_8 : decode cX8_keep 8 = .ok (.bipush (-3), 2) := by decide +kernel
theorem dX8_keep_10 : decode cX8_keep 10 = .ok (.ireturn, 1) := by decide +kernel
theorem dX8_keep_11 : decode cX8_keep 11 = .ok (.aload_n 0, 1) := by decide +kernel
theorem dX8_keep_12 : decode cX8_keep 12 = .ok (.getfield 32, 3) := by decide +kernel
theorem dX8_keep_15 : decode cX8_keep 15 = .ok (.aload_n 0, 1) := by decide +kernel
theorem dX8_keep_16 : decode cX8_keep 16 = .ok (.getfield 123, 3) := by decide +kernel
theorem dX8_keep_19 : decode cX8_keep 19 = .ok (.aaload, 1) := by decide +kernel
theorem dX8_keep_20 : decode cX8_keep 20 = .ok (.aload_n 0, 1) := by decide +kernel
theorem dX8_keep_21 : decode cX8_keep 21 = .ok (.getfield 28, 3) := by decide +kernel
theorem dX8_keep_24 : decode cX8_keep 24 = .ok (.invokevirtual 274, 3) := by decide +kernel
theorem dX8_keep_27 : decode cX8_keep 27 = .ok (.aload_n 0, 1) := by decide +kernel
theorem dX8_keep_28 : decode cX8_keep 28 = .ok (.dup, 1) := by decide +kernel
theorem dX8_keep_29 : decode cX8_keep 29 = .ok (.getfield 123, 3) := by decide +kernel
theorem dX8_keep_32 : decode cX8_keep 32 = .ok (.iconst 1, 1) := by decide +kernel
theorem dX8_keep_33 : decode cX8_keep 33 = .ok (.iadd, 1) := by decide +kernel
theorem dX8_keep_34 : decode cX8_keep 34 = .ok (.putfield 123, 3) := by decide +kernel
theorem dX8_keep_37 : decode cX8_keep 37 = .ok (.aload_n 0, 1) := by decide +kernel
theorem dX8_keep_38 : decode cX8_keep 38 = .ok (.getfield 123, 3) := by decide +kernel
theorem dX8_keep_41 : decode cX8_keep 41 = .ok (.ireturn, 1) := by decide +kernel
theorem dX8_back_0 : decode cX8_back 0 = .ok (.aload_n 0, 1) := by decide +kernel
theorem dX8_back_1 : decode cX8_back 1 = .ok (.getfield 123, 3) := by decide +kernel
theorem dX8_back_4 : decode cX8_back 4 = .ok (.iconst 1, 1) := by decide +kernel
theorem dX8_back_5 : decode cX8_back 5 = .ok (.if_icmp .ge 6, 3) := by decide +kernel
theorem dX8_back_8 : decode cX8_back 8 = .ok (.bipush (-2), 2) := by decide +kernel
theorem dX8_back_10 : decode cX8_back 10 = .ok (.ireturn, 1) := by decide +kernel
theorem dX8_back_11 : decode cX8_back 11 = .ok (.aload_n 0, 1) := by decide +kernel
theorem dX8_back_12 : decode cX8_back 12 = .ok (.dup, 1) := by decide +kernel
theorem dX8_back_13 : decode cX8_back 13 = .ok (.getfield 123, 3) := by decide +kernel
theorem dX8_back_16 : decode cX8_back 16 = .ok (.iconst 1, 1) := by decide +kernel
theorem dX8_back_17 : decode cX8_back 17 = .ok (.isub, 1) := by decide +kernel
theorem dX8_back_18 : decode cX8_back 18 = .ok (.putfield 123, 3) := by decide +kernel
theorem dX8_back_21 : decode cX8_back 21 = .ok (.aload_n 0, 1) := by decide +kernel
theorem dX8_back_22 : decode cX8_back 22 = .ok (.getfield 28, 3) := by decide +kernel
theorem dX8_back_25 : decode cX8_back 25 = .ok (.aload_n 0, 1) := by decide +kernel
theorem dX8_back_26 : decode cX8_back 26 = .ok (.getfield 32, 3) := by decide +kernel
theorem dX8_back_29 : decode cX8_back 29 = .ok (.aload_n 0, 1) := by decide +kernel
theorem dX8_back_30 : decode cX8_back 30 = .ok (.getfield 123, 3) := by decide +kernel
theorem dX8_back_33 : decode cX8_back 33 = .ok (.aaload, 1) := by decide +kernel
theorem dX8_back_34 : decode cX8_back 34 = .ok (.invokevirtual 274, 3) := by decide +kernel
theorem dX8_back_37 : decode cX8_back 37 = .ok (.aload_n 0, 1) := by decide +kernel
theorem dX8_back_38 : decode cX8_back 38 = .ok (.getfield 123, 3) := by decide +kernel
theorem dX8_back_41 : decode cX8_back 41 = .ok (.ireturn, 1) := by decide +kernel
theorem dX8_count_0 : decode cX8_count 0 = .ok (.iload_n 1, 1) := by decide +kernel
theorem dX8_count_1 : decode cX8_count 1 = .ok (.tableswitch 84 0 5 #[39, 47, 55, 63, 71, 79], 39) := by decide +kernel
theorem dX8_count_40 : decode cX8_count 40 = .ok (.aload_n 0, 1) := by decide +kernel
theorem dX8_count_41 : decode cX8_count 41 = .ok (.getfield 21, 3) := by decide +kernel
theorem dX8_count_44 : decode cX8_count 44 = .ok (.getfield 277, 3) := by decide +kernel
theorem dX8_count_47 : decode cX8_count 47 = .ok (.ireturn, 1) := by decide +kernel
theorem dX8_count_48 : decode cX8_count 48 = .ok (.aload_n 0, 1) := by decide +kernel
theorem dX8_count_49 : decode cX8_count 49 = .ok (.getfield 21, 3) := by decide +kernel
theorem dX8_count_52 : decode cX8_count 52 = .ok (.getfield 126, 3) := by decide +kernel
theorem dX8_count_55 : decode cX8_count 55 = .ok (.ireturn, 1) := by decide +kernel
theorem dX8_count_56 : decode cX8_count 56 = .ok (.aload_n 0, 1) := by decide +kernel
theorem dX8_count_57 : decode cX8_count 57 = .ok (.getfield 21, 3) := by decide +kernel
theorem dX8_count_60 : decode cX8_count 60 = .ok (.getfield 228, 3) := by decide +kernel
theorem dX8_count_63 : decode cX8_count 63 = .ok (.ireturn, 1) := by decide +kernel
theorem dX8_count_64 : decode cX8_count 64 = .ok (.aload_n 0, 1) := by decide +kernel
theorem dX8_count_65 : decode cX8_count 65 = .ok (.getfield 21, 3) := by decide +kernel
theorem dX8_count_68 : decode cX8_count 68 = .ok (.invokevirtual 280, 3) := by decide +kernel
theorem dX8_count_71 : decode cX8_count 71 = .ok (.ireturn, 1) := by decide +kernel
theorem dX8_count_72 : decode cX8_count 72 = .ok (.aload_n 0, 1) := by decide +kernel
theorem dX8_count_73 : decode cX8_count 73 = .ok (.getfield 12, 3) := by decide +kernel
theorem dX8_count_76 : decode cX8_count 76 = .ok (.getfield 99, 3) := by decide +kernel
theorem dX8_count_79 : decode cX8_count 79 = .ok (.ireturn, 1) := by decide +kernel
theorem dX8_count_80 : decode cX8_count 80 = .ok (.aload_n 0, 1) := by decide +kernel
theorem dX8_count_81 : decode cX8_count 81 = .ok (.getfield 123, 3) := by decide +kernel
theorem dX8_count_84 : decode cX8_count 84 = .ok (.ireturn, 1) := by decide +kernel
theorem dX8_count_85 : decode cX8_count 85 = .ok (.iconst (-1), 1) := by decide +kernel
theorem dX8_count_86 : decode cX8_count 86 = .ok (.ireturn, 1) := by decide +kernel
theorem dX8_worthByRule_0 : decode cX8_worthByRule 0 = .ok (.aload_n 0, 1) := by decide +kernel
theorem dX8_worthByRule_1 : decode cX8_worthByRule 1 = .ok (.getfield 50, 3) := by decide +kernel
theorem dX8_worthByRule_4 : decode cX8_worthByRule 4 = .ok (.iload_n 1, 1) := by decide +kernel
theorem dX8_worthByRule_5 : decode cX8_worthByRule 5 = .ok (.iload_n 2, 1) := by decide +kernel
theorem dX8_worthByRule_6 : decode cX8_worthByRule 6 = .ok (.aload_n 0, 1) := by decide +kernel
theorem dX8_worthByRule_7 : decode cX8_worthByRule 7 = .ok (.getfield 73, 3) := by decide +kernel
theorem dX8_worthByRule_10 : decode cX8_worthByRule 10 = .ok (.invokevirtual 238, 3) := by decide +kernel
theorem dX8_worthByRule_13 : decode cX8_worthByRule 13 = .ok (.aload_n 0, 1) := by decide +kernel
theorem dX8_worthByRule_14 : decode cX8_worthByRule 14 = .ok (.getfield 41, 3) := by decide +kernel
theorem dX8_worthByRule_17 : decode cX8_worthByRule 17 = .ok (.invokevirtual 177, 3) := by decide +kernel
theorem dX8_worthByRule_20 : decode cX8_worthByRule 20 = .ok (.aload_n 0, 1) := by decide +kernel
theorem dX8_worthByRule_21 : decode cX8_worthByRule 21 = .ok (.getfield 41, 3) := by decide +kernel
theorem dX8_worthByRule_24 : decode cX8_worthByRule 24 = .ok (.iload_n 2, 1) := by decide +kernel
theorem dX8_worthByRule_25 : decode cX8_worthByRule 25 = .ok (.aload_n 0, 1) := by decide +kernel
theorem dX8_worthByRule_26 : decode cX8_worthByRule 26 = .ok (.getfield 73, 3) := by decide +kernel
theorem dX8_worthByRule_29 : decode cX8_worthByRule 29 = .ok (.aload_n 0, 1) := by decide +kernel
theorem dX8_worthByRule_30 : decode cX8_worthByRule 30 = .ok (.getfield 21, 3) := by decide +kernel
theorem dX8_worthByRule_33 : decode cX8_worthByRule 33 = .ok (.invokevirtual 180, 3) := by decide +kernel
theorem dX8_worthByRule_36 : decode cX8_worthByRule 36 = .ok (.invokevirtual 183, 3) := by decide +kernel
theorem dX8_worthByRule_39 : decode cX8_worthByRule 39 = .ok (.lreturn, 1) := by decide +kernel
theorem dX8_meanOfGun_0 : decode cX8_meanOfGun 0 = .ok (.iconst 0, 1) := by decide +kernel
theorem dX8_meanOfGun_1 : decode cX8_meanOfGun 1 = .ok (.istore_n 2, 1) := by decide +kernel
theorem dX8_meanOfGun_2 : decode cX8_meanOfGun 2 = .ok (.iload_n 2, 1) := by decide +kernel
theorem dX8_meanOfGun_3 : decode cX8_meanOfGun 3 = .ok (.aload_n 0, 1) := by decide +kernel
theorem dX8_meanOfGun_4 : decode cX8_meanOfGun 4 = .ok (.getfield 21, 3) := by decide +kernel
theorem dX8_meanOfGun_7 : decode cX8_meanOfGun 7 = .ok (.getfield 126, 3) := by decide +kernel
theorem dX8_meanOfGun_10 : decode cX8_meanOfGun 10 = .ok (.if_icmp .ge 26, 3) := by decide +kernel
theorem dX8_meanOfGun_13 : decode cX8_meanOfGun 13 = .ok (.aload_n 0, 1) := by decide +kernel
theorem dX8_meanOfGun_14 : decode cX8_meanOfGun 14 = .ok (.getfield 73, 3) := by decide +kernel
theorem dX8_meanOfGun_17 : decode cX8_meanOfGun 17 = .ok (.iload_n 2, 1) := by decide +kernel
theorem dX8_meanOfGun_18 : decode cX8_meanOfGun 18 = .ok (.iload_n 1, 1) := by decide +kernel
theorem dX8_meanOfGun_19 : decode cX8_meanOfGun 19 = .ok (.aload_n 0, 1) := by decide +kernel
theorem dX8_meanOfGun_20 : decode cX8_meanOfGun 20 = .ok (.getfield 21, 3) := by decide +kernel
theorem dX8_meanOfGun_23 : decode cX8_meanOfGun 23 = .ok (.iload_n 2, 1) := by decide +kernel
theorem dX8_meanOfGun_24 : decode cX8_meanOfGun 24 = .ok (.invokevirtual 283, 3) := by decide +kernel
theorem dX8_meanOfGun_27 : decode cX8_meanOfGun 27 = .ok (.invokevirtual 171, 3) := by decide +kernel
theorem dX8_meanOfGun_30 : decode cX8_meanOfGun 30 = .ok (.iinc 2 1, 3) := by decide +kernel
theorem dX8_meanOfGun_33 : decode cX8_meanOfGun 33 = .ok (.goto (-31), 3) := by decide +kernel
theorem dX8_meanOfGun_36 : decode cX8_meanOfGun 36 = .ok (.aload_n 0, 1) := by decide +kernel
theorem dX8_meanOfGun_37 : decode cX8_meanOfGun 37 = .ok (.getfield 41, 3) := by decide +kernel
theorem dX8_meanOfGun_40 : decode cX8_meanOfGun 40 = .ok (.invokevirtual 177, 3) := by decide +kernel
theorem dX8_meanOfGun_43 : decode cX8_meanOfGun 43 = .ok (.aload_n 0, 1) := by decide +kernel
theorem dX8_meanOfGun_44 : decode cX8_meanOfGun 44 = .ok (.getfield 41, 3) := by decide +kernel
theorem dX8_meanOfGun_47 : decode cX8_meanOfGun 47 = .ok (.aload_n 0, 1) := by decide +kernel
theorem dX8_meanOfGun_48 : decode cX8_meanOfGun 48 = .ok (.getfield 73, 3) := by decide +kernel
theorem dX8_meanOfGun_51 : decode cX8_meanOfGun 51 = .ok (.aload_n 0, 1) := by decide +kernel
theorem dX8_meanOfGun_52 : decode cX8_meanOfGun 52 = .ok (.getfield 28, 3) := by decide +kernel
theorem dX8_meanOfGun_55 : decode cX8_meanOfGun 55 = .ok (.getfield 204, 3) := by decide +kernel
theorem dX8_meanOfGun_58 : decode cX8_meanOfGun 58 = .ok (.aload_n 0, 1) := by decide +kernel
theorem dX8_meanOfGun_59 : decode cX8_meanOfGun 59 = .ok (.getfield 21, 3) := by decide +kernel
theorem dX8_meanOfGun_62 : decode cX8_meanOfGun 62 = .ok (.invokevirtual 180, 3) := by decide +kernel
theorem dX8_meanOfGun_65 : decode cX8_meanOfGun 65 = .ok (.invokevirtual 207, 3) := by decide +kernel
theorem dX8_meanOfGun_68 : decode cX8_meanOfGun 68 = .ok (.lreturn, 1) := by decide +kernel
theorem dX8_isHour_0 : decode cX8_isHour 0 = .ok (.iload_n 0, 1) := by decide +kernel
theorem dX8_isHour_1 : decode cX8_isHour 1 = .ok (.ifCond .lt 13, 3) := by decide +kernel
theorem dX8_isHour_4 : decode cX8_isHour 4 = .ok (.iload_n 0, 1) := by decide +kernel
theorem dX8_isHour_5 : decode cX8_isHour 5 = .ok (.bipush 24, 2) := by decide +kernel
theorem dX8_isHour_7 : decode cX8_isHour 7 = .ok (.if_icmp .ge 7, 3) := by decide +kernel
theorem dX8_isHour_10 : decode cX8_isHour 10 = .ok (.iconst 1, 1) := by decide +kernel
theorem dX8_isHour_11 : decode cX8_isHour 11 = .ok (.goto 4, 3) := by decide +kernel
theorem dX8_isHour_14 : decode cX8_isHour 14 = .ok (.iconst 0, 1) := by decide +kernel
theorem dX8_isHour_15 : decode cX8_isHour 15 = .ok (.ireturn, 1) := by decide +kernel
theorem dX8_isHourOrNever_0 : decode cX8_isHourOrNever 0 = .ok (.iload_n 0, 1) := by decide +kernel
theorem dX8_isHourOrNever_1 : decode cX8_isHourOrNever 1 = .ok (.ifCond .lt 13, 3) := by decide +kernel
theorem dX8_isHourOrNever_4 : decode cX8_isHourOrNever 4 = .ok (.iload_n 0, 1) := by decide +kernel
theorem dX8_isHourOrNever_5 : decode cX8_isHourOrNever 5 = .ok (.bipush 24, 2) := by decide +kernel
theorem dX8_isHourOrNever_7 : decode cX8_isHourOrNever 7 = .ok (.if_icmp .gt 7, 3) := by decide +kernel
theorem dX8_isHourOrNever_10 : decode cX8_isHourOrNever 10 = .ok (.iconst 1, 1) := by decide +kernel
theorem dX8_isHourOrNever_11 : decode cX8_isHourOrNever 11 = .ok (.goto 4, 3) := by decide +kernel
theorem dX8_isHourOrNever_14 : decode cX8_isHourOrNever 14 = .ok (.iconst 0, 1) := by decide +kernel
theorem dX8_isHourOrNever_15 : decode cX8_isHourOrNever 15 = .ok (.ireturn, 1) := by decide +kernel
theorem dX8_isRule_0 : decode cX8_isRule 0 = .ok (.iload_n 0, 1) := by decide +kernel
theorem dX8_isRule_1 : decode cX8_isRule 1 = .ok (.ifCond .lt 12, 3) := by decide +kernel
theorem dX8_isRule_4 : decode cX8_isRule 4 = .ok (.iload_n 0, 1) := by decide +kernel
theorem dX8_isRule_5 : decode cX8_isRule 5 = .ok (.iconst 4, 1) := by decide +kernel
theorem dX8_isRule_6 : decode cX8_isRule 6 = .ok (.if_icmp .gt 7, 3) := by decide +kernel
theorem dX8_isRule_9 : decode cX8_isRule 9 = .ok (.iconst 1, 1) := by decide +kernel
theorem dX8_isRule_10 : decode cX8_isRule 10 = .ok (.goto 4, 3) := by decide +kernel
theorem dX8_isRule_13 : decode cX8_isRule 13 = .ok (.iconst 0, 1) := by decide +kernel
theorem dX8_isRule_14 : decode cX8_isRule 14 = .ok (.ireturn, 1) := by decide +kernel
theorem dX9_init_0 : decode cX9_init 0 = .ok (.aload_n 0, 1) := by decide +kernel
theorem dX9_init_1 : decode cX9_init 1 = .ok (.invokespecial 1, 3) := by decide +kernel
theorem dX9_init_4 : decode cX9_init 4 = .ok (.aload_n 0, 1) := by decide +kernel
theorem dX9_init_5 : decode cX9_init 5 = .ok (.sipush 372, 3) := by decide +kernel
theorem dX9_init_8 : decode cX9_init 8 = .ok (.newarray .int, 2) := by decide +kernel
theorem dX9_init_10 : decode cX9_init 10 = .ok (.putfield 7, 3) := by decide +kernel
theorem dX9_init_13 : decode cX9_init 13 = .ok (.aload_n 0, 1) := by decide +kernel
theorem dX9_init_14 : decode cX9_init 14 = .ok (.bipush 12, 2) := by decide +kernel
theorem dX9_init_16 : decode cX9_init 16 = .ok (.newarray .int, 2) := by decide +kernel
theorem dX9_init_18 : decode cX9_init 18 = .ok (.putfield 13, 3) := by decide +kernel
theorem dX9_init_21 : decode cX9_init 21 = .ok (.aload_n 0, 1) := by decide +kernel
theorem dX9_init_22 : decode cX9_init 22 = .ok (.bipush 24, 2) := by decide +kernel
theorem dX9_init_24 : decode cX9_init 24 = .ok (.newarray .int, 2) := by decide +kernel
theorem dX9_init_26 : decode cX9_init 26 = .ok (.putfield 16, 3) := by decide +kernel
theorem dX9_init_29 : decode cX9_init 29 = .ok (.aload_n 0, 1) := by decide +kernel
theorem dX9_init_30 : decode cX9_init 30 = .ok (.sipush 500, 3) := by decide +kernel
theorem dX9_init_33 : decode cX9_init 33 = .ok (.newarray .int, 2) := by decide +kernel
theorem dX9_init_35 : decode cX9_init 35 = .ok (.putfield 19, 3) := by decide +kernel
theorem dX9_init_38 : decode cX9_init 38 = .ok (.aload_n 0, 1) := by decide +kernel
theorem dX9_init_39 : decode cX9_init 39 = .ok (.iconst 4, 1) := by decide +kernel
theorem dX9_init_40 : decode cX9_init 40 = .ok (.newarray .int, 2) := by decide +kernel
theorem dX9_init_42 : decode cX9_init 42 = .ok (.putfield 22, 3) := by decide +kernel
theorem dX9_init_45 : decode cX9_init 45 = .ok (.aload_n 0, 1) := by decide +kernel
theorem dX9_init_46 : decode cX9_init 46 = .ok (.iconst 4, 1) := by decide +kernel
theorem dX9_init_47 : decode cX9_init 47 = .ok (.newarray .int, 2) := by decide +kernel
theorem dX9_init_49 : decode cX9_init 49 = .ok (.putfield 25, 3) := by decide +kernel
theorem dX9_init_52 : decode cX9_init 52 = .ok (.aload_n 0, 1) := by decide +kernel
theorem dX9_init_53 : decode cX9_init 53 = .ok (.iconst 4, 1) := by decide +kernel
theorem dX9_init_54 : decode cX9_init 54 = .ok (.newarray .int, 2) := by decide +kernel
theorem dX9_init_56 : decode cX9_init 56 = .ok (.putfield 28, 3) := by decide +kernel
theorem dX9_init_59 : decode cX9_init 59 = .ok (.aload_n 0, 1) := by decide +kernel
theorem dX9_init_60 : decode cX9_init 60 = .ok (.bipush 32, 2) := by decide +kernel
theorem dX9_init_62 : decode cX9_init 62 = .ok (.newarray .int, 2) := by decide +kernel
theorem dX9_init_64 : decode cX9_init 64 = .ok (.putfield 31, 3) := by decide +kernel
theorem dX9_init_67 : decode cX9_init 67 = .ok (.aload_n 0, 1) := by decide +kernel
theorem dX9_init_68 : decode cX9_init 68 = .ok (.bipush 32, 2) := by decide +kernel
theorem dX9_init_70 : decode cX9_init 70 = .ok (.newarray .int, 2) := by decide +kernel
theorem dX9_init_72 : decode cX9_init 72 = .ok (.putfield 34, 3) := by decide +kernel
theorem dX9_init_75 : decode cX9_init 75 = .ok (.aload_n 0, 1) := by decide +kernel
theorem dX9_init_76 : decode cX9_init 76 = .ok (.bipush 32, 2) := by decide +kernel
theorem dX9_init_78 : decode cX9_init 78 = .ok (.newarray .int, 2) := by decide +kernel
theorem dX9_init_80 : decode cX9_init 80 = .ok (.putfield 37, 3) := by decide +kernel
theorem dX9_init_83 : decode cX9_init 83 = .ok (.aload_n 0, 1) := by decide +kernel
theorem dX9_init_84 : decode cX9_init 84 = .ok (.bipush 32, 2) := by decide +kernel
theorem dX9_init_86 : decode cX9_init 86 = .ok (.newarray .int, 2) := by decide +kernel
theorem dX9_init_88 : decode cX9_init 88 = .ok (.putfield 40, 3) := by decide +kernel
theorem dX9_init_91 : decode cX9_init 91 = .ok (.aload_n 0, 1) := by decide +kernel
theorem dX9_init_92 : decode cX9_init 92 = .ok (.bipush 32, 2) := by decide +kernel
theorem dX9_init_94 : decode cX9_init 94 = .ok (.newarray .boolean, 2) := by decide +kernel
theorem dX9_init_96 : decode cX9_init 96 = .ok (.putfield 43, 3) := by decide +kernel
theorem dX9_init_99 : decode cX9_init 99 = .ok (.aload_n 0, 1) := by decide +kernel
theorem dX9_init_100 : decode cX9_init 100 = .ok (.iconst 4, 1) := by decide +kernel
theorem dX9_init_101 : decode cX9_init 101 = .ok (.newarray .int, 2) := by decide +kernel
theorem dX9_init_103 : decode cX9_init 103 = .ok (.putfield 47, 3) := by decide +kernel
theorem dX9_init_106 : decode cX9_init 106 = .ok (.aload_n 0, 1) := by decide +kernel
theorem dX9_init_107 : decode cX9_init 107 = .ok (.iconst 4, 1) := by decide +kernel
theorem dX9_init_108 : decode cX9_init 108 = .ok (.newarray .long, 2) := by decide +kernel
theorem dX9_init_110 : decode cX9_init 110 = .ok (.putfield 50, 3) := by decide +kernel
theorem dX9_init_113 : decode cX9_init 113 = .ok (.aload_n 0, 1) := by decide +kernel
theorem dX9_init_114 : decode cX9_init 114 = .ok (.sipush 480, 3) := by decide +kernel
theorem dX9_init_117 : decode cX9_init 117 = .ok (.newarray .long, 2) := by decide +kernel
theorem dX9_init_119 : decode cX9_init 119 = .ok (.putfield 54, 3) := by decide +kernel
theorem dX9_init_122 : decode cX9_init 122 = .ok (.aload_n 0, 1) := by decide +kernel
theorem dX9_init_123 : decode cX9_init 123 = .ok (.sipush 400, 3) := by decide +kernel
theorem dX9_init_126 : decode cX9_init 126 = .ok (.newarray .long, 2) := by decide +kernel
theorem dX9_init_128 : decode cX9_init 128 = .ok (.putfield 57, 3) := by decide +kernel
theorem dX9_init_131 : decode cX9_init 131 = .ok (.aload_n 0, 1) := by decide +kernel
theorem dX9_init_132 : decode cX9_init 132 = .ok (.iconst 0, 1) := by decide +kernel
theorem dX9_init_133 : decode cX9_init 133 = .ok (.invokevirtual 60, 3) := by decide +kernel
theorem dX9_init_136 : decode cX9_init 136 = .ok (.aload_n 0, 1) := by decide +kernel
theorem dX9_init_137 : decode cX9_init 137 = .ok (.getfield 7, 3) := by decide +kernel
theorem dX9_init_140 : decode cX9_init 140 = .ok (.iconst 0, 1) := by decide +kernel
theorem dX9_init_141 : decode cX9_init 141 = .ok (.bipush 9, 2) := by decide +kernel
theorem dX9_init_143 : decode cX9_init 143 = .ok (.iastore, 1) := by decide +kernel
theorem dX9_init_144 : decode cX9_init 144 = .ok (.aload_n 0, 1) := by decide +kernel
theorem dX9_init_145 : decode cX9_init 145 = .ok (.getfield 7, 3) := by decide +kernel
theorem dX9_init_148 : decode cX9_init 148 = .ok (.iconst 1, 1) := by decide +kernel
theorem dX9_init_149 : decode cX9_init 149 = .ok (.bipush 9, 2) := by decide +kernel
theorem dX9_init_151 : decode cX9_init 151 = .ok (.iastore, 1) := by decide +kernel
theorem dX9_init_152 : decode cX9_init 152 = .ok (.aload_n 0, 1) := by decide +kernel
theorem dX9_init_153 : decode cX9_init 153 = .ok (.getfield 7, 3) := by decide +kernel
theorem dX9_init_156 : decode cX9_init 156 = .ok (.iconst 2, 1) := by decide +kernel
theorem dX9_init_157 : decode cX9_init 157 = .ok (.bipush 10, 2) := by decide +kernel
theorem dX9_init_159 : decode cX9_init 159 = .ok (.iastore, 1) := by decide +kernel
theorem dX9_init_160 : decode cX9_init 160 = .ok (.aload_n 0, 1) := by decide +kernel
theorem dX9_init_161 : decode cX9_init 161 = .ok (.getfield 7, 3) := by decide +kernel
theorem dX9_init_164 : decode cX9_init 164 = .ok (.bipush 16, 2) := by decide +kernel
theorem dX9_init_166 : decode cX9_init 166 = .ok (.iconst 1, 1) := by decide +kernel
theorem dX9_init_167 : decode cX9_init 167 = .ok (.iastore, 1) := by decide +kernel
theorem dX9_init_168 : decode cX9_init 168 = .ok (.aload_n 0, 1) := by decide +kernel
theorem dX9_init_169 : decode cX9_init 169 = .ok (.getfield 7, 3) := by decide +kernel
theorem dX9_init_172 : decode cX9_init 172 = .ok (.bipush 17, 2) := by decide +kernel
theorem dX9_init_174 : decode cX9_init 174 = .ok (.iconst 5, 1) := by decide +kernel
theorem dX9_init_175 : decode cX9_init 175 = .ok (.iastore, 1) := by decide +kernel
theorem dX9_init_176 : decode cX9_init 176 = .ok (.aload_n 0, 1) := by decide +kernel
theorem dX9_init_177 : decode cX9_init 177 = .ok (.getfield 7, 3) := by decide +kernel
theorem dX9_init_180 : decode cX9_init 180 = .ok (.bipush 18, 2) := by decide +kernel
theorem dX9_init_182 : decode cX9_init 182 = .ok (.iconst 1, 1) := by decide +kernel
theorem dX9_init_183 : decode cX9_init 183 = .ok (.iastore, 1) := by decide +kernel
theorem dX9_init_184 : decode cX9_init 184 = .ok (.aload_n 0, 1) := by decide +kernel
theorem dX9_init_185 : decode cX9_init 185 = .ok (.getfield 7, 3) := by decide +kernel
theorem dX9_init_188 : decode cX9_init 188 = .ok (.bipush 19, 2) := by decide +kernel
theorem dX9_init_190 : decode cX9_init 190 = .ok (.bipush 10, 2) := by decide +kernel
theorem dX9_init_192 : decode cX9_init 192 = .ok (.iastore, 1) := by decide +kernel
theorem dX9_init_193 : decode cX9_init 193 = .ok (.aload_n 0, 1) := by decide +kernel
theorem dX9_init_194 : decode cX9_init 194 = .ok (.getfield 7, 3) := by decide +kernel
theorem dX9_init_197 : decode cX9_init 197 = .ok (.bipush 20, 2) := by decide +kernel
theorem dX9_init_199 : decode cX9_init 199 = .ok (.iconst 1, 1) := by decide +kernel
theorem dX9_init_200 : decode cX9_init 200 = .ok (.iastore, 1) := by decide +kernel
theorem dX9_init_201 : decode cX9_init 201 = .ok (.aload_n 0, 1) := by decide +kernel
theorem dX9_init_202 : decode cX9_init 202 = .ok (.getfield 7, 3) := by decide +kernel
theorem dX9_init_205 : decode cX9_init 205 = .ok (.bipush 52, 2) := by decide +kernel
theorem dX9_init_207 : decode cX9_init 207 = .ok (.bipush 10, 2) := by decide +kernel
theorem dX9_init_209 : decode cX9_init 209 = .ok (.iastore, 1) := by decide +kernel
theorem dX9_init_210 : decode cX9_init 210 = .ok (.aload_n 0, 1) := by decide +kernel
theorem dX9_init_211 : decode cX9_init 211 = .ok (.getfield 7, 3) := by decide +kernel
theorem dX9_init_214 : decode cX9_init 214 = .ok (.bipush 54, 2) := by decide +kernel
theorem dX9_init_216 : decode cX9_init 216 = .ok (.iconst 1, 1) := by decide +kernel
theorem dX9_init_217 : decode cX9_init 217 = .ok (.iastore, 1) := by decide +kernel
theorem dX9_init_218 : decode cX9_init 218 = .ok (.aload_n 0, 1) := by decide +kernel
theorem dX9_init_219 : decode cX9_init 219 = .ok (.getfield 7, 3) := by decide +kernel
theorem dX9_init_222 : decode cX9_init 222 = .ok (.sipush 183, 3) := by decide +kernel
theorem dX9_init_225 : decode cX9_init 225 = .ok (.iconst 1, 1) := by decide +kernel
theorem dX9_init_226 : decode cX9_init 226 = .ok (.iastore, 1) := by decide +kernel
theorem dX9_init_227 : decode cX9_init 227 = .ok (.aload_n 0, 1) := by decide +kernel
theorem dX9_init_228 : decode cX9_init 228 = .ok (.getfield 7, 3) := by decide +kernel
theorem dX9_init_231 : decode cX9_init 231 = .ok (.sipush 184, 3) := by decide +kernel
theorem dX9_init_234 : decode cX9_init 234 = .ok (.iconst 1, 1) := by decide +kernel
theorem dX9_init_235 : decode cX9_init 235 = .ok (.iastore, 1) := by decide +kernel
theorem dX9_init_236 : decode cX9_init 236 = .ok (.aload_n 0, 1) := by decide +kernel
theorem dX9_init_237 : decode cX9_init 237 = .ok (.getfield 7, 3) := by decide +kernel
theorem dX9_init_240 : decode cX9_init 240 = .ok (.sipush 185, 3) := by decide +kernel
theorem dX9_init_243 : decode cX9_init 243 = .ok (.iconst 1, 1) := by decide +kernel
theorem dX9_init_244 : decode cX9_init 244 = .ok (.iastore, 1) := by decide +kernel
theorem dX9_init_245 : decode cX9_init 245 = .ok (.aload_n 0, 1) := by decide +kernel
theorem dX9_init_246 : decode cX9_init 246 = .ok (.invokevirtual 64, 3) := by decide +kernel
theorem dX9_init_249 : decode cX9_init 249 = .ok (.return_, 1) := by decide +kernel
theorem dX9_isIn_0 : decode cX9_isIn 0 = .ok (.iload_n 0, 1) := by decide +kernel
theorem dX9_isIn_1 : decode cX9_isIn 1 = .ok (.iload_n 1, 1) := by decide +kernel
theorem dX9_isIn_2 : decode cX9_isIn 2 = .ok (.if_icmp .lt 12, 3) := by decide +kernel
theorem dX9_isIn_5 : decode cX9_isIn 5 = .ok (.iload_n 0, 1) := by decide +kernel
theorem dX9_isIn_6 : decode cX9_isIn 6 = .ok (.iload_n 2, 1) := by decide +kernel
theorem dX9_isIn_7 : decode cX9_isIn 7 = .ok (.if_icmp .gt 7, 3) := by decide +kernel
theorem dX9_isIn_10 : decode cX9_isIn 10 = .ok (.iconst 1, 1) := by decide +kernel
theorem dX9_isIn_11 : decode cX9_isIn 11 = .ok (.goto 4, 3) := by decide +kernel
theorem dX9_isIn_14 : decode cX9_isIn 14 = .ok (.iconst 0, 1) := by decide +kernel
theorem dX9_isIn_15 : decode cX9_isIn 15 = .ok (.ireturn, 1) := by decide +kernel
theorem dX9_begins_0 : decode cX9_begins 0 = .ok (.iconst 0, 1) := by decide +kernel
theorem dX9_begins_1 : decode cX9_begins 1 = .ok (.istore_n 2, 1) := by decide +kernel
theorem dX9_begins_2 : decode cX9_begins 2 = .ok (.iload_n 2, 1) := by decide +kernel
theorem dX9_begins_3 : decode cX9_begins 3 = .ok (.sipush 186, 3) := by decide +kernel
theorem dX9_begins_6 : decode cX9_begins 6 = .ok (.if_icmp .ge 46, 3) := by decide +kernel
theorem dX9_begins_9 : decode cX9_begins 9 = .ok (.aload_n 0, 1) := by decide +kernel
theorem dX9_begins_10 : decode cX9_begins 10 = .ok (.getfield 7, 3) := by decide +kernel
theorem dX9_begins_13 : decode cX9_begins 13 = .ok (.iload_n 1, 1) := by decide +kernel
theorem dX9_begins_14 : decode cX9_begins 14 = .ok (.iload_n 2, 1) := by decide +kernel
theorem dX9_begins_15 : decode cX9_begins 15 = .ok (.iadd, 1) := by decide +kernel
theorem dX9_begins_16 : decode cX9_begins 16 = .ok (.iload_n 2, 1) := by decide +kernel
theorem dX9_begins_17 : decode cX9_begins 17 = .ok (.bipush 36, 2) := by decide +kernel
theorem dX9_begins_19 : decode cX9_begins 19 = .ok (.if_icmp .lt 14, 3) := by decide +kernel
theorem dX9_begins_22 : decode cX9_begins 22 = .ok (.iload_n 2, 1) := by decide +kernel
theorem dX9_begins_23 : decode cX9_begins 23 = .ok (.bipush 52, 2) := by decide +kernel
theorem dX9_begins_25 : decode cX9_begins 25 = .ok (.if_icmp .ge 8, 3) := by decide +kernel
theorem dX9_begins_28 : decode cX9_begins 28 = .ok (.bipush 20, 2) := by decide +kernel
theorem dX9_begins_30 : decode cX9_begins 30 = .ok (.goto 15, 3) := by decide +kernel
theorem dX9_begins_33 : decode cX9_begins 33 = .ok (.iload_n 2, 1) := by decide +kernel
theorem dX9_begins_34 : decode cX9_begins 34 = .ok (.sipush 182, 3) := by decide +kernel
theorem dX9_begins_37 : decode cX9_begins 37 = .ok (.if_icmp .ne 7, 3) := by decide +kernel
theorem dX9_begins_40 : decode cX9_begins 40 = .ok (.iconst 3, 1) := by decide +kernel
theorem dX9_begins_41 : decode cX9_begins 41 = .ok (.goto 4, 3) := by decide +kernel
theorem dX9_begins_44 : decode cX9_begins 44 = .ok (.iconst 0, 1) := by decide +kernel
theorem dX9_begins_45 : decode cX9_begins 45 = .ok (.iastore, 1) := by decide +kernel
theorem dX9_begins_46 : decode cX9_begins 46 = .ok (.iinc 2 1, 3) := by decide +kernel
theorem dX9_begins_49 : decode cX9_begins 49 = .ok (.goto (-47), 3) := by decide +kernel
theorem dX9_begins_52 : decode cX9_begins 52 = .ok (.return_, 1) := by decide +kernel
theorem dX9_anew_0 : decode cX9_anew 0 = .ok (.iconst 0, 1) := by decide +kernel
theorem dX9_anew_1 : decode cX9_anew 1 = .ok (.istore_n 1, 1) := by decide +kernel
theorem dX9_anew_2 : decode cX9_anew 2 = .ok (.iload_n 1, 1) := by decide +kernel
theorem dX9_anew_3 : decode cX9_anew 3 = .ok (.bipush 12, 2) := by decide +kernel
theorem dX9_anew_5 : decode cX9_anew 5 = .ok (.if_icmp .ge 16, 3) := by decide +kernel
theorem dX9_anew_8 : decode cX9_anew 8 = .ok (.aload_n 0, 1) := by decide +kernel
theorem dX9_anew_9 : decode cX9_anew 9 = .ok (.getfield 13, 3) := by decide +kernel
theorem dX9_anew_12 : decode cX9_anew 12 = .ok (.iload_n 1, 1) := by decide +kernel
theorem dX9_anew_13 : decode cX9_anew 13 = .ok (.iconst 0, 1) := by decide +kernel
theorem dX9_anew_14 : decode cX9_anew 14 = .ok (.iastore, 1) := by decide +kernel
theorem dX9_anew_15 : decode cX9_anew 15 = .ok (.iinc 1 1, 3) := by decide +kernel
theorem dX9_anew_18 : decode cX9_anew 18 = .ok (.goto (-16), 3) := by decide +kernel
theorem dX9_anew_21 : decode cX9_anew 21 = .ok (.iconst 0, 1) := by decide +kernel
theorem dX9_anew_22 : decode cX9_anew 22 = .ok (.istore_n 1, 1) := by decide +kernel
theorem dX9_anew_23 : decode cX9_anew 23 = .ok (.iload_n 1, 1) := by decide +kernel
theorem dX9_anew_24 : decode cX9_anew 24 = .ok (.iconst 4, 1) := by decide +kernel
theorem dX9_anew_25 : decode cX9_anew 25 = .ok (.if_icmp .ge 21, 3) := by decide +kernel
theorem dX9_anew_28 : decode cX9_anew 28 = .ok (.aload_n 0, 1) := by decide +kernel
theorem dX9_anew_29 : decode cX9_anew 29 = .ok (.getfield 13, 3) := by decide +kernel
theorem dX9_anew_32 : decode cX9_anew 32 = .ok (.iconst 0, 1) := by decide +kernel
theorem dX9_anew_33 : decode cX9_anew 33 = .ok (.iconst 2, 1) := by decide +kernel
theorem dX9_anew_34 : decode cX9_anew 34 = .ok (.iload_n 1, 1) := by decide +kernel
theorem dX9_anew_35 : decode cX9_anew 35 = .ok (.imul, 1) := by decide +kernel
theorem dX9_anew_36 : decode cX9_anew 36 = .ok (.iadd, 1) := by decide +kernel
theorem dX9_anew_37 : decode cX9_anew 37 = .ok (.bipush 24, 2) := by decide +kernel
theorem dX9_anew_39 : decode cX9_anew 39 = .ok (.iastore, 1) := by decide +kernel
theorem dX9_anew_40 : decode cX9_anew 40 = .ok (.iinc 1 1, 3) := by decide +kernel
theorem dX9_anew_43 : decode cX9_anew 43 = .ok (.goto (-20), 3) := by decide +kernel
theorem dX9_anew_46 : decode cX9_anew 46 = .ok (.aload_n 0, 1) := by decide +kernel
theorem dX9_anew_47 : decode cX9_anew 47 = .ok (.getfield 13, 3) := by decide +kernel
theorem dX9_anew_50 : decode cX9_anew 50 = .ok (.bipush 8, 2) := by decide +kernel
theorem dX9_anew_52 : decode cX9_anew 52 = .ok (.iconst 3, 1) := by decide +kernel
theorem dX9_anew_53 : decode cX9_anew 53 = .ok (.iastore, 1) := by decide +kernel
theorem dX9_anew_54 : decode cX9_anew 54 = .ok (.aload_n 0, 1) := by decide +kernel
theorem dX9_anew_55 : decode cX9_anew 55 = .ok (.getfield 13, 3) := by decide +kernel
theorem dX9_anew_58 : decode cX9_anew 58 = .ok (.bipush 9, 2) := by decide +kernel
theorem dX9_anew_60 : decode cX9_anew 60 = .ok (.iconst 4, 1) := by decide +kernel
theorem dX9_anew_61 : decode cX9_anew 61 = .ok (.iastore, 1) := by decide +kernel
theorem dX9_anew_62 : decode cX9_anew 62 = .ok (.aload_n 0, 1) := by decide +kernel
theorem dX9_anew_63 : decode cX9_anew 63 = .ok (.getfield 13, 3) := by decide +kernel
theorem dX9_anew_66 : decode cX9_anew 66 = .ok (.bipush 11, 2) := by decide +kernel
theorem dX9_anew_68 : decode cX9_anew 68 = .ok (.iconst 1, 1) := by decide +kernel
theorem dX9_anew_69 : decode cX9_anew 69 = .ok (.aload_n 0, 1) := by decide +kernel
theorem dX9_anew_70 : decode cX9_anew 70 = .ok (.getfield 7, 3) := by decide +kernel
theorem dX9_anew_73 : decode cX9_anew 73 = .ok (.sipush 185, 3) := by decide +kernel
theorem dX9_anew_76 : decode cX9_anew 76 = .ok (.iaload, 1) := by decide +kernel
theorem dX9_anew_77 : decode cX9_anew 77 = .ok (.ishl, 1) := by decide +kernel
theorem dX9_anew_78 : decode cX9_anew 78 = .ok (.iconst 1, 1) := by decide +kernel
theorem dX9_anew_79 : decode cX9_anew 79 = .ok (.isub, 1) := by decide +kernel
theorem dX9_anew_80 : decode cX9_anew 80 = .ok (.iastore, 1) := by decide +kernel
theorem dX9_anew_81 : decode cX9_anew 81 = .ok (.aload_n 0, 1) := by decide +kernel
theorem dX9_anew_82 : decode cX9_anew 82 = .ok (.iconst 0, 1) := by decide +kernel
theorem dX9_anew_83 : decode cX9_anew 83 = .ok (.putfield 71, 3) := by decide +kernel
theorem dX9_anew_86 : decode cX9_anew 86 = .ok (.return_, 1) := by decide +kernel
theorem dX9_write_0 : decode cX9_write 0 = .ok (.aload_n 0, 1) := by decide +kernel
theorem dX9_write_1 : decode cX9_write 1 = .ok (.iconst 0, 1) := by decide +kernel
theorem dX9_write_2 : decode cX9_write 2 = .ok (.putfield 67, 3) := by decide +kernel
theorem dX9_write_5 : decode cX9_write 5 = .ok (.iload_n 1, 1) := by decide +kernel
theorem dX9_write_6 : decode cX9_write 6 = .ok (.iconst 1, 1) := by decide +kernel
theorem dX9_write_7 : decode cX9_write 7 = .ok (.bipush 8, 2) := by decide +kernel
theorem dX9_write_9 : decode cX9_write 9 = .ok (.invokestatic 74, 3) := by decide +kernel
theorem dX9_write_12 : decode cX9_write 12 = .ok (.ifCond .ne 5, 3) := by decide +kernel
theorem dX9_write_15 : decode cX9_write 15 = .ok (.iconst (-1), 1) := by decide +kernel
theorem dX9_write_16 : decode cX9_write 16 = .ok (.ireturn, 1) := by decide +kernel
theorem dX9_write_17 : decode cX9_write 17 = .ok (.aload_n 0, 1) := by decide +kernel
theorem dX9_write_18 : decode cX9_write 18 = .ok (.getfield 78, 3) := by decide +kernel
theorem dX9_write_21 : decode cX9_write 21 = .ok (.iload_n 1, 1) := by decide +kernel
theorem dX9_write_22 : decode cX9_write 22 = .ok (.iadd, 1) := by decide +kernel
theorem dX9_write_23 : decode cX9_write 23 = .ok (.sipush 500, 3) := by decide +kernel
theorem dX9_write_26 : decode cX9_write 26 = .ok (.if_icmp .le 6, 3) := by decide +kernel
theorem dX9_write_29 : decode cX9_write 29 = .ok (.bipush (-3), 2) := by decide +kernel
theorem dX9_write_31 : decode cX9_write 31 = .ok (.ireturn, 1) := by decide +kernel
theorem dX9_write_32 : decode cX9_write 32 = .ok (.iload_n 1, 1) := by decide +kernel
theorem dX9_write_33 : decode cX9_write 33 = .ok (.iconst 1, 1) := by decide +kernel
theorem dX9_write_34 : decode cX9_write 34 = .ok (.isub, 1) := by decide +kernel
theorem dX9_write_35 : decode cX9_write 35 = .ok (.istore 4, 2) := by decide +kernel
theorem dX9_write_37 : decode cX9_write 37 = .ok (.iload 4, 2) := by decide +kernel
theorem dX9_write_39 : decode cX9_write 39 = .ok (.ifCond .lt 40, 3) := by decide +kernel
theorem dX9_write_42 : decode cX9_write 42 = .ok (.aload_n 0, 1) := by decide +kernel
theorem dX9_write_43 : decode cX9_write 43 = .ok (.getfield 19, 3) := by decide +kernel
theorem dX9_write_46 : decode cX9_write 46 = .ok (.aload_n 0, 1) := by decide +kernel
theorem dX9_write_47 : decode cX9_write 47 = .ok (.getfield 78, 3) := by decide +kernel
theorem dX9_write_50 : decode cX9_write 50 = .ok (.lload_n 2, 1) := by decide +kernel
theorem dX9_write_51 : decode cX9_write 51 = .ok (.bipush 8, 2) := by decide +kernel
theorem dX9_write_53 : decode cX9_write 53 = .ok (.iload 4, 2) := by decide +kernel
theorem dX9_write_55 : decode cX9_write 55 = .ok (.imul, 1) := by decide +kernel
theorem dX9_write_56 : decode cX9_write 56 = .ok (.lshr, 1) := by decide +kernel
theorem dX9_write_57 : decode cX9_write 57 = .ok (.ldc2_w 81, 3) := by decide +kernel
theorem dX9_write_60 : decode cX9_write 60 = .ok (.land, 1) := by decide +kernel
theorem dX9_write_61 : decode cX9_write 61 = .ok (.l2i, 1) := by decide +kernel
theorem dX9_write_62 : decode cX9_write 62 = .ok (.iastore, 1) := by decide +kernel
theorem dX9_write_63 : decode cX9_write 63 = .ok (.aload_n 0, 1) := by decide +kernel
theorem dX9_write_64 : decode cX9_write 64 = .ok (.dup, 1) := by decide +kernel
theorem dX9_write_65 : decode cX9_write 65 = .ok (.getfield 78, 3) := by decide +kernel
theorem dX9_write_68 : decode cX9_write 68 = .ok (.iconst 1, 1) := by decide +kernel
theorem dX9_write_69 : decode cX9_write 69 = .ok (.iadd, 1) := by decide +kernel
theorem dX9_write_70 : decode cX9_write 70 = .ok (.putfield 78, 3) := by decide +kernel
theorem dX9_write_73 : decode cX9_write 73 = .ok (.iinc 4 (-1), 3) := by decide +kernel
theorem dX9_write_76 : decode cX9_write 76 = .ok (.goto (-39), 3) := by decide +kernel
theorem dX9_write_79 : decode cX9_write 79 = .ok (.aload_n 0, 1) := by decide +kernel
theorem dX9_write_80 : decode cX9_write 80 = .ok (.getfield 78, 3) := by decide +kernel
theorem dX9_write_83 : decode cX9_write 83 = .ok (.ireturn, 1) := by decide +kernel
theorem dX9_wipe_0 : decode cX9_wipe 0 = .ok (.aload_n 0, 1) := by decide +kernel
theorem dX9_wipe_1 : decode cX9_wipe 1 = .ok (.iconst 0, 1) := by decide +kernel
theorem dX9_wipe_2 : decode cX9_wipe 2 = .ok (.putfield 67, 3) := by decide +kernel
theorem dX9_wipe_5 : decode cX9_wipe 5 = .ok (.aload_n 0, 1) := by decide +kernel
theorem dX9_wipe_6 : decode cX9_wipe 6 = .ok (.getfield 78, 3) := by decide +kernel
theorem dX9_wipe_9 : decode cX9_wipe 9 = .ok (.istore_n 1, 1) := by decide +kernel
theorem dX9_wipe_10 : decode cX9_wipe 10 = .ok (.aload_n 0, 1) := by decide +kernel
theorem dX9_wipe_11 : decode cX9_wipe 11 = .ok (.iconst 0, 1) := by decide +kernel
theorem dX9_wipe_12 : decode cX9_wipe 12 = .ok (.putfield 78, 3) := by decide +kernel
theorem dX9_wipe_15 : decode cX9_wipe 15 = .ok (.iload_n 1, 1) := by decide +kernel
theorem dX9_wipe_16 : decode cX9_wipe 16 = .ok (.ireturn, 1) := by decide +kernel
theorem dX9_byteAt_0 : decode cX9_byteAt 0 = .ok (.iload_n 1, 1) := by decide +kernel
theorem dX9_byteAt_1 : decode cX9_byteAt 1 = .ok (.aload_n 0, 1) := by decide +kernel
theorem dX9_byteAt_2 : decode cX9_byteAt 2 = .ok (.getfield 78, 3) := by decide +kernel
theorem dX9_byteAt_5 : decode cX9_byteAt 5 = .ok (.if_icmp .ge 12, 3) := by decide +kernel
theorem dX9_byteAt_8 : decode cX9_byteAt 8 = .ok (.aload_n 0, 1) := by decide +kernel
theorem dX9_byteAt_9 : decode cX9_byteAt 9 = .ok (.getfield 19, 3) := by decide +kernel
theorem dX9_byteAt_12 : decode cX9_byteAt 12 = .ok (.iload_n 1, 1) := by decide +kernel
theorem dX9_byteAt_13 : decode cX9_byteAt 13 = .ok (.iaload, 1) := by decide +kernel
theorem dX9_byteAt_14 : decode cX9_byteAt 14 = .ok (.goto 4, 3) := by decide +kernel
theorem dX9_byteAt_17 : decode cX9_byteAt 17 = .ok (.iconst (-1), 1) := by decide +kernel
theorem dX9_byteAt_18 : decode cX9_byteAt 18 = .ok (.ireturn, 1) := by decide +kernel
theorem dX9_number_0 : decode cX9_number 0 = .ok (.iconst 0, 1) := by decide +kernel
theorem dX9_number_1 : decode cX9_number 1 = .ok (.istore 4, 2) := by decide +kernel
theorem dX9_number_3 : decode cX9_number 3 = .ok (.iconst 0, 1) := by decide +kernel
theorem dX9_number_4 : decode cX9_number 4 = .ok (.istore 5, 2) := by decide +kernel
theorem dX9_number_6 : decode cX9_number 6 = .ok (.aload_n 0, 1) := by decide +kernel
theorem dX9_number_7 : decode cX9_number 7 = .ok (.aload_n 0, 1) := by decide +kernel
theorem dX9_number_8 : decode cX9_number 8 = .ok (.getfield 83, 3) := by decide +kernel
theorem dX9_number_11 : decode cX9_number 11 = .ok (.invokevirtual 86, 3) := by decide +kernel
theorem dX9_number_14 : decode cX9_number 14 = .ok (.bipush 48, 2) := by decide +kernel
theorem dX9_number_16 : decode cX9_number 16 = .ok (.bipush 57, 2) := by decide +kernel
theorem dX9_number_18 : decode cX9_number 18 = .ok (.invokestatic 74, 3) := by decide +kernel
theorem dX9_number_21 : decode cX9_number 21 = .ok (.ifCond .eq 44, 3) := by decide +kernel
theorem dX9_number_24 : decode cX9_number 24 = .ok (.iload 5, 2) := by decide +kernel
theorem dX9_number_26 : decode cX9_number 26 = .ok (.iconst 4, 1) := by decide +kernel
theorem dX9_number_27 : decode cX9_number 27 = .ok (.if_icmp .ge 38, 3) := by decide +kernel
theorem dX9_number_30 : decode cX9_number 30 = .ok (.bipush 10, 2) := by decide +kernel
theorem dX9_number_32 : decode cX9_number 32 = .ok (.iload 4, 2) := by decide +kernel
theorem dX9_number_34 : decode cX9_number 34 = .ok (.imul, 1) := by decide +kernel
theorem dX9_number_35 : decode cX9_number 35 = .ok (.aload_n 0, 1) := by decide +kernel
theorem dX9_number_36 : decode cX9_number 36 = .ok (.aload_n 0, 1) := by decide +kernel
theorem dX9_number_37 : decode cX9_number 37 = .ok (.getfield 83, 3) := by decide +kernel
theorem dX9_number_40 : decode cX9_number 40 = .ok (.invokevirtual 86, 3) := by decide +kernel
theorem dX9_number_43 : decode cX9_number 43 = .ok (.iadd, 1) := by decide +kernel
theorem dX9_number_44 : decode cX9_number 44 = .ok (.bipush 48, 2) := by decide +kernel
theorem dX9_number_46 : decode cX9_number 46 = .ok (.isub, 1) := by decide +kernel
theorem dX9_number_47 : decode cX9_number 47 = .ok (.istore 4, 2) := by decide +kernel
theorem dX9_number_49 : decode cX9_number 49 = .ok (.aload_n 0, 1) := by decide +kernel
theorem dX9_number_50 : decode cX9_number 50 = .ok (.dup, 1) := by decide +kernel
theorem dX9_number_51 : decode cX9_number 51 = .ok (.getfield 83, 3) := by decide +kernel
theorem dX9_number_54 : decode cX9_number 54 = .ok (.iconst 1, 1) := by decide +kernel
theorem dX9_number_55 : decode cX9_number 55 = .ok (.iadd, 1) := by decide +kernel
theorem dX9_number_56 : decode cX9_number 56 = .ok (.putfield 83, 3) := by decide +kernel
theorem dX9_number_59 : decode cX9_number 59 = .ok (.iinc 5 1, 3) := by decide +kernel
theorem dX9_number_62 : decode cX9_number 62 = .ok (.goto (-56), 3) := by decide +kernel
theorem dX9_number_65 : decode cX9_number 65 = .ok (.aload_n 0, 1) := by decide +kernel
theorem dX9_number_66 : decode cX9_number 66 = .ok (.aload_n 0, 1) := by decide +kernel
theorem dX9_number_67 : decode cX9_number 67 = .ok (.getfield 90, 3) := by decide +kernel
theorem dX9_number_70 : decode cX9_number 70 = .ok (.ifCond .eq 39, 3) := by decide +kernel
theorem dX9_number_73 : decode cX9_number 73 = .ok (.iload 5, 2) := by decide +kernel
theorem dX9_number_75 : decode cX9_number 75 = .ok (.iconst 1, 1) := by decide +kernel
theorem dX9_number_76 : decode cX9_number 76 = .ok (.iconst 3, 1) := by decide +kernel
theorem dX9_number_77 : decode cX9_number 77 = .ok (.invokestatic 74, 3) := by decide +kernel
theorem dX9_number_80 : decode cX9_number 80 = .ok (.ifCond .eq 29, 3) := by decide +kernel
theorem dX9_number_83 : decode cX9_number 83 = .ok (.iload 4, 2) := by decide +kernel
theorem dX9_number_85 : decode cX9_number 85 = .ok (.iload_n 1, 1) := by decide +kernel
theorem dX9_number_86 : decode cX9_number 86 = .ok (.iload_n 2, 1) := by decide +kernel
theorem dX9_number_87 : decode cX9_number 87 = .ok (.invokestatic 74, 3) := by decide +kernel
theorem dX9_number_90 : decode cX9_number 90 = .ok (.ifCond .eq 19, 3) := by decide +kernel
theorem dX9_number_93 : decode cX9_number 93 = .ok (.aload_n 0, 1) := by decide +kernel
theorem dX9_number_94 : decode cX9_number 94 = .ok (.aload_n 0, 1) := by decide +kernel
theorem dX9_number_95 : decode cX9_number 95 = .ok (.getfield 83, 3) := by decide +kernel
theorem dX9_number_98 : decode cX9_number 98 = .ok (.invokevirtual 86, 3) := by decide +kernel
theorem dX9_number_101 : decode cX9_number 101 = .ok (.iload_n 3, 1) := by decide +kernel
theorem dX9_number_102 : decode cX9_number 102 = .ok (.if_icmp .ne 7, 3) := by decide +kernel
theorem dX9_number_105 : decode cX9_number 105 = .ok (.iconst 1, 1) := by decide +kernel
theorem dX9_number_106 : decode cX9_number 106 = .ok (.goto 4, 3) := by decide +kernel
theorem dX9_number_109 : decode cX9_number 109 = .ok (.iconst 0, 1) := by decide +kernel
theorem dX9_number_110 : decode cX9_number 110 = .ok (.putfield 90, 3) := by decide +kernel
theorem dX9_number_113 : decode cX9_number 113 = .ok (.aload_n 0, 1) := by decide +kernel
theorem dX9_number_114 : decode cX9_number 114 = .ok (.dup, 1) := by decide +kernel
theorem dX9_number_115 : decode cX9_number 115 = .ok (.getfield 83, 3) := by decide +kernel
theorem dX9_number_118 : decode cX9_number 118 = .ok (.iconst 1, 1) := by decide +kernel
theorem dX9_number_119 : decode cX9_number 119 = .ok (.iadd, 1) := by decide +kernel
theorem dX9_number_120 : decode cX9_number 120 = .ok (.putfield 83, 3) := by decide +kernel
theorem dX9_number_123 : decode cX9_number 123 = .ok (.aload_n 0, 1) := by decide +kernel
theorem dX9_number_124 : decode cX9_number 124 = .ok (.getfield 90, 3) := by decide +kernel
theorem dX9_number_127 : decode cX9_number 127 = .ok (.ifCond .eq 8, 3) := by decide +kernel
theorem dX9_number_130 : decode cX9_number 130 = .ok (.iload 4, 2) := by decide +kernel
theorem dX9_number_132 : decode cX9_number 132 = .ok (.goto 4, 3) := by decide +kernel
theorem dX9_number_135 : decode cX9_number 135 = .ok (.iload_n 1, 1) := by decide +kernel
theorem dX9_number_136 : decode cX9_number 136 = .ok (.ireturn, 1) := by decide +kernel
theorem dX9_draft_0 : decode cX9_draft 0 = .ok (.aload_n 0, 1) := by decide +kernel
theorem dX9_draft_1 : decode cX9_draft 1 = .ok (.getfield 7, 3) := by decide +kernel
theorem dX9_draft_4 : decode cX9_draft 4 = .ok (.sipush 186, 3) := by decide +kernel
theorem dX9_draft_7 : decode cX9_draft 7 = .ok (.iload_n 1, 1) := by decide +kernel
theorem dX9_draft_8 : decode cX9_draft 8 = .ok (.iadd, 1) := by decide +kernel
theorem dX9_draft_9 : decode cX9_draft 9 = .ok (.iaload, 1) := by decide +kernel
theorem dX9_draft_10 : decode cX9_draft 10 = .ok (.ireturn, 1) := by decide +kernel
theorem dX9_puts_0 : decode cX9_puts 0 = .ok (.aload_n 0, 1) := by decide +kernel
theorem dX9_puts_1 : decode cX9_puts 1 = .ok (.getfield 90, 3) := by decide +kernel
theorem dX9_puts_4 : decode cX9_puts 4 = .ok (.ifCond .eq 14, 3) := by decide +kernel
theorem dX9_puts_7 : decode cX9_puts 7 = .ok (.aload_n 0, 1) := by decide +kernel
theorem dX9_puts_8 : decode cX9_puts 8 = .ok (.getfield 7, 3) := by decide +kernel
theorem dX9_puts_11 : decode cX9_puts 11 = .ok (.sipush 186, 3) := by decide +kernel
theorem dX9_puts_14 : decode cX9_puts 14 = .ok (.iload_n 1, 1) := by decide +kernel
theorem dX9_puts_15 : decode cX9_puts 15 = .ok (.iadd, 1) := by decide +kernel
theorem dX9_puts_16 : decode cX9_puts 16 = .ok (.iload_n 2, 1) := by decide +kernel
theorem dX9_puts_17 : decode cX9_puts 17 = .ok (.iastore, 1) := by decide +kernel
theorem dX9_puts_18 : decode cX9_puts 18 = .ok (.return_, 1) := by decide +kernel
theorem dX9_readsHarbour_0 : decode cX9_readsHarbour 0 = .ok (.iconst 0, 1) := by decide +kernel
theorem dX9_readsHarbour_1 : decode cX9_readsHarbour 1 = .ok (.iconst 4, 1) := by decide +kernel
theorem dX9_readsHarbour_2 : decode cX9_readsHarbour 2 = .ok (.aload_n 0, 1) := by decide +kernel
theorem dX9_readsHarbour_3 : decode cX9_readsHarbour 3 = .ok (.sipush 183, 3) := by decide +kernel
theorem dX9_readsHarbour_6 : decode cX9_readsHarbour 6 = .ok (.invokevirtual 94, 3) := by decide +kernel
theorem dX9_readsHarbour_9 : decode cX9_readsHarbour 9 = .ok (.imul, 1) := by decide +kernel
theorem dX9_readsHarbour_10 : decode cX9_readsHarbour 10 = .ok (.iadd, 1) := by decide +kernel
theorem dX9_readsHarbour_11 : decode cX9_readsHarbour 11 = .ok (.istore_n 1, 1) := by decide +kernel
theorem dX9_readsHarbour_12 : decode cX9_readsHarbour 12 = .ok (.aload_n 0, 1) := by decide +kernel
theorem dX9_readsHarbour_13 : decode cX9_readsHarbour 13 = .ok (.iconst 1, 1) := by decide +kernel
theorem dX9_readsHarbour_14 : decode cX9_readsHarbour 14 = .ok (.bipush 99, 2) := by decide +kernel
theorem dX9_readsHarbour_16 : decode cX9_readsHarbour 16 = .ok (.bipush 44, 2) := by decide +kernel
theorem dX9_readsHarbour_18 : decode cX9_readsHarbour 18 = .ok (.invokevirtual 97, 3) := by decide +kernel
theorem dX9_readsHarbour_21 : decode cX9_readsHarbour 21 = .ok (.istore_n 2, 1) := by decide +kernel
theorem dX9_readsHarbour_22 : decode cX9_readsHarbour 22 = .ok (.aload_n 0, 1) := by decide +kernel
theorem dX9_readsHarbour_23 : decode cX9_readsHarbour 23 = .ok (.iconst 1, 1) := by decide +kernel
theorem dX9_readsHarbour_24 : decode cX9_readsHarbour 24 = .ok (.bipush 9, 2) := by decide +kernel
theorem dX9_readsHarbour_26 : decode cX9_readsHarbour 26 = .ok (.bipush 44, 2) := by decide +kernel
theorem dX9_readsHarbour_28 : decode cX9_readsHarbour 28 = .ok (.invokevirtual 97, 3) := by decide +kernel
theorem dX9_readsHarbour_31 : decode cX9_readsHarbour 31 = .ok (.istore_n 3, 1) := by decide +kernel
theorem dX9_readsHarbour_32 : decode cX9_readsHarbour 32 = .ok (.aload_n 0, 1) := by decide +kernel
theorem dX9_readsHarbour_33 : decode cX9_readsHarbour 33 = .ok (.iconst 1, 1) := by decide +kernel
theorem dX9_readsHarbour_34 : decode cX9_readsHarbour 34 = .ok (.bipush 10, 2) := by decide +kernel
theorem dX9_readsHarbour_36 : decode cX9_readsHarbour 36 = .ok (.bipush 44, 2) := by decide +kernel
theorem dX9_readsHarbour_38 : decode cX9_readsHarbour 38 = .ok (.invokevirtual 97, 3) := by decide +kernel
theorem dX9_readsHarbour_41 : decode cX9_readsHarbour 41 = .ok (.istore 4, 2) := by decide +kernel
theorem dX9_readsHarbour_43 : decode cX9_readsHarbour 43 = .ok (.aload_n 0, 1) := by decide +kernel
theorem dX9_readsHarbour_44 : decode cX9_readsHarbour 44 = .ok (.iconst 0, 1) := by decide +kernel
theorem dX9_readsHarbour_45 : decode cX9_readsHarbour 45 = .ok (.bipush 15, 2) := by decide +kernel
theorem dX9_readsHarbour_47 : decode cX9_readsHarbour 47 = .ok (.bipush 59, 2) := by decide +kernel
theorem dX9_readsHarbour_49 : decode cX9_readsHarbour 49 = .ok (.invokevirtual 97, 3) := by decide +kernel
theorem dX9_readsHarbour_52 : decode cX9_readsHarbour 52 = .ok (.istore 5, 2) := by decide +kernel
theorem dX9_readsHarbour_54 : decode cX9_readsHarbour 54 = .ok (.aload_n 0, 1) := by decide +kernel
theorem dX9_readsHarbour_55 : decode cX9_readsHarbour 55 = .ok (.aload_n 0, 1) := by decide +kernel
theorem dX9_readsHarbour_56 : decode cX9_readsHarbour 56 = .ok (.getfield 90, 3) := by decide +kernel
theorem dX9_readsHarbour_59 : decode cX9_readsHarbour 59 = .ok (.ifCond .eq 18, 3) := by decide +kernel
theorem dX9_readsHarbour_62 : decode cX9_readsHarbour 62 = .ok (.aload_n 0, 1) := by decide +kernel
theorem dX9_readsHarbour_63 : decode cX9_readsHarbour 63 = .ok (.sipush 183, 3) := by decide +kernel
theorem dX9_readsHarbour_66 : decode cX9_readsHarbour 66 = .ok (.invokevirtual 94, 3) := by decide +kernel
theorem dX9_readsHarbour_69 : decode cX9_readsHarbour 69 = .ok (.iconst 4, 1) := by decide +kernel
theorem dX9_readsHarbour_70 : decode cX9_readsHarbour 70 = .ok (.if_icmp .ge 7, 3) := by decide +kernel
theorem dX9_readsHarbour_73 : decode cX9_readsHarbour 73 = .ok (.iconst 1, 1) := by decide +kernel
theorem dX9_readsHarbour_74 : decode cX9_readsHarbour 74 = .ok (.goto 4, 3) := by decide +kernel
theorem dX9_readsHarbour_77 : decode cX9_readsHarbour 77 = .ok (.iconst 0, 1) := by decide +kernel
theorem dX9_readsHarbour_78 : decode cX9_readsHarbour 78 = .ok (.putfield 90, 3) := by decide +kernel
theorem dX9_readsHarbour_81 : decode cX9_readsHarbour 81 = .ok (.aload_n 0, 1) := by decide +kernel
theorem dX9_readsHarbour_82 : decode cX9_readsHarbour 82 = .ok (.iload_n 1, 1) := by decide +kernel
theorem dX9_readsHarbour_83 : decode cX9_readsHarbour 83 = .ok (.iload_n 2, 1) := by decide +kernel
theorem dX9_readsHarbour_84 : decode cX9_readsHarbour 84 = .ok (.invokevirtual 101, 3) := by decide +kernel
theorem dX9_readsHarbour_87 : decode cX9_readsHarbour 87 = .ok (.aload_n 0, 1) := by decide +kernel
theorem dX9_readsHarbour_88 : decode cX9_readsHarbour 88 = .ok (.iload_n 1, 1) := by decide +kernel
theorem dX9_readsHarbour_89 : decode cX9_readsHarbour 89 = .ok (.iconst 1, 1) := by decide +kernel
theorem dX9_readsHarbour_90 : decode cX9_readsHarbour 90 = .ok (.iadd, 1) := by decide +kernel
theorem dX9_readsHarbour_91 : decode cX9_readsHarbour 91 = .ok (.iload_n 3, 1) := by decide +kernel
theorem dX9_readsHarbour_92 : decode cX9_readsHarbour 92 = .ok (.invokevirtual 101, 3) := by decide +kernel
theorem dX9_readsHarbour_95 : decode cX9_readsHarbour 95 = .ok (.aload_n 0, 1) := by decide +kernel
theorem dX9_readsHarbour_96 : decode cX9_readsHarbour 96 = .ok (.iload_n 1, 1) := by decide +kernel
theorem dX9_readsHarbour_97 : decode cX9_readsHarbour 97 = .ok (.iconst 2, 1) := by decide +kernel
theorem dX9_readsHarbour_98 : decode cX9_readsHarbour 98 = .ok (.iadd, 1) := by decide +kernel
theorem dX9_readsHarbour_99 : decode cX9_readsHarbour 99 = .ok (.iload 4, 2) := by decide +kernel
theorem dX9_readsHarbour_101 : decode cX9_readsHarbour 101 = .ok (.invokevirtual 101, 3) := by decide +kernel
theorem dX9_readsHarbour_104 : decode cX9_readsHarbour 104 = .ok (.aload_n 0, 1) := by decide +kernel
theorem dX9_readsHarbour_105 : decode cX9_readsHarbour 105 = .ok (.iload_n 1, 1) := by decide +kernel
theorem dX9_readsHarbour_106 : decode cX9_readsHarbour 106 = .ok (.iconst 3, 1) := by decide +kernel
theorem dX9_readsHarbour_107 : decode cX9_readsHarbour 107 = .ok (.iadd, 1) := by decide +kernel
theorem dX9_readsHarbour_108 : decode cX9_readsHarbour 108 = .ok (.iload 5, 2) := by decide +kernel
theorem dX9_readsHarbour_110 : decode cX9_readsHarbour 110 = .ok (.invokevirtual 101, 3) := by decide +kernel
theorem dX9_readsHarbour_113 : decode cX9_readsHarbour 113 = .ok (.aload_n 0, 1) := by decide +kernel
theorem dX9_readsHarbour_114 : decode cX9_readsHarbour 114 = .ok (.sipush 183, 3) := by decide +kernel
theorem dX9_readsHarbour_117 : decode cX9_readsHarbour 117 = .ok (.aload_n 0, 1) := by decide +kernel
theorem dX9_readsHarbour_118 : decode cX9_readsHarbour 118 = .ok (.sipush 183, 3) := by decide +kernel
theorem dX9_readsHarbour_121 : decode cX9_readsHarbour 121 = .ok (.invokevirtual 94, 3) := by decide +kernel
theorem dX9_readsHarbour_124 : decode cX9_readsHarbour 124 = .ok (.iconst 1, 1) := by decide +kernel
theorem dX9_readsHarbour_125 : decode cX9_readsHarbour 125 = .ok (.iadd, 1) := by decide +kernel
theorem dX9_readsHarbour_126 : decode cX9_readsHarbour 126 = .ok (.invokevirtual 101, 3) := by decide +kernel
theorem dX9_readsHarbour_129 : decode cX9_readsHarbour 129 = .ok (.return_, 1) := by decide +kernel
theorem dX9_readsSort_0 : decode cX9_readsSort 0 = .ok (.bipush 16, 2) := by decide +kernel
theorem dX9_readsSort_2 : decode cX9_readsSort 2 = .ok (.iconst 5, 1) := by decide +kernel
theorem dX9_readsSort_3 : decode cX9_readsSort 3 = .ok (.aload_n 0, 1) := by decide +kernel
theorem dX9_readsSort_4 : decode cX9_readsSort 4 = .ok (.sipush 184, 3) := by decide +kernel
theorem dX9_readsSort_7 : decode cX9_readsSort 7 = .ok (.invokevirtual 94, 3) := by decide +kernel
theorem dX9_readsSort_10 : decode cX9_readsSort 10 = .ok (.imul, 1) := by decide +kernel
theorem dX9_readsSort_11 : decode cX9_readsSort 11 = .ok (.iadd, 1) := by decide +kernel
theorem dX9_readsSort_12 : decode cX9_readsSort 12 = .ok (.istore_n 1, 1) := by decide +kernel
theorem dX9_readsSort_13 : decode cX9_readsSort 13 = .ok (.aload_n 0, 1) := by decide +kernel
theorem dX9_readsSort_14 : decode cX9_readsSort 14 = .ok (.iconst 1, 1) := by decide +kernel
theorem dX9_readsSort_15 : decode cX9_readsSort 15 = .ok (.bipush 8, 2) := by decide +kernel
theorem dX9_readsSort_17 : decode cX9_readsSort 17 = .ok (.bipush 44, 2) := by decide +kernel
theorem dX9_readsSort_19 : decode cX9_readsSort 19 = .ok (.invokevirtual 97, 3) := by decide +kernel
theorem dX9_readsSort_22 : decode cX9_readsSort 22 = .ok (.istore_n 2, 1) := by decide +kernel
theorem dX9_readsSort_23 : decode cX9_readsSort 23 = .ok (.aload_n 0, 1) := by decide +kernel
theorem dX9_readsSort_24 : decode cX9_readsSort 24 = .ok (.iconst 1, 1) := by decide +kernel
theorem dX9_readsSort_25 : decode cX9_readsSort 25 = .ok (.bipush 9, 2) := by decide +kernel
theorem dX9_readsSort_27 : decode cX9_readsSort 27 = .ok (.bipush 44, 2) := by decide +kernel
theorem dX9_readsSort_29 : decode cX9_readsSort 29 = .ok (.invokevirtual 97, 3) := by decide +kernel
theorem dX9_readsSort_32 : decode cX9_readsSort 32 = .ok (.istore_n 3, 1) := by decide +kernel
theorem dX9_readsSort_33 : decode cX9_readsSort 33 = .ok (.aload_n 0, 1) := by decide +kernel
theorem dX9_readsSort_34 : decode cX9_readsSort 34 = .ok (.iconst 0, 1) := by decide +kernel
theorem dX9_readsSort_35 : decode cX9_readsSort 35 = .ok (.bipush 99, 2) := by decide +kernel
theorem dX9_readsSort_37 : decode cX9_readsSort 37 = .ok (.bipush 44, 2) := by decide +kernel
theorem dX9_readsSort_39 : decode cX9_readsSort 39 = .ok (.invokevirtual 97, 3) := by decide +kernel
theorem dX9_readsSort_42 : decode cX9_readsSort 42 = .ok (.istore 4, 2) := by decide +kernel
theorem dX9_readsSort_44 : decode cX9_readsSort 44 = .ok (.aload_n 0, 1) := by decide +kernel
theorem dX9_readsSort_45 : decode cX9_readsSort 45 = .ok (.iconst 0, 1) := by decide +kernel
theorem dX9_readsSort_46 : decode cX9_readsSort 46 = .ok (.sipush 999, 3) := by decide +kernel
theorem dX9_readsSort_49 : decode cX9_readsSort 49 = .ok (.bipush 44, 2) := by decide +kernel
theorem dX9_readsSort_51 : decode cX9_readsSort 51 = .ok (.invokevirtual 97, 3) := by decide +kernel
theorem dX9_readsSort_54 : decode cX9_readsSort 54 = .ok (.istore 5, 2) := by decide +kernel
theorem dX9_readsSort_56 : decode cX9_readsSort 56 = .ok (.aload_n 0, 1) := by decide +kernel
theorem dX9_readsSort_57 : decode cX9_readsSort 57 = .ok (.iconst 0, 1) := by decide +kernel
theorem dX9_readsSort_58 : decode cX9_readsSort 58 = .ok (.bipush 9, 2) := by decide +kernel
theorem dX9_readsSort_60 : decode cX9_readsSort 60 = .ok (.bipush 59, 2) := by decide +kernel
theorem dX9_readsSort_62 : decode cX9_readsSort 62 = .ok (.invokevirtual 97, 3) := by decide +kernel
theorem dX9_readsSort_65 : decode cX9_readsSort 65 = .ok (.istore 6, 2) := by decide +kernel
theorem dX9_readsSort_67 : decode cX9_readsSort 67 = .ok (.aload_n 0, 1) := by decide +kernel
theorem dX9_readsSort_68 : decode cX9_readsSort 68 = .ok (.aload_n 0, 1) := by decide +kernel
theorem dX9_readsSort_69 : decode cX9_readsSort 69 = .ok (.getfield 90, 3) := by decide +kernel
theorem dX9_readsSort_72 : decode cX9_readsSort 72 = .ok (.ifCond .eq 18, 3) := by decide +kernel
theorem dX9_readsSort_75 : decode cX9_readsSort 75 = .ok (.aload_n 0, 1) := by decide +kernel
theorem dX9_readsSort_76 : decode cX9_readsSort 76 = .ok (.sipush 184, 3) := by decide +kernel
theorem dX9_readsSort_79 : decode cX9_readsSort 79 = .ok (.invokevirtual 94, 3) := by decide +kernel
theorem dX9_readsSort_82 : decode cX9_readsSort 82 = .ok (.iconst 4, 1) := by decide +kernel
theorem dX9_readsSort_83 : decode cX9_readsSort 83 = .ok (.if_icmp .ge 7, 3) := by decide +kernel
theorem dX9_readsSort_86 : decode cX9_readsSort 86 = .ok (.iconst 1, 1) := by decide +kernel
theorem dX9_readsSort_87 : decode cX9_readsSort 87 = .ok (.goto 4, 3) := by decide +kernel
theorem dX9_readsSort_90 : decode cX9_readsSort 90 = .ok (.iconst 0, 1) := by decide +kernel
theorem dX9_readsSort_91 : decode cX9_readsSort 91 = .ok (.putfield 90, 3) := by decide +kernel
theorem dX9_readsSort_94 : decode cX9_readsSort 94 = .ok (.aload_n 0, 1) := by decide +kernel
theorem dX9_readsSort_95 : decode cX9_readsSort 95 = .ok (.iload_n 1, 1) := by decide +kernel
theorem dX9_readsSort_96 : decode cX9_readsSort 96 = .ok (.iload_n 2, 1) := by decide +kernel
theorem dX9_readsSort_97 : decode cX9_readsSort 97 = .ok (.invokevirtual 101, 3) := by decide +kernel
theorem dX9_readsSort_100 : decode cX9_readsSort 100 = .ok (.aload_n 0, 1) := by decide +kernel
theorem dX9_readsSort_101 : decode cX9_readsSort 101 = .ok (.iload_n 1, 1) := by decide +kernel
theorem dX9_readsSort_102 : decode cX9_readsSort 102 = .ok (.iconst 1, 1) := by decide +kernel
theorem dX9_readsSort_103 : decode cX9_readsSort 103 = .ok (.iadd, 1) := by decide +kernel
theorem dX9_readsSort_104 : decode cX9_readsSort 104 = .ok (.iload_n 3, 1) := by decide +kernel
theorem dX9_readsSort_105 : decode cX9_readsSort 105 = .ok (.invokevirtual 101, 3) := by decide +kernel
theorem dX9_readsSort_108 : decode cX9_readsSort 108 = .ok (.aload_n 0, 1) := by decide +kernel
theorem dX9_readsSort_109 : decode cX9_readsSort 109 = .ok (.iload_n 1, 1) := by decide +kernel
theorem dX9_readsSort_110 : decode cX9_readsSort 110 = .ok (.iconst 2, 1) := by decide +kernel
theorem dX9_readsSort_111 : decode cX9_readsSort 111 = .ok (.iadd, 1) := by decide +kernel
theorem dX9_readsSort_112 : decode cX9_readsSort 112 = .ok (.iload 4, 2) := by decide +kernel
theorem dX9_readsSort_114 : decode cX9_readsSort 114 = .ok (.invokevirtual 101, 3) := by decide +kernel
theorem dX9_readsSort_117 : decode cX9_readsSort 117 = .ok (.aload_n 0, 1) := by decide +kernel
theorem dX9_readsSort_118 : decode cX9_readsSort 118 = .ok (.iload_n 1, 1) := by decide +kernel
theorem dX9_readsSort_119 : decode cX9_readsSort 119 = .ok (.iconst 3, 1) := by decide +kernel
theorem dX9_readsSort_120 : decode cX9_readsSort 120 = .ok (.iadd, 1) := by decide +kernel
theorem dX9_readsSort_121 : decode cX9_readsSort 121 = .ok (.iload 5, 2) := by decide +kernel
theorem dX9_readsSort_123 : decode cX9_readsSort 123 = .ok (.invokevirtual 101, 3) := by decide +kernel
theorem dX9_readsSort_126 : decode cX9_readsSort 126 = .ok (.aload_n 0, 1) := by decide +kernel
theorem dX9_readsSort_127 : decode cX9_readsSort 127 = .ok (.iload_n 1, 1) := by decide +kernel
theorem dX9_readsSort_128 : decode cX9_readsSort 128 = .ok (.iconst 4, 1) := by decide +kernel
theorem dX9_readsSort_129 : decode cX9_readsSort 129 = .ok (.iadd, 1) := by decide +kernel
theorem dX9_readsSort_130 : decode cX9_readsSort 130 = .ok (.iload 6, 2) := by decide +kernel
theorem dX9_readsSort_132 : decode cX9_readsSort 132 = .ok (.invokevirtual 101, 3) := by decide +kernel
theorem dX9_readsSort_135 : decode cX9_readsSort 135 = .ok (.aload_n 0, 1) := by decide +kernel
theorem dX9_readsSort_136 : decode cX9_readsSort 136 = .ok (.sipush 184, 3) := by decide +kernel
theorem dX9_readsSort_139 : decode cX9_readsSort 139 = .ok (.aload_n 0, 1) := by decide +kernel
theorem dX9_readsSort_140 : decode cX9_readsSort 140 = .ok (.sipush 184, 3) := by decide +kernel
theorem dX9_readsSort_143 : decode cX9_readsSort 143 = .ok (.invokevirtual 94, 3) := by decide +kernel
theorem dX9_readsSort_146 : decode cX9_readsSort 146 = .ok (.iconst 1, 1) := by decide +kernel
theorem dX9_readsSort_147 : decode cX9_readsSort 147 = .ok (.iadd, 1) := by decide +kernel
theorem dX9_readsSort_148 : decode cX9_readsSort 148 = .ok (.invokevirtual 101, 3) := by decide +kernel
theorem dX9_readsSort_151 : decode cX9_readsSort 151 = .ok (.return_, 1) := by decide +kernel
theorem dX9_readsStorm_0 : decode cX9_readsStorm 0 = .ok (.bipush 52, 2) := by decide +kernel
theorem dX9_readsStorm_2 : decode cX9_readsStorm 2 = .ok (.bipush 6, 2) := by decide +kernel
theorem dX9_readsStorm_4 : decode cX9_readsStorm 4 = .ok (.aload_n 0, 1) := by decide +kernel
theorem dX9_readsStorm_5 : decode cX9_readsStorm 5 = .ok (.sipush 185, 3) := by decide +kernel
theorem dX9_readsStorm_8 : decode cX9_readsStorm 8 = .ok (.invokevirtual 94, 3) := by decide +kernel
theorem dX9_readsStorm_11 : decode cX9_readsStorm 11 = .ok (.imul, 1) := by decide +kernel
theorem dX9_readsStorm_12 : decode cX9_readsStorm 12 = .ok (.iadd, 1) := by decide +kernel
theorem dX9_readsStorm_13 : decode cX9_readsStorm 13 = .ok (.istore_n 1, 1) := by decide +kernel
theorem dX9_readsStorm_14 : decode cX9_readsStorm 14 = .ok (.aload_n 0, 1) := by decide +kernel
theorem dX9_readsStorm_15 : decode cX9_readsStorm 15 = .ok (.iconst 0, 1) := by decide +kernel
theorem dX9_readsStorm_16 : decode cX9_readsStorm 16 = .ok (.bipush 10, 2) := by decide +kernel
theorem dX9_readsStorm_18 : decode cX9_readsStorm 18 = .ok (.bipush 44, 2) := by decide +kernel
theorem dX9_readsStorm_20 : decode cX9_readsStorm 20 = .ok (.invokevirtual 97, 3) := by decide +kernel
theorem dX9_readsStorm_23 : decode cX9_readsStorm 23 = .ok (.istore_n 2, 1) := by decide +kernel
theorem dX9_readsStorm_24 : decode cX9_readsStorm 24 = .ok (.aload_n 0, 1) := by decide +kernel
theorem dX9_readsStorm_25 : decode cX9_readsStorm 25 = .ok (.iconst 0, 1) := by decide +kernel
theorem dX9_readsStorm_26 : decode cX9_readsStorm 26 = .ok (.bipush 23, 2) := by decide +kernel
theorem dX9_readsStorm_28 : decode cX9_readsStorm 28 = .ok (.bipush 44, 2) := by decide +kernel
theorem dX9_readsStorm_30 : decode cX9_readsStorm 30 = .ok (.invokevirtual 97, 3) := by decide +kernel
theorem dX9_readsStorm_33 : decode cX9_readsStorm 33 = .ok (.istore_n 3, 1) := by decide +kernel
theorem dX9_readsStorm_34 : decode cX9_readsStorm 34 = .ok (.aload_n 0, 1) := by decide +kernel
theorem dX9_readsStorm_35 : decode cX9_readsStorm 35 = .ok (.iconst 1, 1) := by decide +kernel
theorem dX9_readsStorm_36 : decode cX9_readsStorm 36 = .ok (.bipush 9, 2) := by decide +kernel
theorem dX9_readsStorm_38 : decode cX9_readsStorm 38 = .ok (.bipush 44, 2) := by decide +kernel
theorem dX9_readsStorm_40 : decode cX9_readsStorm 40 = .ok (.invokevirtual 97, 3) := by decide +kernel
theorem dX9_readsStorm_43 : decode cX9_readsStorm 43 = .ok (.istore 4, 2) := by decide +kernel
theorem dX9_readsStorm_45 : decode cX9_readsStorm 45 = .ok (.aload_n 0, 1) := by decide +kernel
theorem dX9_readsStorm_46 : decode cX9_readsStorm 46 = .ok (.iconst 0, 1) := by decide +kernel
theorem dX9_readsStorm_47 : decode cX9_readsStorm 47 = .ok (.bipush 9, 2) := by decide +kernel
theorem dX9_readsStorm_49 : decode cX9_readsStorm 49 = .ok (.bipush 44, 2) := by decide +kernel
theorem dX9_readsStorm_51 : decode cX9_readsStorm 51 = .ok (.invokevirtual 97, 3) := by decide +kernel
theorem dX9_readsStorm_54 : decode cX9_readsStorm 54 = .ok (.istore 5, 2) := by decide +kernel
theorem dX9_readsStorm_56 : decode cX9_readsStorm 56 = .ok (.aload_n 0, 1) := by decide +kernel
theorem dX9_readsStorm_57 : decode cX9_readsStorm 57 = .ok (.iconst 0, 1) := by decide +kernel
theorem dX9_readsStorm_58 : decode cX9_readsStorm 58 = .ok (.bipush 24, 2) := by decide +kernel
theorem dX9_readsStorm_60 : decode cX9_readsStorm 60 = .ok (.bipush 44, 2) := by decide +kernel
theorem dX9_readsStorm_62 : decode cX9_readsStorm 62 = .ok (.invokevirtual 97, 3) := by decide +kernel
theorem dX9_readsStorm_65 : decode cX9_readsStorm 65 = .ok (.istore 6, 2) := by decide +kernel
theorem dX9_readsStorm_67 : decode cX9_readsStorm 67 = .ok (.aload_n 0, 1) := by decide +kernel
theorem dX9_readsStorm_68 : decode cX9_readsStorm 68 = .ok (.iconst 0, 1) := by decide +kernel
theorem dX9_readsStorm_69 : decode cX9_readsStorm 69 = .ok (.iconst 3, 1) := by decide +kernel
theorem dX9_readsStorm_70 : decode cX9_readsStorm 70 = .ok (.bipush 59, 2) := by decide +kernel
theorem dX9_readsStorm_72 : decode cX9_readsStorm 72 = .ok (.invokevirtual 97, 3) := by decide +kernel
theorem dX9_readsStorm_75 : decode cX9_readsStorm 75 = .ok (.istore 7, 2) := by decide +kernel
theorem dX9_readsStorm_77 : decode cX9_readsStorm 77 = .ok (.aload_n 0, 1) := by decide +kernel
theorem dX9_readsStorm_78 : decode cX9_readsStorm 78 = .ok (.aload_n 0, 1) := by decide +kernel
theorem dX9_readsStorm_79 : decode cX9_readsStorm 79 = .ok (.getfield 90, 3) := by decide +kernel
theorem dX9_readsStorm_82 : decode cX9_readsStorm 82 = .ok (.ifCond .eq 18, 3) := by decide +kernel
theorem dX9_readsStorm_85 : decode cX9_readsStorm 85 = .ok (.aload_n 0, 1) := by decide +kernel
theorem dX9_readsStorm_86 : decode cX9_readsStorm 86 = .ok (.sipush 185, 3) := by decide +kernel
theorem dX9_readsStorm_89 : decode cX9_readsStorm 89 = .ok (.invokevirtual 94, 3) := by decide +kernel
theorem dX9_readsStorm_92 : decode cX9_readsStorm 92 = .ok (.iconst 4, 1) := by decide +kernel
theorem dX9_readsStorm_93 : decode cX9_readsStorm 93 = .ok (.if_icmp .ge 7, 3) := by decide +kernel
theorem dX9_readsStorm_96 : decode cX9_readsStorm 96 = .ok (.iconst 1, 1) := by decide +kernel
theorem dX9_readsStorm_97 : decode cX9_readsStorm 97 = .ok (.goto 4, 3) := by decide +kernel
theorem dX9_readsStorm_100 : decode cX9_readsStorm 100 = .ok (.iconst 0, 1) := by decide +kernel
theorem dX9_readsStorm_101 : decode cX9_readsStorm 101 = .ok (.putfield 90, 3) := by decide +kernel
theorem dX9_readsStorm_104 : decode cX9_readsStorm 104 = .ok (.aload_n 0, 1) := by decide +kernel
theorem dX9_readsStorm_105 : decode cX9_readsStorm 105 = .ok (.iload_n 1, 1) := by decide +kernel
theorem dX9_readsStorm_106 : decode cX9_readsStorm 106 = .ok (.iload_n 2, 1) := by decide +kernel
theorem dX9_readsStorm_107 : decode cX9_readsStorm 107 = .ok (.invokevirtual 101, 3) := by decide +kernel
theorem dX9_readsStorm_110 : decode cX9_readsStorm 110 = .ok (.aload_n 0, 1) := by decide +kernel
theorem dX9_readsStorm_111 : decode cX9_readsStorm 111 = .ok (.iload_n 1, 1) := by decide +kernel
theorem dX9_readsStorm_112 : decode cX9_readsStorm 112 = .ok (.iconst 1, 1) := by decide +kernel
theorem dX9_readsStorm_113 : decode cX9_readsStorm 113 = .ok (.iadd, 1) := by decide +kernel
theorem dX9_readsStorm_114 : decode cX9_readsStorm 114 = .ok (.iload_n 3, 1) := by decide +kernel
theorem dX9_readsStorm_115 : decode cX9_readsStorm 115 = .ok (.invokevirtual 101, 3) := by decide +kernel
theorem dX9_readsStorm_118 : decode cX9_readsStorm 118 = .ok (.aload_n 0, 1) := by decide +kernel
theorem dX9_readsStorm_119 : decode cX9_readsStorm 119 = .ok (.iload_n 1, 1) := by decide +kernel
theorem dX9_readsStorm_120 : decode cX9_readsStorm 120 = .ok (.iconst 2, 1) := by decide +kernel
theorem dX9_readsStorm_121 : decode cX9_readsStorm 121 = .ok (.iadd, 1) := by decide +kernel
theorem dX9_readsStorm_122 : decode cX9_readsStorm 122 = .ok (.iload 4, 2) := by decide +kernel
theorem dX9_readsStorm_124 : decode cX9_readsStorm 124 = .ok (.invokevirtual 101, 3) := by decide +kernel
theorem dX9_readsStorm_127 : decode cX9_readsStorm 127 = .ok (.aload_n 0, 1) := by decide +kernel
theorem dX9_readsStorm_128 : decode cX9_readsStorm 128 = .ok (.iload_n 1, 1) := by decide +kernel
theorem dX9_readsStorm_129 : decode cX9_readsStorm 129 = .ok (.iconst 3, 1) := by decide +kernel
theorem dX9_readsStorm_130 : decode cX9_readsStorm 130 = .ok (.iadd, 1) := by decide +kernel
theorem dX9_readsStorm_131 : decode cX9_readsStorm 131 = .ok (.iload 5, 2) := by decide +kernel
theorem dX9_readsStorm_133 : decode cX9_readsStorm 133 = .ok (.invokevirtual 101, 3) := by decide +kernel
theorem dX9_readsStorm_136 : decode cX9_readsStorm 136 = .ok (.aload_n 0, 1) := by decide +kernel
theorem dX9_readsStorm_137 : decode cX9_readsStorm 137 = .ok (.iload_n 1, 1) := by decide +kernel
theorem dX9_readsStorm_138 : decode cX9_readsStorm 138 = .ok (.iconst 4, 1) := by decide +kernel
theorem dX9_readsStorm_139 : decode cX9_readsStorm 139 = .ok (.iadd, 1) := by decide +kernel
theorem dX9_readsStorm_140 : decode cX9_readsStorm 140 = .ok (.iload 6, 2) := by decide +kernel
theorem dX9_readsStorm_142 : decode cX9_readsStorm 142 = .ok (.invokevirtual 101, 3) := by decide +kernel
theorem dX9_readsStorm_145 : decode cX9_readsStorm 145 = .ok (.aload_n 0, 1) := by decide +kernel
theorem dX9_readsStorm_146 : decode cX9_readsStorm 146 = .ok (.iload_n 1, 1) := by decide +kernel
theorem dX9_readsStorm_147 : decode cX9_readsStorm 147 = .ok (.iconst 5, 1) := by decide +kernel
theorem dX9_readsStorm_148 : decode cX9_readsStorm 148 = .ok (.iadd, 1) := by decide +kernel
theorem dX9_readsStorm_149 : decode cX9_readsStorm 149 = .ok (.iload 7, 2) := by decide +kernel
theorem dX9_readsStorm_151 : decode cX9_readsStorm 151 = .ok (.invokevirtual 101, 3) := by decide +kernel
theorem dX9_readsStorm_154 : decode cX9_readsStorm 154 = .ok (.aload_n 0, 1) := by decide +kernel
theorem dX9_readsStorm_155 : decode cX9_readsStorm 155 = .ok (.sipush 185, 3) := by decide +kernel
theorem dX9_readsStorm_158 : decode cX9_readsStorm 158 = .ok (.aload_n 0, 1) := by decide +kernel
theorem dX9_readsStorm_159 : decode cX9_readsStorm 159 = .ok (.sipush 185, 3) := by decide +kernel
theorem dX9_readsStorm_162 : decode cX9_readsStorm 162 = .ok (.invokevirtual 94, 3) := by decide +kernel
theorem dX9_readsStorm_165 : decode cX9_readsStorm 165 = .ok (.iconst 1, 1) := by decide +kernel
theorem dX9_readsStorm_166 : decode cX9_readsStorm 166 = .ok (.iadd, 1) := by decide +kernel
theorem dX9_readsStorm_167 : decode cX9_readsStorm 167 = .ok (.invokevirtual 101, 3) := by decide +kernel
theorem dX9_readsStorm_170 : decode cX9_readsStorm 170 = .ok (.return_, 1) := by decide +kernel
theorem dX9_readsItem_0 : decode cX9_readsItem 0 = .ok (.iload_n 1, 1) := by decide +kernel
theorem dX9_readsItem_1 : decode cX9_readsItem 1 = .ok (.bipush 104, 2) := by decide +kernel
theorem dX9_readsItem_3 : decode cX9_readsItem 3 = .ok (.if_icmp .ne 10, 3) := by decide +kernel
theorem dX9_readsItem_6 : decode cX9_readsItem 6 = .ok (.aload_n 0, 1) := by decide +kernel
theorem dX9_readsItem_7 : decode cX9_readsItem 7 = .ok (.invokevirtual 105, 3) := by decide +kernel
theorem dX9_readsItem_10 : decode cX9_readsItem 10 = .ok (.goto 253, 3) := by decide +kernel
theorem dX9_readsItem_13 : decode cX9_readsItem 13 = .ok (.iload_n 1, 1) := by decide +kernel
theorem dX9_readsItem_14 : decode cX9_readsItem 14 = .ok (.bipush 98, 2) := by decide +kernel
theorem dX9_readsItem_16 : decode cX9_readsItem 16 = .ok (.if_icmp .ne 10, 3) := by decide +kernel
theorem dX9_readsItem_19 : decode cX9_readsItem 19 = .ok (.aload_n 0, 1) := by decide +kernel
theorem dX9_readsItem_20 : decode cX9_readsItem 20 = .ok (.invokevirtual 108, 3) := by decide +kernel
theorem dX9_readsItem_23 : decode cX9_readsItem 23 = .ok (.goto 240, 3) := by decide +kernel
theorem dX9_readsItem_26 : decode cX9_readsItem 26 = .ok (.iload_n 1, 1) := by decide +kernel
theorem dX9_readsItem_27 : decode cX9_readsItem 27 = .ok (.bipush 115, 2) := by decide +kernel
theorem dX9_readsItem_29 : decode cX9_readsItem 29 = .ok (.if_icmp .ne 10, 3) := by decide +kernel
theorem dX9_readsItem_32 : decode cX9_readsItem 32 = .ok (.aload_n 0, 1) := by decide +kernel
theorem dX9_readsItem_33 : decode cX9_readsItem 33 = .ok (.invokevirtual 111, 3) := by decide +kernel
theorem dX9_readsItem_36 : decode cX9_readsItem 36 = .ok (.goto 227, 3) := by decide +kernel
theorem dX9_readsItem_39 : decode cX9_readsItem 39 = .ok (.iload_n 1, 1) := by decide +kernel
theorem dX9_readsItem_40 : decode cX9_readsItem 40 = .ok (.bipush 100, 2) := by decide +kernel
theorem dX9_readsItem_42 : decode cX9_readsItem 42 = .ok (.if_icmp .ne 76, 3) := by decide +kernel
theorem dX9_readsItem_45 : decode cX9_readsItem 45 = .ok (.aload_n 0, 1) := by decide +kernel
theorem dX9_readsItem_46 : decode cX9_readsItem 46 = .ok (.iconst 0, 1) := by decide +kernel
theorem dX9_readsItem_47 : decode cX9_readsItem 47 = .ok (.aload_n 0, 1) := by decide +kernel
theorem dX9_readsItem_48 : decode cX9_readsItem 48 = .ok (.sipush 184, 3) := by decide +kernel
theorem dX9_readsItem_51 : decode cX9_readsItem 51 = .ok (.invokevirtual 94, 3) := by decide +kernel
theorem dX9_readsItem_54 : decode cX9_readsItem 54 = .ok (.iconst 1, 1) := by decide +kernel
theorem dX9_readsItem_55 : decode cX9_readsItem 55 = .ok (.isub, 1) := by decide +kernel
theorem dX9_readsItem_56 : decode cX9_readsItem 56 = .ok (.bipush 44, 2) := by decide +kernel
theorem dX9_readsItem_58 : decode cX9_readsItem 58 = .ok (.invokevirtual 97, 3) := by decide +kernel
theorem dX9_readsItem_61 : decode cX9_readsItem 61 = .ok (.istore_n 2, 1) := by decide +kernel
theorem dX9_readsItem_62 : decode cX9_readsItem 62 = .ok (.aload_n 0, 1) := by decide +kernel
theorem dX9_readsItem_63 : decode cX9_readsItem 63 = .ok (.iconst 0, 1) := by decide +kernel
theorem dX9_readsItem_64 : decode cX9_readsItem 64 = .ok (.aload_n 0, 1) := by decide +kernel
theorem dX9_readsItem_65 : decode cX9_readsItem 65 = .ok (.sipush 183, 3) := by decide +kernel
theorem dX9_readsItem_68 : decode cX9_readsItem 68 = .ok (.invokevirtual 94, 3) := by decide +kernel
theorem dX9_readsItem_71 : decode cX9_readsItem 71 = .ok (.iconst 1, 1) := by decide +kernel
theorem dX9_readsItem_72 : decode cX9_readsItem 72 = .ok (.isub, 1) := by decide +kernel
theorem dX9_readsItem_73 : decode cX9_readsItem 73 = .ok (.bipush 44, 2) := by decide +kernel
theorem dX9_readsItem_75 : decode cX9_readsItem 75 = .ok (.invokevirtual 97, 3) := by decide +kernel
theorem dX9_readsItem_78 : decode cX9_readsItem 78 = .ok (.istore_n 3, 1) := by decide +kernel
theorem dX9_readsItem_79 : decode cX9_readsItem 79 = .ok (.aload_n 0, 1) := by decide +kernel
theorem dX9_readsItem_80 : decode cX9_readsItem 80 = .ok (.iconst 1, 1) := by decide +kernel
theorem dX9_readsItem_81 : decode cX9_readsItem 81 = .ok (.bipush 99, 2) := by decide +kernel
theorem dX9_readsItem_83 : decode cX9_readsItem 83 = .ok (.bipush 59, 2) := by decide +kernel
theorem dX9_readsItem_85 : decode cX9_readsItem 85 = .ok (.invokevirtual 97, 3) := by decide +kernel
theorem dX9_readsItem_88 : decode cX9_readsItem 88 = .ok (.istore 4, 2) := by decide +kernel
theorem dX9_readsItem_90 : decode cX9_readsItem 90 = .ok (.aload_n 0, 1) := by decide +kernel
theorem dX9_readsItem_91 : decode cX9_readsItem 91 = .ok (.bipush 36, 2) := by decide +kernel
theorem dX9_readsItem_93 : decode cX9_readsItem 93 = .ok (.aload_n 0, 1) := by decide +kernel
theorem dX9_readsItem_94 : decode cX9_readsItem 94 = .ok (.getfield 90, 3) := by decide +kernel
theorem dX9_readsItem_97 : decode cX9_readsItem 97 = .ok (.ifCond .eq 11, 3) := by decide +kernel
theorem dX9_readsItem_100 : decode cX9_readsItem 100 = .ok (.iconst 4, 1) := by decide +kernel
theorem dX9_readsItem_101 : decode cX9_readsItem 101 = .ok (.iload_n 2, 1) := by decide +kernel
theorem dX9_readsItem_102 : decode cX9_readsItem 102 = .ok (.imul, 1) := by decide +kernel
theorem dX9_readsItem_103 : decode cX9_readsItem 103 = .ok (.iload_n 3, 1) := by decide +kernel
theorem dX9_readsItem_104 : decode cX9_readsItem 104 = .ok (.iadd, 1) := by decide +kernel
theorem dX9_readsItem_105 : decode cX9_readsItem 105 = .ok (.goto 4, 3) := by decide +kernel
theorem dX9_readsItem_108 : decode cX9_readsItem 108 = .ok (.iconst 0, 1) := by decide +kernel
theorem dX9_readsItem_109 : decode cX9_readsItem 109 = .ok (.iadd, 1) := by decide +kernel
theorem dX9_readsItem_110 : decode cX9_readsItem 110 = .ok (.iload 4, 2) := by decide +kernel
theorem dX9_readsItem_112 : decode cX9_readsItem 112 = .ok (.invokevirtual 101, 3) := by decide +kernel
theorem dX9_readsItem_115 : decode cX9_readsItem 115 = .ok (.goto 148, 3) := by decide +kernel
theorem dX9_readsItem_118 : decode cX9_readsItem 118 = .ok (.iload_n 1, 1) := by decide +kernel
theorem dX9_readsItem_119 : decode cX9_readsItem 119 = .ok (.bipush 103, 2) := by decide +kernel
theorem dX9_readsItem_121 : decode cX9_readsItem 121 = .ok (.if_icmp .ne 70, 3) := by decide +kernel
theorem dX9_readsItem_124 : decode cX9_readsItem 124 = .ok (.aload_n 0, 1) := by decide +kernel
theorem dX9_readsItem_125 : decode cX9_readsItem 125 = .ok (.iconst 0, 1) := by decide +kernel
theorem dX9_readsItem_126 : decode cX9_readsItem 126 = .ok (.aload_n 0, 1) := by decide +kernel
theorem dX9_readsItem_127 : decode cX9_readsItem 127 = .ok (.sipush 185, 3) := by decide +kernel
theorem dX9_readsItem_130 : decode cX9_readsItem 130 = .ok (.invokevirtual 94, 3) := by decide +kernel
theorem dX9_readsItem_133 : decode cX9_readsItem 133 = .ok (.iconst 1, 1) := by decide +kernel
theorem dX9_readsItem_134 : decode cX9_readsItem 134 = .ok (.isub, 1) := by decide +kernel
theorem dX9_readsItem_135 : decode cX9_readsItem 135 = .ok (.bipush 44, 2) := by decide +kernel
theorem dX9_readsItem_137 : decode cX9_readsItem 137 = .ok (.invokevirtual 97, 3) := by decide +kernel
theorem dX9_readsItem_140 : decode cX9_readsItem 140 = .ok (.istore_n 2, 1) := by decide +kernel
theorem dX9_readsItem_141 : decode cX9_readsItem 141 = .ok (.aload_n 0, 1) := by decide +kernel
theorem dX9_readsItem_142 : decode cX9_readsItem 142 = .ok (.iconst 0, 1) := by decide +kernel
theorem dX9_readsItem_143 : decode cX9_readsItem 143 = .ok (.bipush 23, 2) := by decide +kernel
theorem dX9_readsItem_145 : decode cX9_readsItem 145 = .ok (.bipush 44, 2) := by decide +kernel
theorem dX9_readsItem_147 : decode cX9_readsItem 147 = .ok (.invokevirtual 97, 3) := by decide +kernel
theorem dX9_readsItem_150 : decode cX9_readsItem 150 = .ok (.istore_n 3, 1) := by decide +kernel
theorem dX9_readsItem_151 : decode cX9_readsItem 151 = .ok (.aload_n 0, 1) := by decide +kernel
theorem dX9_readsItem_152 : decode cX9_readsItem 152 = .ok (.iconst 0, 1) := by decide +kernel
theorem dX9_readsItem_153 : decode cX9_readsItem 153 = .ok (.bipush 9, 2) := by decide +kernel
theorem dX9_readsItem_155 : decode cX9_readsItem 155 = .ok (.bipush 59, 2) := by decide +kernel
theorem dX9_readsItem_157 : decode cX9_readsItem 157 = .ok (.invokevirtual 97, 3) := by decide +kernel
theorem dX9_readsItem_160 : decode cX9_readsItem 160 = .ok (.istore 4, 2) := by decide +kernel
theorem dX9_readsItem_162 : decode cX9_readsItem 162 = .ok (.aload_n 0, 1) := by decide +kernel
theorem dX9_readsItem_163 : decode cX9_readsItem 163 = .ok (.bipush 76, 2) := by decide +kernel
theorem dX9_readsItem_165 : decode cX9_readsItem 165 = .ok (.aload_n 0, 1) := by decide +kernel
theorem dX9_readsItem_166 : decode cX9_readsItem 166 = .ok (.getfield 90, 3) := by decide +kernel
theorem dX9_readsItem_169 : decode cX9_readsItem 169 = .ok (.ifCond .eq 12, 3) := by decide +kernel
theorem dX9_readsItem_172 : decode cX9_readsItem 172 = .ok (.bipush 24, 2) := by decide +kernel
theorem dX9_readsItem_174 : decode cX9_readsItem 174 = .ok (.iload_n 2, 1) := by decide +kernel
theorem dX9_readsItem_175 : decode cX9_readsItem 175 = .ok (.imul, 1) := by decide +kernel
theorem dX9_readsItem_176 : decode cX9_readsItem 176 = .ok (.iload_n 3, 1) := by decide +kernel
theorem dX9_readsItem_177 : decode cX9_readsItem 177 = .ok (.iadd, 1) := by decide +kernel
theorem dX9_readsItem_178 : decode cX9_readsItem 178 = .ok (.goto 4, 3) := by decide +kernel
theorem dX9_readsItem_181 : decode cX9_readsItem 181 = .ok (.iconst 0, 1) := by decide +kernel
theorem dX9_readsItem_182 : decode cX9_readsItem 182 = .ok (.iadd, 1) := by decide +kernel
theorem dX9_readsItem_183 : decode cX9_readsItem 183 = .ok (.iload 4, 2) := by decide +kernel
theorem dX9_readsItem_185 : decode cX9_readsItem 185 = .ok (.invokevirtual 101, 3) := by decide +kernel
theorem dX9_readsItem_188 : decode cX9_readsItem 188 = .ok (.goto 75, 3) := by decide +kernel
theorem dX9_readsItem_191 : decode cX9_readsItem 191 = .ok (.iload_n 1, 1) := by decide +kernel
theorem dX9_readsItem_192 : decode cX9_readsItem 192 = .ok (.bipush 114, 2) := by decide +kernel
theorem dX9_readsItem_194 : decode cX9_readsItem 194 = .ok (.if_icmp .ne 37, 3) := by decide +kernel
theorem dX9_readsItem_197 : decode cX9_readsItem 197 = .ok (.aload_n 0, 1) := by decide +kernel
theorem dX9_readsItem_198 : decode cX9_readsItem 198 = .ok (.iconst 1, 1) := by decide +kernel
theorem dX9_readsItem_199 : decode cX9_readsItem 199 = .ok (.bipush 9, 2) := by decide +kernel
theorem dX9_readsItem_201 : decode cX9_readsItem 201 = .ok (.bipush 44, 2) := by decide +kernel
theorem dX9_readsItem_203 : decode cX9_readsItem 203 = .ok (.invokevirtual 97, 3) := by decide +kernel
theorem dX9_readsItem_206 : decode cX9_readsItem 206 = .ok (.istore_n 2, 1) := by decide +kernel
theorem dX9_readsItem_207 : decode cX9_readsItem 207 = .ok (.aload_n 0, 1) := by decide +kernel
theorem dX9_readsItem_208 : decode cX9_readsItem 208 = .ok (.iconst 0, 1) := by decide +kernel
theorem dX9_readsItem_209 : decode cX9_readsItem 209 = .ok (.sipush 200, 3) := by decide +kernel
theorem dX9_readsItem_212 : decode cX9_readsItem 212 = .ok (.bipush 59, 2) := by decide +kernel
theorem dX9_readsItem_214 : decode cX9_readsItem 214 = .ok (.invokevirtual 97, 3) := by decide +kernel
theorem dX9_readsItem_217 : decode cX9_readsItem 217 = .ok (.istore_n 3, 1) := by decide +kernel
theorem dX9_readsItem_218 : decode cX9_readsItem 218 = .ok (.aload_n 0, 1) := by decide +kernel
theorem dX9_readsItem_219 : decode cX9_readsItem 219 = .ok (.sipush 172, 3) := by decide +kernel
theorem dX9_readsItem_222 : decode cX9_readsItem 222 = .ok (.iload_n 2, 1) := by decide +kernel
theorem dX9_readsItem_223 : decode cX9_readsItem 223 = .ok (.iadd, 1) := by decide +kernel
theorem dX9_readsItem_224 : decode cX9_readsItem 224 = .ok (.iload_n 3, 1) := by decide +kernel
theorem dX9_readsItem_225 : decode cX9_readsItem 225 = .ok (.invokevirtual 101, 3) := by decide +kernel
theorem dX9_readsItem_228 : decode cX9_readsItem 228 = .ok (.goto 35, 3) := by decide +kernel
theorem dX9_readsItem_231 : decode cX9_readsItem 231 = .ok (.iload_n 1, 1) := by decide +kernel
theorem dX9_readsItem_232 : decode cX9_readsItem 232 = .ok (.bipush 119, 2) := by decide +kernel
theorem dX9_readsItem_234 : decode cX9_readsItem 234 = .ok (.if_icmp .ne 24, 3) := by decide +kernel
theorem dX9_readsItem_237 : decode cX9_readsItem 237 = .ok (.aload_n 0, 1) := by decide +kernel
theorem dX9_readsItem_238 : decode cX9_readsItem 238 = .ok (.iconst 1, 1) := by decide +kernel
theorem dX9_readsItem_239 : decode cX9_readsItem 239 = .ok (.bipush 9, 2) := by decide +kernel
theorem dX9_readsItem_241 : decode cX9_readsItem 241 = .ok (.bipush 59, 2) := by decide +kernel
theorem dX9_readsItem_243 : decode cX9_readsItem 243 = .ok (.invokevirtual 97, 3) := by decide +kernel
theorem dX9_readsItem_246 : decode cX9_readsItem 246 = .ok (.istore_n 2, 1) := by decide +kernel
theorem dX9_readsItem_247 : decode cX9_readsItem 247 = .ok (.aload_n 0, 1) := by decide +kernel
theorem dX9_readsItem_248 : decode cX9_readsItem 248 = .ok (.sipush 182, 3) := by decide +kernel
theorem dX9_readsItem_251 : decode cX9_readsItem 251 = .ok (.iload_n 2, 1) := by decide +kernel
theorem dX9_readsItem_252 : decode cX9_readsItem 252 = .ok (.invokevirtual 101, 3) := by decide +kernel
theorem dX9_readsItem_255 : decode cX9_readsItem 255 = .ok (.goto 8, 3) := by decide +kernel
theorem dX9_readsItem_258 : decode cX9_readsItem 258 = .ok (.aload_n 0, 1) := by decide +kernel
theorem dX9_readsItem_259 : decode cX9_readsItem 259 = .ok (.iconst 0, 1) := by decide +kernel
theorem dX9_readsItem_260 : decode cX9_readsItem 260 = .ok (.putfield 90, 3) := by decide +kernel
theorem dX9_readsItem_263 : decode cX9_readsItem 263 = .ok (.return_, 1) := by decide +kernel
theorem dX9_reads_0 : decode cX9_reads 0 = .ok (.aload_n 0, 1) := by decide +kernel
theorem dX9_reads_1 : decode cX9_reads 1 = .ok (.sipush 186, 3) := by decide +kernel
theorem dX9_reads_4 : decode cX9_reads 4 = .ok (.invokevirtual 60, 3) := by decide +kernel
theorem dX9_reads_7 : decode cX9_reads 7 = .ok (.aload_n 0, 1) := by decide +kernel
theorem dX9_reads_8 : decode cX9_reads 8 = .ok (.iconst 0, 1) := by decide +kernel
theorem dX9_reads_9 : decode cX9_reads 9 = .ok (.putfield 83, 3) := by decide +kernel
theorem dX9_reads_12 : decode cX9_reads 12 = .ok (.aload_n 0, 1) := by decide +kernel
theorem dX9_reads_13 : decode cX9_reads 13 = .ok (.iconst 1, 1) := by decide +kernel
theorem dX9_reads_14 : decode cX9_reads 14 = .ok (.putfield 90, 3) := by decide +kernel
theorem dX9_reads_17 : decode cX9_reads 17 = .ok (.aload_n 0, 1) := by decide +kernel
theorem dX9_reads_18 : decode cX9_reads 18 = .ok (.getfield 83, 3) := by decide +kernel
theorem dX9_reads_21 : decode cX9_reads 21 = .ok (.aload_n 0, 1) := by decide +kernel
theorem dX9_reads_22 : decode cX9_reads 22 = .ok (.getfield 78, 3) := by decide +kernel
theorem dX9_reads_25 : decode cX9_reads 25 = .ok (.if_icmp .ge 44, 3) := by decide +kernel
theorem dX9_reads_28 : decode cX9_reads 28 = .ok (.aload_n 0, 1) := by decide +kernel
theorem dX9_reads_29 : decode cX9_reads 29 = .ok (.getfield 83, 3) := by decide +kernel
theorem dX9_reads_32 : decode cX9_reads 32 = .ok (.istore_n 1, 1) := by decide +kernel
theorem dX9_reads_33 : decode cX9_reads 33 = .ok (.aload_n 0, 1) := by decide +kernel
theorem dX9_reads_34 : decode cX9_reads 34 = .ok (.aload_n 0, 1) := by decide +kernel
theorem dX9_reads_35 : decode cX9_reads 35 = .ok (.getfield 83, 3) := by decide +kernel
theorem dX9_reads_38 : decode cX9_reads 38 = .ok (.invokevirtual 86, 3) := by decide +kernel
theorem dX9_reads_41 : decode cX9_reads 41 = .ok (.istore_n 2, 1) := by decide +kernel
theorem dX9_reads_42 : decode cX9_reads 42 = .ok (.aload_n 0, 1) := by decide +kernel
theorem dX9_reads_43 : decode cX9_reads 43 = .ok (.dup, 1) := by decide +kernel
theorem dX9_reads_44 : decode cX9_reads 44 = .ok (.getfield 83, 3) := by decide +kernel
theorem dX9_reads_47 : decode cX9_reads 47 = .ok (.iconst 1, 1) := by decide +kernel
theorem dX9_reads_48 : decode cX9_reads 48 = .ok (.iadd, 1) := by decide +kernel
theorem dX9_reads_49 : decode cX9_reads 49 = .ok (.putfield 83, 3) := by decide +kernel
theorem dX9_reads_52 : decode cX9_reads 52 = .ok (.aload_n 0, 1) := by decide +kernel
theorem dX9_reads_53 : decode cX9_reads 53 = .ok (.iload_n 2, 1) := by decide +kernel
theorem dX9_reads_54 : decode cX9_reads 54 = .ok (.invokevirtual 114, 3) := by decide +kernel
theorem dX9_reads_57 : decode cX9_reads 57 = .ok (.aload_n 0, 1) := by decide +kernel
theorem dX9_reads_58 : decode cX9_reads 58 = .ok (.getfield 90, 3) := by decide +kernel
theorem dX9_reads_61 : decode cX9_reads 61 = .ok (.ifCond .ne 5, 3) := by decide +kernel
theorem dX9_reads_64 : decode cX9_reads 64 = .ok (.iload_n 1, 1) := by decide +kernel
theorem dX9_reads_65 : decode cX9_reads 65 = .ok (.ireturn, 1) := by decide +kernel
theorem dX9_reads_66 : decode cX9_reads 66 = .ok (.goto (-49), 3) := by decide +kernel
theorem dX9_reads_69 : decode cX9_reads 69 = .ok (.bipush (-4), 2) := by decide +kernel
theorem dX9_reads_71 : decode cX9_reads 71 = .ok (.ireturn, 1) := by decide +kernel
theorem dX9_fault_0 : decode cX9_fault 0 = .ok (.aload_n 0, 1) := by decide +kernel
theorem dX9_fault_1 : decode cX9_fault 1 = .ok (.iconst 0, 1) := by decide +kernel
theorem dX9_fault_2 : decode cX9_fault 2 = .ok (.putfield 67, 3) := by decide +kernel
theorem dX9_fault_5 : decode cX9_fault 5 = .ok (.aload_n 0, 1) := by decide +kernel
theorem dX9_fault_6 : decode cX9_fault 6 = .ok (.invokevirtual 117, 3) := by decide +kernel
theorem dX9_fault_9 : decode cX9_fault 9 = .ok (.ireturn, 1) := by decide +kernel
theorem dX9_lay_0 : decode cX9_lay 0 = .ok (.aload_n 0, 1) := by decide +kernel
theorem dX9_lay_1 : decode cX9_lay 1 = .ok (.iconst 0, 1) := by decide +kernel
theorem dX9_lay_2 : decode cX9_lay 2 = .ok (.putfield 67, 3) := by decide +kernel
theorem dX9_lay_5 : decode cX9_lay 5 = .ok (.aload_n 0, 1) := by decide +kernel
theorem dX9_lay_6 : decode cX9_lay 6 = .ok (.invokevirtual 117, 3) := by decide +kernel
theorem dX9_lay_9 : decode cX9_lay 9 = .ok (.bipush (-4), 2) := by decide +kernel
theorem dX9_lay_11 : decode cX9_lay 11 = .ok (.if_icmp .ne 27, 3) := by decide +kernel
theorem dX9_lay_14 : decode cX9_lay 14 = .ok (.aload_n 0, 1) := by decide +kernel
theorem dX9_lay_15 : decode cX9_lay 15 = .ok (.sipush 183, 3) := by decide +kernel
theorem dX9_lay_18 : decode cX9_lay 18 = .ok (.invokevirtual 94, 3) := by decide +kernel
theorem dX9_lay_21 : decode cX9_lay 21 = .ok (.ifCond .le 17, 3) := by decide +kernel
theorem dX9_lay_24 : decode cX9_lay 24 = .ok (.aload_n 0, 1) := by decide +kernel
theorem dX9_lay_25 : decode cX9_lay 25 = .ok (.sipush 184, 3) := by decide +kernel
theorem dX9_lay_28 : decode cX9_lay 28 = .ok (.invokevirtual 94, 3) := by decide +kernel
theorem dX9_lay_31 : decode cX9_lay 31 = .ok (.ifCond .le 7, 3) := by decide +kernel
theorem dX9_lay_34 : decode cX9_lay 34 = .ok (.iconst 1, 1) := by decide +kernel
theorem dX9_lay_35 : decode cX9_lay 35 = .ok (.goto 4, 3) := by decide +kernel
theorem dX9_lay_38 : decode cX9_lay 38 = .ok (.iconst 0, 1) := by decide +kernel
theorem dX9_lay_39 : decode cX9_lay 39 = .ok (.istore_n 1, 1) := by decide +kernel
theorem dX9_lay_40 : decode cX9_lay 40 = .ok (.iconst 0, 1) := by decide +kernel
theorem dX9_lay_41 : decode cX9_lay 41 = .ok (.istore_n 2, 1) := by decide +kernel
theorem dX9_lay_42 : decode cX9_lay 42 = .ok (.iconst 0, 1) := by decide +kernel
theorem dX9_lay_43 : decode cX9_lay 43 = .ok (.istore_n 3, 1) := by decide +kernel
theorem dX9_lay_44 : decode cX9_lay 44 = .ok (.iload_n 3, 1) := by decide +kernel
theorem dX9_lay_45 : decode cX9_lay 45 = .ok (.aload_n 0, 1) := by decide +kernel
theorem dX9_lay_46 : decode cX9_lay 46 = .ok (.sipush 185, 3) := by decide +kernel
theorem dX9_lay_49 : decode cX9_lay 49 = .ok (.invokevirtual 94, 3) := by decide +kernel
theorem dX9_lay_52 : decode cX9_lay 52 = .ok (.if_icmp .ge 27, 3) := by decide +kernel
theorem dX9_lay_55 : decode cX9_lay 55 = .ok (.iload_n 1, 1) := by decide +kernel
theorem dX9_lay_56 : decode cX9_lay 56 = .ok (.ifCond .eq 23, 3) := by decide +kernel
theorem dX9_lay_59 : decode cX9_lay 59 = .ok (.iload_n 2, 1) := by decide +kernel
theorem dX9_lay_60 : decode cX9_lay 60 = .ok (.aload_n 0, 1) := by decide +kernel
theorem dX9_lay_61 : decode cX9_lay 61 = .ok (.bipush 52, 2) := by decide +kernel
theorem dX9_lay_63 : decode cX9_lay 63 = .ok (.bipush 6, 2) := by decide +kernel
theorem dX9_lay_65 : decode cX9_lay 65 = .ok (.iload_n 3, 1) := by decide +kernel
theorem dX9_lay_66 : decode cX9_lay 66 = .ok (.imul, 1) := by decide +kernel
theorem dX9_lay_67 : decode cX9_lay 67 = .ok (.iadd, 1) := by decide +kernel
theorem dX9_lay_68 : decode cX9_lay 68 = .ok (.invokevirtual 94, 3) := by decide +kernel
theorem dX9_lay_71 : decode cX9_lay 71 = .ok (.iadd, 1) := by decide +kernel
theorem dX9_lay_72 : decode cX9_lay 72 = .ok (.istore_n 2, 1) := by decide +kernel
theorem dX9_lay_73 : decode cX9_lay 73 = .ok (.iinc 3 1, 3) := by decide +kernel
theorem dX9_lay_76 : decode cX9_lay 76 = .ok (.goto (-32), 3) := by decide +kernel
theorem dX9_lay_79 : decode cX9_lay 79 = .ok (.iload_n 1, 1) := by decide +kernel
theorem dX9_lay_80 : decode cX9_lay 80 = .ok (.ifCond .eq 9, 3) := by decide +kernel
theorem dX9_lay_83 : decode cX9_lay 83 = .ok (.iload_n 2, 1) := by decide +kernel
theorem dX9_lay_84 : decode cX9_lay 84 = .ok (.bipush 10, 2) := by decide +kernel
theorem dX9_lay_86 : decode cX9_lay 86 = .ok (.if_icmp .eq 6, 3) := by decide +kernel
theorem dX9_lay_89 : decode cX9_lay 89 = .ok (.bipush (-2), 2) := by decide +kernel
theorem dX9_lay_91 : decode cX9_lay 91 = .ok (.ireturn, 1) := by decide +kernel
theorem dX9_lay_92 : decode cX9_lay 92 = .ok (.iconst 0, 1) := by decide +kernel
theorem dX9_lay_93 : decode cX9_lay 93 = .ok (.istore_n 3, 1) := by decide +kernel
theorem dX9_lay_94 : decode cX9_lay 94 = .ok (.iload_n 3, 1) := by decide +kernel
theorem dX9_lay_95 : decode cX9_lay 95 = .ok (.sipush 186, 3) := by decide +kernel
theorem dX9_lay_98 : decode cX9_lay 98 = .ok (.if_icmp .ge 25, 3) := by decide +kernel
theorem dX9_lay_101 : decode cX9_lay 101 = .ok (.aload_n 0, 1) := by decide +kernel
theorem dX9_lay_102 : decode cX9_lay 102 = .ok (.getfield 7, 3) := by decide +kernel
theorem dX9_lay_105 : decode cX9_lay 105 = .ok (.iload_n 3, 1) := by decide +kernel
theorem dX9_lay_106 : decode cX9_lay 106 = .ok (.aload_n 0, 1) := by decide +kernel
theorem dX9_lay_107 : decode cX9_lay 107 = .ok (.getfield 7, 3) := by decide +kernel
theorem dX9_lay_110 : decode cX9_lay 110 = .ok (.sipush 186, 3) := by decide +kernel
theorem dX9_lay_113 : decode cX9_lay 113 = .ok (.iload_n 3, 1) := by decide +kernel
theorem dX9_lay_114 : decode cX9_lay 114 = .ok (.iadd, 1) := by decide +kernel
theorem dX9_lay_115 : decode cX9_lay 115 = .ok (.iaload, 1) := by decide +kernel
theorem dX9_lay_116 : decode cX9_lay 116 = .ok (.iastore, 1) := by decide +kernel
theorem dX9_lay_117 : decode cX9_lay 117 = .ok (.iinc 3 1, 3) := by decide +kernel
theorem dX9_lay_120 : decode cX9_lay 120 = .ok (.goto (-26), 3) := by decide +kernel
theorem dX9_lay_123 : decode cX9_lay 123 = .ok (.aload_n 0, 1) := by decide +kernel
theorem dX9_lay_124 : decode cX9_lay 124 = .ok (.invokevirtual 64, 3) := by decide +kernel
theorem dX9_lay_127 : decode cX9_lay 127 = .ok (.aload_n 0, 1) := by decide +kernel
theorem dX9_lay_128 : decode cX9_lay 128 = .ok (.getfield 7, 3) := by decide +kernel
theorem dX9_lay_131 : decode cX9_lay 131 = .ok (.sipush 184, 3) := by decide +kernel
theorem dX9_lay_134 : decode cX9_lay 134 = .ok (.iaload, 1) := by decide +kernel
theorem dX9_lay_135 : decode cX9_lay 135 = .ok (.ireturn, 1) := by decide +kernel
theorem dX9_isStorm_0 : decode cX9_isStorm 0 = .ok (.iload_n 1, 1) := by decide +kernel
theorem dX9_isStorm_1 : decode cX9_isStorm 1 = .ok (.iconst 0, 1) := by decide +kernel
theorem dX9_isStorm_2 : decode cX9_isStorm 2 = .ok (.aload_n 0, 1) := by decide +kernel
theorem dX9_isStorm_3 : decode cX9_isStorm 3 = .ok (.getfield 7, 3) := by decide +kernel
theorem dX9_isStorm_6 : decode cX9_isStorm 6 = .ok (.sipush 185, 3) := by decide +kernel
theorem dX9_isStorm_9 : decode cX9_isStorm 9 = .ok (.iaload, 1) := by decide +kernel
theorem dX9_isStorm_10 : decode cX9_isStorm 10 = .ok (.iconst 1, 1) := by decide +kernel
theorem dX9_isStorm_11 : decode cX9_isStorm 11 = .ok (.isub, 1) := by decide +kernel
theorem dX9_isStorm_12 : decode cX9_isStorm 12 = .ok (.invokestatic 74, 3) := by decide +kernel
theorem dX9_isStorm_15 : decode cX9_isStorm 15 = .ok (.ireturn, 1) := by decide +kernel
theorem dX9_isSort_0 : decode cX9_isSort 0 = .ok (.iload_n 1, 1) := by decide +kernel
theorem dX9_isSort_1 : decode cX9_isSort 1 = .ok (.iconst 0, 1) := by decide +kernel
theorem dX9_isSort_2 : decode cX9_isSort 2 = .ok (.aload_n 0, 1) := by decide +kernel
theorem dX9_isSort_3 : decode cX9_isSort 3 = .ok (.getfield 7, 3) := by decide +kernel
theorem dX9_isSort_6 : decode cX9_isSort 6 = .ok (.sipush 184, 3) := by decide +kernel
theorem dX9_isSort_9 : decode cX9_isSort 9 = .ok (.iaload, 1) := by decide +kernel
theorem dX9_isSort_10 : decode cX9_isSort 10 = .ok (.iconst 1, 1) := by decide +kernel
theorem dX9_isSort_11 : decode cX9_isSort 11 = .ok (.isub, 1) := by decide +kernel
theorem dX9_isSort_12 : decode cX9_isSort 12 = .ok (.invokestatic 74, 3) := by decide +kernel
theorem dX9_isSort_15 : decode cX9_isSort 15 = .ok (.ireturn, 1) := by decide +kernel
theorem dX9_isHarbour_0 : decode cX9_isHarbour 0 = .ok (.iload_n 1, 1) := by decide +kernel
theorem dX9_isHarbour_1 : decode cX9_isHarbour 1 = .ok (.iconst 0, 1) := by decide +kernel
theorem dX9_isHarbour_2 : decode cX9_isHarbour 2 = .ok (.aload_n 0, 1) := by decide +kernel
theorem dX9_isHarbour_3 : decode cX9_isHarbour 3 = .ok (.getfield 7, 3) := by decide +kernel
theorem dX9_isHarbour_6 : decode cX9_isHarbour 6 = .ok (.sipush 183, 3) := by decide +kernel
theorem dX9_isHarbour_9 : decode cX9_isHarbour 9 = .ok (.iaload, 1) := by decide +kernel
theorem dX9_isHarbour_10 : decode cX9_isHarbour 10 = .ok (.iconst 1, 1) := by decide +kernel
theorem dX9_isHarbour_11 : decode cX9_isHarbour 11 = .ok (.isub, 1) := by decide +kernel
theorem dX9_isHarbour_12 : decode cX9_isHarbour 12 = .ok (.invokestatic 74, 3) := by decide +kernel
theorem dX9_isHarbour_15 : decode cX9_isHarbour 15 = .ok (.ireturn, 1) := by decide +kernel
theorem dX9_strength_0 : decode cX9_strength 0 = .ok (.bipush 52, 2) := by decide +kernel
theorem dX9_strength_2 : decode cX9_strength 2 = .ok (.bipush 6, 2) := by decide +kernel
theorem dX9_strength_4 : decode cX9_strength 4 = .ok (.iload_n 1, 1) := by decide +kernel
theorem dX9_strength_5 : decode cX9_strength 5 = .ok (.imul, 1) := by decide +kernel
theorem dX9_strength_6 : decode cX9_strength 6 = .ok (.iadd, 1) := by decide +kernel
theorem dX9_strength_7 : decode cX9_strength 7 = .ok (.istore_n 3, 1) := by decide +kernel
theorem dX9_strength_8 : decode cX9_strength 8 = .ok (.iload_n 2, 1) := by decide +kernel
theorem dX9_strength_9 : decode cX9_strength 9 = .ok (.aload_n 0, 1) := by decide +kernel
theorem dX9_strength_10 : decode cX9_strength 10 = .ok (.getfield 7, 3) := by decide +kernel
theorem dX9_strength_13 : decode cX9_strength 13 = .ok (.iload_n 3, 1) := by decide +kernel
theorem dX9_strength_14 : decode cX9_strength 14 = .ok (.iconst 1, 1) := by decide +kernel
theorem dX9_strength_15 : decode cX9_strength 15 = .ok (.iadd, 1) := by decide +kernel
theorem dX9_strength_16 : decode cX9_strength 16 = .ok (.iaload, 1) := by decide +kernel
theorem dX9_strength_17 : decode cX9_strength 17 = .ok (.isub, 1) := by decide +kernel
theorem dX9_strength_18 : decode cX9_strength 18 = .ok (.istore 4, 2) := by decide +kernel
theorem dX9_strength_20 : decode cX9_strength 20 = .ok (.iload 4, 2) := by decide +kernel
theorem dX9_strength_22 : decode cX9_strength 22 = .ok (.ifCond .lt 16, 3) := by decide +kernel
theorem dX9_strength_25 : decode cX9_strength 25 = .ok (.iload 4, 2) := by decide +kernel
theorem dX9_strength_27 : decode cX9_strength 27 = .ok (.aload_n 0, 1) := by decide +kernel
theorem dX9_strength_28 : decode cX9_strength 28 = .ok (.getfield 7, 3) := by decide +kernel
theorem dX9_strength_31 : decode cX9_strength 31 = .ok (.iload_n 3, 1) := by decide +kernel
theorem dX9_strength_32 : decode cX9_strength 32 = .ok (.iconst 4, 1) := by decide +kernel
theorem dX9_strength_33 : decode cX9_strength 33 = .ok (.iadd, 1) := by decide +kernel
theorem dX9_strength_34 : decode cX9_strength 34 = .ok (.iaload, 1) := by decide +kernel
theorem dX9_strength_35 : decode cX9_strength 35 = .ok (.if_icmp .lt 5, 3) := by decide +kernel
theorem dX9_strength_38 : decode cX9_strength 38 = .ok (.iconst 0, 1) := by decide +kernel
theorem dX9_strength_39 : decode cX9_strength 39 = .ok (.ireturn, 1) := by decide +kernel
theorem dX9_strength_40 : decode cX9_strength 40 = .ok (.aload_n 0, 1) := by decide +kernel
theorem dX9_strength_41 : decode cX9_strength 41 = .ok (.getfield 7, 3) := by decide +kernel
theorem dX9_strength_44 : decode cX9_strength 44 = .ok (.iload_n 3, 1) := by decide +kernel
theorem dX9_strength_45 : decode cX9_strength 45 = .ok (.iconst 2, 1) := by decide +kernel
theorem dX9_strength_46 : decode cX9_strength 46 = .ok (.iadd, 1) := by decide +kernel
theorem dX9_strength_47 : decode cX9_strength 47 = .ok (.iaload, 1) := by decide +kernel
theorem dX9_strength_48 : decode cX9_strength 48 = .ok (.iload 4, 2) := by decide +kernel
theorem dX9_strength_50 : decode cX9_strength 50 = .ok (.iconst 1, 1) := by decide +kernel
theorem dX9_strength_51 : decode cX9_strength 51 = .ok (.iadd, 1) := by decide +kernel
theorem dX9_strength_52 : decode cX9_strength 52 = .ok (.imul, 1) := by decide +kernel
theorem dX9_strength_53 : decode cX9_strength 53 = .ok (.istore 5, 2) := by decide +kernel
theorem dX9_strength_55 : decode cX9_strength 55 = .ok (.iload 5, 2) := by decide +kernel
theorem dX9_strength_57 : decode cX9_strength 57 = .ok (.aload_n 0, 1) := by decide +kernel
theorem dX9_strength_58 : decode cX9_strength 58 = .ok (.getfield 7, 3) := by decide +kernel
theorem dX9_strength_61 : decode cX9_strength 61 = .ok (.iload_n 3, 1) := by decide +kernel
theorem dX9_strength_62 : decode cX9_strength 62 = .ok (.iconst 3, 1) := by decide +kernel
theorem dX9_strength_63 : decode cX9_strength 63 = .ok (.iadd, 1) := by decide +kernel
theorem dX9_strength_64 : decode cX9_strength 64 = .ok (.iaload, 1) := by decide +kernel
theorem dX9_strength_65 : decode cX9_strength 65 = .ok (.if_icmp .ge 8, 3) := by decide +kernel
theorem dX9_strength_68 : decode cX9_strength 68 = .ok (.iload 5, 2) := by decide +kernel
theorem dX9_strength_70 : decode cX9_strength 70 = .ok (.goto 11, 3) := by decide +kernel
theorem dX9_strength_73 : decode cX9_strength 73 = .ok (.aload_n 0, 1) := by decide +kernel
theorem dX9_strength_74 : decode cX9_strength 74 = .ok (.getfield 7, 3) := by decide +kernel
theorem dX9_strength_77 : decode cX9_strength 77 = .ok (.iload_n 3, 1) := by decide +kernel
theorem dX9_strength_78 : decode cX9_strength 78 = .ok (.iconst 3, 1) := by decide +kernel
theorem dX9_strength_79 : decode cX9_strength 79 = .ok (.iadd, 1) := by decide +kernel
theorem dX9_strength_80 : decode cX9_strength 80 = .ok (.iaload, 1) := by decide +kernel
theorem dX9_strength_81 : decode cX9_strength 81 = .ok (.ireturn, 1) := by decide +kernel
theorem dX9_glass_0 : decode cX9_glass 0 = .ok (.aload_n 0, 1) := by decide +kernel
theorem dX9_glass_1 : decode cX9_glass 1 = .ok (.getfield 7, 3) := by decide +kernel
theorem dX9_glass_4 : decode cX9_glass 4 = .ok (.bipush 76, 2) := by decide +kernel
theorem dX9_glass_6 : decode cX9_glass 6 = .ok (.bipush 24, 2) := by decide +kernel
theorem dX9_glass_8 : decode cX9_glass 8 = .ok (.iload_n 1, 1) := by decide +kernel
theorem dX9_glass_9 : decode cX9_glass 9 = .ok (.imul, 1) := by decide +kernel
theorem dX9_glass_10 : decode cX9_glass 10 = .ok (.iadd, 1) := by decide +kernel
theorem dX9_glass_11 : decode cX9_glass 11 = .ok (.iload_n 2, 1) := by decide +kernel
theorem dX9_glass_12 : decode cX9_glass 12 = .ok (.iadd, 1) := by decide +kernel
theorem dX9_glass_13 : decode cX9_glass 13 = .ok (.iaload, 1) := by decide +kernel
theorem dX9_glass_14 : decode cX9_glass 14 = .ok (.ireturn, 1) := by decide +kernel
theorem dX9_isOpen_0 : decode cX9_isOpen 0 = .ok (.aload_n 0, 1) := by decide +kernel
theorem dX9_isOpen_1 : decode cX9_isOpen 1 = .ok (.iload_n 2, 1) := by decide +kernel
theorem dX9_isOpen_2 : decode cX9_isOpen 2 = .ok (.iload_n 3, 1) := by decide +kernel
theorem dX9_isOpen_3 : decode cX9_isOpen 3 = .ok (.invokevirtual 121, 3) := by decide +kernel
theorem dX9_isOpen_6 : decode cX9_isOpen 6 = .ok (.aload_n 0, 1) := by decide +kernel
theorem dX9_isOpen_7 : decode cX9_isOpen 7 = .ok (.getfield 7, 3) := by decide +kernel
theorem dX9_isOpen_10 : decode cX9_isOpen 10 = .ok (.iconst 0, 1) := by decide +kernel
theorem dX9_isOpen_11 : decode cX9_isOpen 11 = .ok (.iconst 4, 1) := by decide +kernel
theorem dX9_isOpen_12 : decode cX9_isOpen 12 = .ok (.iload_n 1, 1) := by decide +kernel
theorem dX9_isOpen_13 : decode cX9_isOpen 13 = .ok (.imul, 1) := by decide +kernel
theorem dX9_isOpen_14 : decode cX9_isOpen 14 = .ok (.iadd, 1) := by decide +kernel
theorem dX9_isOpen_15 : decode cX9_isOpen 15 = .ok (.iconst 2, 1) := by decide +kernel
theorem dX9_isOpen_16 : decode cX9_isOpen 16 = .ok (.iadd, 1) := by decide +kernel
theorem dX9_isOpen_17 : decode cX9_isOpen 17 = .ok (.iaload, 1) := by decide +kernel
theorem dX9_isOpen_18 : decode cX9_isOpen 18 = .ok (.if_icmp .lt 35, 3) := by decide +kernel
theorem dX9_isOpen_21 : decode cX9_isOpen 21 = .ok (.aload_n 0, 1) := by decide +kernel
theorem dX9_isOpen_22 : decode cX9_isOpen 22 = .ok (.getfield 7, 3) := by decide +kernel
theorem dX9_isOpen_25 : decode cX9_isOpen 25 = .ok (.iconst 0, 1) := by decide +kernel
theorem dX9_isOpen_26 : decode cX9_isOpen 26 = .ok (.iconst 4, 1) := by decide +kernel
theorem dX9_isOpen_27 : decode cX9_isOpen 27 = .ok (.iload_n 1, 1) := by decide +kernel
theorem dX9_isOpen_28 : decode cX9_isOpen 28 = .ok (.imul, 1) := by decide +kernel
theorem dX9_isOpen_29 : decode cX9_isOpen 29 = .ok (.iadd, 1) := by decide +kernel
theorem dX9_isOpen_30 : decode cX9_isOpen 30 = .ok (.iconst 3, 1) := by decide +kernel
theorem dX9_isOpen_31 : decode cX9_isOpen 31 = .ok (.iadd, 1) := by decide +kernel
theorem dX9_isOpen_32 : decode cX9_isOpen 32 = .ok (.iaload, 1) := by decide +kernel
theorem dX9_isOpen_33 : decode cX9_isOpen 33 = .ok (.aload_n 0, 1) := by decide +kernel
theorem dX9_isOpen_34 : decode cX9_isOpen 34 = .ok (.getfield 7, 3) := by decide +kernel
theorem dX9_isOpen_37 : decode cX9_isOpen 37 = .ok (.bipush 52, 2) := by decide +kernel
theorem dX9_isOpen_39 : decode cX9_isOpen 39 = .ok (.bipush 6, 2) := by decide +kernel
theorem dX9_isOpen_41 : decode cX9_isOpen 41 = .ok (.iload_n 2, 1) := by decide +kernel
theorem dX9_isOpen_42 : decode cX9_isOpen 42 = .ok (.imul, 1) := by decide +kernel
theorem dX9_isOpen_43 : decode cX9_isOpen 43 = .ok (.iadd, 1) := by decide +kernel
theorem dX9_isOpen_44 : decode cX9_isOpen 44 = .ok (.iconst 5, 1) := by decide +kernel
theorem dX9_isOpen_45 : decode cX9_isOpen 45 = .ok (.iadd, 1) := by decide +kernel
theorem dX9_isOpen_46 : decode cX9_isOpen 46 = .ok (.iaload, 1) := by decide +kernel
theorem dX9_isOpen_47 : decode cX9_isOpen 47 = .ok (.ishr, 1) := by decide +kernel
theorem dX9_isOpen_48 : decode cX9_isOpen 48 = .ok (.iconst 1, 1) := by decide +kernel
theorem dX9_isOpen_49 : decode cX9_isOpen 49 = .ok (.iand, 1) := by decide +kernel
theorem dX9_isOpen_50 : decode cX9_isOpen 50 = .ok (.ifCond .ne 7, 3) := by decide +kernel
theorem dX9_isOpen_53 : decode cX9_isOpen 53 = .ok (.iconst 1, 1) := by decide +kernel
theorem dX9_isOpen_54 : decode cX9_isOpen 54 = .ok (.goto 4, 3) := by decide +kernel
theorem dX9_isOpen_57 : decode cX9_isOpen 57 = .ok (.iconst 0, 1) := by decide +kernel
theorem dX9_isOpen_58 : decode cX9_isOpen 58 = .ok (.ireturn, 1) := by decide +kernel
theorem dX9_riskOf_0 : decode cX9_riskOf 0 = .ok (.aload_n 0, 1) := by decide +kernel
theorem dX9_riskOf_1 : decode cX9_riskOf 1 = .ok (.getfield 7, 3) := by decide +kernel
theorem dX9_riskOf_4 : decode cX9_riskOf 4 = .ok (.sipush 172, 3) := by decide +kernel
theorem dX9_riskOf_7 : decode cX9_riskOf 7 = .ok (.aload_n 0, 1) := by decide +kernel
theorem dX9_riskOf_8 : decode cX9_riskOf 8 = .ok (.iload_n 2, 1) := by decide +kernel
theorem dX9_riskOf_9 : decode cX9_riskOf 9 = .ok (.iload_n 3, 1) := by decide +kernel
theorem dX9_riskOf_10 : decode cX9_riskOf 10 = .ok (.invokevirtual 121, 3) := by decide +kernel
theorem dX9_riskOf_13 : decode cX9_riskOf 13 = .ok (.iadd, 1) := by decide +kernel
theorem dX9_riskOf_14 : decode cX9_riskOf 14 = .ok (.iaload, 1) := by decide +kernel
theorem dX9_riskOf_15 : decode cX9_riskOf 15 = .ok (.aload_n 0, 1) := by decide +kernel
theorem dX9_riskOf_16 : decode cX9_riskOf 16 = .ok (.getfield 7, 3) := by decide +kernel
theorem dX9_riskOf_19 : decode cX9_riskOf 19 = .ok (.bipush 16, 2) := by decide +kernel
theorem dX9_riskOf_21 : decode cX9_riskOf 21 = .ok (.iconst 5, 1) := by decide +kernel
theorem dX9_riskOf_22 : decode cX9_riskOf 22 = .ok (.iload_n 1, 1) := by decide +kernel
theorem dX9_riskOf_23 : decode cX9_riskOf 23 = .ok (.imul, 1) := by decide +kernel
theorem dX9_riskOf_24 : decode cX9_riskOf 24 = .ok (.iadd, 1) := by decide +kernel
theorem dX9_riskOf_25 : decode cX9_riskOf 25 = .ok (.iconst 4, 1) := by decide +kernel
theorem dX9_riskOf_26 : decode cX9_riskOf 26 = .ok (.iadd, 1) := by decide +kernel
theorem dX9_riskOf_27 : decode cX9_riskOf 27 = .ok (.iaload, 1) := by decide +kernel
theorem dX9_riskOf_28 : decode cX9_riskOf 28 = .ok (.imul, 1) := by decide +kernel
theorem dX9_riskOf_29 : decode cX9_riskOf 29 = .ok (.istore 4, 2) := by decide +kernel
theorem dX9_riskOf_31 : decode cX9_riskOf 31 = .ok (.iload 4, 2) := by decide +kernel
theorem dX9_riskOf_33 : decode cX9_riskOf 33 = .ok (.sipush 999, 3) := by decide +kernel
theorem dX9_riskOf_36 : decode cX9_riskOf 36 = .ok (.if_icmp .le 9, 3) := by decide +kernel
theorem dX9_riskOf_39 : decode cX9_riskOf 39 = .ok (.sipush 999, 3) := by decide +kernel
theorem dX9_riskOf_42 : decode cX9_riskOf 42 = .ok (.goto 5, 3) := by decide +kernel
theorem dX9_riskOf_45 : decode cX9_riskOf 45 = .ok (.iload 4, 2) := by decide +kernel
theorem dX9_riskOf_47 : decode cX9_riskOf 47 = .ok (.ireturn, 1) := by decide +kernel
theorem dX9_away_0 : decode cX9_away 0 = .ok (.aload_n 0, 1) := by decide +kernel
theorem dX9_away_1 : decode cX9_away 1 = .ok (.getfield 7, 3) := by decide +kernel
theorem dX9_away_4 : decode cX9_away 4 = .ok (.bipush 36, 2) := by decide +kernel
theorem dX9_away_6 : decode cX9_away 6 = .ok (.iconst 4, 1) := by decide +kernel
theorem dX9_away_7 : decode cX9_away 7 = .ok (.iload_n 1, 1) := by decide +kernel
theorem dX9_away_8 : decode cX9_away 8 = .ok (.imul, 1) := by decide +kernel
theorem dX9_away_9 : decode cX9_away 9 = .ok (.iadd, 1) := by decide +kernel
theorem dX9_away_10 : decode cX9_away 10 = .ok (.iload_n 2, 1) := by decide +kernel
theorem dX9_away_11 : decode cX9_away 11 = .ok (.iadd, 1) := by decide +kernel
theorem dX9_away_12 : decode cX9_away 12 = .ok (.iaload, 1) := by decide +kernel
theorem dX9_away_13 : decode cX9_away 13 = .ok (.ireturn, 1) := by decide +kernel
theorem dX9_madeBy_0 : decode cX9_madeBy 0 = .ok (.iload_n 1, 1) := by decide +kernel
theorem dX9_madeBy_1 : decode cX9_madeBy 1 = .ok (.aload_n 0, 1) := by decide +kernel
theorem dX9_madeBy_2 : decode cX9_madeBy 2 = .ok (.iload_n 2, 1) := by decide +kernel
theorem dX9_madeBy_3 : decode cX9_madeBy 3 = .ok (.iload_n 3, 1) := by decide +kernel
theorem dX9_madeBy_4 : decode cX9_madeBy 4 = .ok (.invokevirtual 121, 3) := by decide +kernel
theorem dX9_madeBy_7 : decode cX9_madeBy 7 = .ok (.aload_n 0, 1) := by decide +kernel
theorem dX9_madeBy_8 : decode cX9_madeBy 8 = .ok (.getfield 7, 3) := by decide +kernel
theorem dX9_madeBy_11 : decode cX9_madeBy 11 = .ok (.sipush 182, 3) := by decide +kernel
theorem dX9_madeBy_14 : decode cX9_madeBy 14 = .ok (.iaload, 1) := by decide +kernel
theorem dX9_madeBy_15 : decode cX9_madeBy 15 = .ok (.idiv, 1) := by decide +kernel
theorem dX9_madeBy_16 : decode cX9_madeBy 16 = .ok (.isub, 1) := by decide +kernel
theorem dX9_madeBy_17 : decode cX9_madeBy 17 = .ok (.istore 4, 2) := by decide +kernel
theorem dX9_madeBy_19 : decode cX9_madeBy 19 = .ok (.iload 4, 2) := by decide +kernel
theorem dX9_madeBy_21 : decode cX9_madeBy 21 = .ok (.iconst 1, 1) := by decide +kernel
theorem dX9_madeBy_22 : decode cX9_madeBy 22 = .ok (.if_icmp .ge 7, 3) := by decide +kernel
theorem dX9_madeBy_25 : decode cX9_madeBy 25 = .ok (.iconst 1, 1) := by decide +kernel
theorem dX9_madeBy_26 : decode cX9_madeBy 26 = .ok (.goto 5, 3) := by decide +kernel
theorem dX9_madeBy_29 : decode cX9_madeBy 29 = .ok (.iload 4, 2) := by decide +kernel
theorem dX9_madeBy_31 : decode cX9_madeBy 31 = .ok (.ireturn, 1) := by decide +kernel
theorem dX9_storm_0 : decode cX9_storm 0 = .ok (.aload_n 0, 1) := by decide +kernel
theorem dX9_storm_1 : decode cX9_storm 1 = .ok (.iconst 0, 1) := by decide +kernel
theorem dX9_storm_2 : decode cX9_storm 2 = .ok (.putfield 67, 3) := by decide +kernel
theorem dX9_storm_5 : decode cX9_storm 5 = .ok (.aload_n 0, 1) := by decide +kernel
theorem dX9_storm_6 : decode cX9_storm 6 = .ok (.iload_n 1, 1) := by decide +kernel
theorem dX9_storm_7 : decode cX9_storm 7 = .ok (.invokevirtual 125, 3) := by decide +kernel
theorem dX9_storm_10 : decode cX9_storm 10 = .ok (.ifCond .eq 22, 3) := by decide +kernel
theorem dX9_storm_13 : decode cX9_storm 13 = .ok (.iload_n 2, 1) := by decide +kernel
theorem dX9_storm_14 : decode cX9_storm 14 = .ok (.iconst 0, 1) := by decide +kernel
theorem dX9_storm_15 : decode cX9_storm 15 = .ok (.bipush 23, 2) := by decide +kernel
theorem dX9_storm_17 : decode cX9_storm 17 = .ok (.invokestatic 74, 3) := by decide +kernel
theorem dX9_storm_20 : decode cX9_storm 20 = .ok (.ifCond .eq 12, 3) := by decide +kernel
theorem dX9_storm_23 : decode cX9_storm 23 = .ok (.iload_n 3, 1) := by decide +kernel
theorem dX9_storm_24 : decode cX9_storm 24 = .ok (.iconst 0, 1) := by decide +kernel
theorem dX9_storm_25 : decode cX9_storm 25 = .ok (.iconst 1, 1) := by decide +kernel
theorem dX9_storm_26 : decode cX9_storm 26 = .ok (.invokestatic 74, 3) := by decide +kernel
theorem dX9_storm_29 : decode cX9_storm 29 = .ok (.ifCond .ne 7, 3) := by decide +kernel
theorem dX9_storm_32 : decode cX9_storm 32 = .ok (.iconst (-1), 1) := by decide +kernel
theorem dX9_storm_33 : decode cX9_storm 33 = .ok (.goto 22, 3) := by decide +kernel
theorem dX9_storm_36 : decode cX9_storm 36 = .ok (.iload_n 3, 1) := by decide +kernel
theorem dX9_storm_37 : decode cX9_storm 37 = .ok (.ifCond .ne 12, 3) := by decide +kernel
theorem dX9_storm_40 : decode cX9_storm 40 = .ok (.aload_n 0, 1) := by decide +kernel
theorem dX9_storm_41 : decode cX9_storm 41 = .ok (.iload_n 1, 1) := by decide +kernel
theorem dX9_storm_42 : decode cX9_storm 42 = .ok (.iload_n 2, 1) := by decide +kernel
theorem dX9_storm_43 : decode cX9_storm 43 = .ok (.invokevirtual 121, 3) := by decide +kernel
theorem dX9_storm_46 : decode cX9_storm 46 = .ok (.goto 9, 3) := by decide +kernel
theorem dX9_storm_49 : decode cX9_storm 49 = .ok (.aload_n 0, 1) := by decide +kernel
theorem dX9_storm_50 : decode cX9_storm 50 = .ok (.iload_n 1, 1) := by decide +kernel
theorem dX9_storm_51 : decode cX9_storm 51 = .ok (.iload_n 2, 1) := by decide +kernel
theorem dX9_storm_52 : decode cX9_storm 52 = .ok (.invokevirtual 129, 3) := by decide +kernel
theorem dX9_storm_55 : decode cX9_storm 55 = .ok (.ireturn, 1) := by decide +kernel
theorem dX9_open_0 : decode cX9_open 0 = .ok (.aload_n 0, 1) := by decide +kernel
theorem dX9_open_1 : decode cX9_open 1 = .ok (.iconst 0, 1) := by decide +kernel
theorem dX9_open_2 : decode cX9_open 2 = .ok (.putfield 67, 3) := by decide +kernel
theorem dX9_open_5 : decode cX9_open 5 = .ok (.aload_n 0, 1) := by decide +kernel
theorem dX9_open_6 : decode cX9_open 6 = .ok (.iload_n 1, 1) := by decide +kernel
theorem dX9_open_7 : decode cX9_open 7 = .ok (.invokevirtual 132, 3) := by decide +kernel
theorem dX9_open_10 : decode cX9_open 10 = .ok (.ifCond .eq 21, 3) := by decide +kernel
theorem dX9_open_13 : decode cX9_open 13 = .ok (.aload_n 0, 1) := by decide +kernel
theorem dX9_open_14 : decode cX9_open 14 = .ok (.iload_n 2, 1) := by decide +kernel
theorem dX9_open_15 : decode cX9_open 15 = .ok (.invokevirtual 125, 3) := by decide +kernel
theorem dX9_open_18 : decode cX9_open 18 = .ok (.ifCond .eq 13, 3) := by decide +kernel
theorem dX9_open_21 : decode cX9_open 21 = .ok (.iload_n 3, 1) := by decide +kernel
theorem dX9_open_22 : decode cX9_open 22 = .ok (.iconst 0, 1) := by decide +kernel
theorem dX9_open_23 : decode cX9_open 23 = .ok (.bipush 23, 2) := by decide +kernel
theorem dX9_open_25 : decode cX9_open 25 = .ok (.invokestatic 74, 3) := by decide +kernel
theorem dX9_open_28 : decode cX9_open 28 = .ok (.ifCond .ne 7, 3) := by decide +kernel
theorem dX9_open_31 : decode cX9_open 31 = .ok (.iconst (-1), 1) := by decide +kernel
theorem dX9_open_32 : decode cX9_open 32 = .ok (.goto 18, 3) := by decide +kernel
theorem dX9_open_35 : decode cX9_open 35 = .ok (.aload_n 0, 1) := by decide +kernel
theorem dX9_open_36 : decode cX9_open 36 = .ok (.iload_n 1, 1) := by decide +kernel
theorem dX9_open_37 : decode cX9_open 37 = .ok (.iload_n 2, 1) := by decide +kernel
theorem dX9_open_38 : decode cX9_open 38 = .ok (.iload_n 3, 1) := by decide +kernel
theorem dX9_open_39 : decode cX9_open 39 = .ok (.invokevirtual 135, 3) := by decide +kernel
theorem dX9_open_42 : decode cX9_open 42 = .ok (.ifCond .eq 7, 3) := by decide +kernel
theorem dX9_open_45 : decode cX9_open 45 = .ok (.iconst 1, 1) := by decide +kernel
theorem dX9_open_46 : decode cX9_open 46 = .ok (.goto 4, 3) := by decide +kernel
theorem dX9_open_49 : decode cX9_open 49 = .ok (.iconst 0, 1) := by decide +kernel
theorem dX9_open_50 : decode cX9_open 50 = .ok (.ireturn, 1) := by decide +kernel
theorem dX9_risk_0 : decode cX9_risk 0 = .ok (.aload_n 0, 1) := by decide +kernel
theorem dX9_risk_1 : decode cX9_risk 1 = .ok (.iconst 0, 1) := by decide +kernel
theorem dX9_risk_2 : decode cX9_risk 2 = .ok (.putfield 67, 3) := by decide +kernel
theorem dX9_risk_5 : decode cX9_risk 5 = .ok (.aload_n 0, 1) := by decide +kernel
theorem dX9_risk_6 : decode cX9_risk 6 = .ok (.iload_n 1, 1) := by decide +kernel
theorem dX9_risk_7 : decode cX9_risk 7 = .ok (.invokevirtual 138, 3) := by decide +kernel
theorem dX9_risk_10 : decode cX9_risk 10 = .ok (.ifCond .eq 31, 3) := by decide +kernel
theorem dX9_risk_13 : decode cX9_risk 13 = .ok (.aload_n 0, 1) := by decide +kernel
theorem dX9_risk_14 : decode cX9_risk 14 = .ok (.iload_n 2, 1) := by decide +kernel
theorem dX9_risk_15 : decode cX9_risk 15 = .ok (.invokevirtual 125, 3) := by decide +kernel
theorem dX9_risk_18 : decode cX9_risk 18 = .ok (.ifCond .eq 23, 3) := by decide +kernel
theorem dX9_risk_21 : decode cX9_risk 21 = .ok (.iload_n 3, 1) := by decide +kernel
theorem dX9_risk_22 : decode cX9_risk 22 = .ok (.iconst 0, 1) := by decide +kernel
theorem dX9_risk_23 : decode cX9_risk 23 = .ok (.bipush 23, 2) := by decide +kernel
theorem dX9_risk_25 : decode cX9_risk 25 = .ok (.invokestatic 74, 3) := by decide +kernel
theorem dX9_risk_28 : decode cX9_risk 28 = .ok (.ifCond .eq 13, 3) := by decide +kernel
theorem dX9_risk_31 : decode cX9_risk 31 = .ok (.aload_n 0, 1) := by decide +kernel
theorem dX9_risk_32 : decode cX9_risk 32 = .ok (.iload_n 1, 1) := by decide +kernel
theorem dX9_risk_33 : decode cX9_risk 33 = .ok (.iload_n 2, 1) := by decide +kernel
theorem dX9_risk_34 : decode cX9_risk 34 = .ok (.iload_n 3, 1) := by decide +kernel
theorem dX9_risk_35 : decode cX9_risk 35 = .ok (.invokevirtual 141, 3) := by decide +kernel
theorem dX9_risk_38 : decode cX9_risk 38 = .ok (.goto 4, 3) := by decide +kernel
theorem dX9_risk_41 : decode cX9_risk 41 = .ok (.iconst (-1), 1) := by decide +kernel
theorem dX9_risk_42 : decode cX9_risk 42 = .ok (.ireturn, 1) := by decide +kernel
theorem dX9_reachOf_0 : decode cX9_reachOf 0 = .ok (.iconst 0, 1) := by decide +kernel
theorem dX9_reachOf_1 : decode cX9_reachOf 1 = .ok (.istore 5, 2) := by decide +kernel
theorem dX9_reachOf_3 : decode cX9_reachOf 3 = .ok (.iload 4, 2) := by decide +kernel
theorem dX9_reachOf_5 : decode cX9_reachOf 5 = .ok (.istore 6, 2) := by decide +kernel
theorem dX9_reachOf_7 : decode cX9_reachOf 7 = .ok (.iload 6, 2) := by decide +kernel
theorem dX9_reachOf_9 : decode cX9_reachOf 9 = .ok (.bipush 24, 2) := by decide +kernel
theorem dX9_reachOf_11 : decode cX9_reachOf 11 = .ok (.if_icmp .ge 45, 3) := by decide +kernel
theorem dX9_reachOf_14 : decode cX9_reachOf 14 = .ok (.iload 5, 2) := by decide +kernel
theorem dX9_reachOf_16 : decode cX9_reachOf 16 = .ok (.aload_n 0, 1) := by decide +kernel
theorem dX9_reachOf_17 : decode cX9_reachOf 17 = .ok (.iload_n 1, 1) := by decide +kernel
theorem dX9_reachOf_18 : decode cX9_reachOf 18 = .ok (.iload_n 2, 1) := by decide +kernel
theorem dX9_reachOf_19 : decode cX9_reachOf 19 = .ok (.invokevirtual 144, 3) := by decide +kernel
theorem dX9_reachOf_22 : decode cX9_reachOf 22 = .ok (.if_icmp .ge 34, 3) := by decide +kernel
theorem dX9_reachOf_25 : decode cX9_reachOf 25 = .ok (.iload 5, 2) := by decide +kernel
theorem dX9_reachOf_27 : decode cX9_reachOf 27 = .ok (.aload_n 0, 1) := by decide +kernel
theorem dX9_reachOf_28 : decode cX9_reachOf 28 = .ok (.aload_n 0, 1) := by decide +kernel
theorem dX9_reachOf_29 : decode cX9_reachOf 29 = .ok (.getfield 7, 3) := by decide +kernel
theorem dX9_reachOf_32 : decode cX9_reachOf 32 = .ok (.bipush 16, 2) := by decide +kernel
theorem dX9_reachOf_34 : decode cX9_reachOf 34 = .ok (.iconst 5, 1) := by decide +kernel
theorem dX9_reachOf_35 : decode cX9_reachOf 35 = .ok (.iload_n 1, 1) := by decide +kernel
theorem dX9_reachOf_36 : decode cX9_reachOf 36 = .ok (.imul, 1) := by decide +kernel
theorem dX9_reachOf_37 : decode cX9_reachOf 37 = .ok (.iadd, 1) := by decide +kernel
theorem dX9_reachOf_38 : decode cX9_reachOf 38 = .ok (.iconst 1, 1) := by decide +kernel
theorem dX9_reachOf_39 : decode cX9_reachOf 39 = .ok (.iadd, 1) := by decide +kernel
theorem dX9_reachOf_40 : decode cX9_reachOf 40 = .ok (.iaload, 1) := by decide +kernel
theorem dX9_reachOf_41 : decode cX9_reachOf 41 = .ok (.iload_n 3, 1) := by decide +kernel
theorem dX9_reachOf_42 : decode cX9_reachOf 42 = .ok (.iload 6, 2) := by decide +kernel
theorem dX9_reachOf_44 : decode cX9_reachOf 44 = .ok (.invokevirtual 147, 3) := by decide +kernel
theorem dX9_reachOf_47 : decode cX9_reachOf 47 = .ok (.iadd, 1) := by decide +kernel
theorem dX9_reachOf_48 : decode cX9_reachOf 48 = .ok (.istore 5, 2) := by decide +kernel
theorem dX9_reachOf_50 : decode cX9_reachOf 50 = .ok (.iinc 6 1, 3) := by decide +kernel
theorem dX9_reachOf_53 : decode cX9_reachOf 53 = .ok (.goto (-46), 3) := by decide +kernel
theorem dX9_reachOf_56 : decode cX9_reachOf 56 = .ok (.iload 5, 2) := by decide +kernel
theorem dX9_reachOf_58 : decode cX9_reachOf 58 = .ok (.aload_n 0, 1) := by decide +kernel
theorem dX9_reachOf_59 : decode cX9_reachOf 59 = .ok (.iload_n 1, 1) := by decide +kernel
theorem dX9_reachOf_60 : decode cX9_reachOf 60 = .ok (.iload_n 2, 1) := by decide +kernel
theorem dX9_reachOf_61 : decode cX9_reachOf 61 = .ok (.invokevirtual 144, 3) := by decide +kernel
theorem dX9_reachOf_64 : decode cX9_reachOf 64 = .ok (.if_icmp .lt 8, 3) := by decide +kernel
theorem dX9_reachOf_67 : decode cX9_reachOf 67 = .ok (.iload 6, 2) := by decide +kernel
theorem dX9_reachOf_69 : decode cX9_reachOf 69 = .ok (.goto 5, 3) := by decide +kernel
theorem dX9_reachOf_72 : decode cX9_reachOf 72 = .ok (.bipush 99, 2) := by decide +kernel
theorem dX9_reachOf_74 : decode cX9_reachOf 74 = .ok (.ireturn, 1) := by decide +kernel
theorem dX9_reach_0 : decode cX9_reach 0 = .ok (.aload_n 0, 1) := by decide +kernel
theorem dX9_reach_1 : decode cX9_reach 1 = .ok (.iconst 0, 1) := by decide +kernel
theorem dX9_reach_2 : decode cX9_reach 2 = .ok (.putfield 67, 3) := by decide +kernel
theorem dX9_reach_5 : decode cX9_reach 5 = .ok (.aload_n 0, 1) := by decide +kernel
theorem dX9_reach_6 : decode cX9_reach 6 = .ok (.iload_n 1, 1) := by decide +kernel
theorem dX9_reach_7 : decode cX9_reach 7 = .ok (.invokevirtual 138, 3) := by decide +kernel
theorem dX9_reach_10 : decode cX9_reach 10 = .ok (.ifCond .eq 30, 3) := by decide +kernel
theorem dX9_reach_13 : decode cX9_reach 13 = .ok (.aload_n 0, 1) := by decide +kernel
theorem dX9_reach_14 : decode cX9_reach 14 = .ok (.iload_n 2, 1) := by decide +kernel
theorem dX9_reach_15 : decode cX9_reach 15 = .ok (.invokevirtual 132, 3) := by decide +kernel
theorem dX9_reach_18 : decode cX9_reach 18 = .ok (.ifCond .eq 22, 3) := by decide +kernel
theorem dX9_reach_21 : decode cX9_reach 21 = .ok (.aload_n 0, 1) := by decide +kernel
theorem dX9_reach_22 : decode cX9_reach 22 = .ok (.iload_n 3, 1) := by decide +kernel
theorem dX9_reach_23 : decode cX9_reach 23 = .ok (.invokevirtual 125, 3) := by decide +kernel
theorem dX9_reach_26 : decode cX9_reach 26 = .ok (.ifCond .eq 14, 3) := by decide +kernel
theorem dX9_reach_29 : decode cX9_reach 29 = .ok (.iload 4, 2) := by decide +kernel
theorem dX9_reach_31 : decode cX9_reach 31 = .ok (.iconst 0, 1) := by decide +kernel
theorem dX9_reach_32 : decode cX9_reach 32 = .ok (.bipush 23, 2) := by decide +kernel
theorem dX9_reach_34 : decode cX9_reach 34 = .ok (.invokestatic 74, 3) := by decide +kernel
theorem dX9_reach_37 : decode cX9_reach 37 = .ok (.ifCond .ne 5, 3) := by decide +kernel
theorem dX9_reach_40 : decode cX9_reach 40 = .ok (.iconst (-1), 1) := by decide +kernel
theorem dX9_reach_41 : decode cX9_reach 41 = .ok (.ireturn, 1) := by decide +kernel
theorem dX9_reach_42 : decode cX9_reach 42 = .ok (.aload_n 0, 1) := by decide +kernel
theorem dX9_reach_43 : decode cX9_reach 43 = .ok (.iload_n 1, 1) := by decide +kernel
theorem dX9_reach_44 : decode cX9_reach 44 = .ok (.iload_n 2, 1) := by decide +kernel
theorem dX9_reach_45 : decode cX9_reach 45 = .ok (.iload_n 3, 1) := by decide +kernel
theorem dX9_reach_46 : decode cX9_reach 46 = .ok (.iload 4, 2) := by decide +kernel
theorem dX9_reach_48 : decode cX9_reach 48 = .ok (.invokevirtual 150, 3) := by decide +kernel
theorem dX9_reach_51 : decode cX9_reach 51 = .ok (.istore 5, 2) := by decide +kernel
theorem dX9_reach_53 : decode cX9_reach 53 = .ok (.iload 5, 2) := by decide +kernel
theorem dX9_reach_55 : decode cX9_reach 55 = .ok (.bipush 23, 2) := by decide +kernel
theorem dX9_reach_57 : decode cX9_reach 57 = .ok (.if_icmp .le 8, 3) := by decide +kernel
theorem dX9_reach_60 : decode cX9_reach 60 = .ok (.bipush (-4), 2) := by decide +kernel
theorem dX9_reach_62 : decode cX9_reach 62 = .ok (.goto 5, 3) := by decide +kernel
theorem dX9_reach_65 : decode cX9_reach 65 = .ok (.iload 5, 2) := by decide +kernel
theorem dX9_reach_67 : decode cX9_reach 67 = .ok (.ireturn, 1) := by decide +kernel
theorem dX9_plan_0 : decode cX9_plan 0 = .ok (.aload_n 0, 1) := by decide +kernel
theorem dX9_plan_1 : decode cX9_plan 1 = .ok (.iconst 0, 1) := by decide +kernel
theorem dX9_plan_2 : decode cX9_plan 2 = .ok (.putfield 67, 3) := by decide +kernel
theorem dX9_plan_5 : decode cX9_plan 5 = .ok (.aload_n 0, 1) := by decide +kernel
theorem dX9_plan_6 : decode cX9_plan 6 = .ok (.iload_n 1, 1) := by decide +kernel
theorem dX9_plan_7 : decode cX9_plan 7 = .ok (.invokevirtual 138, 3) := by decide +kernel
theorem dX9_plan_10 : decode cX9_plan 10 = .ok (.ifCond .eq 21, 3) := by decide +kernel
theorem dX9_plan_13 : decode cX9_plan 13 = .ok (.iload_n 2, 1) := by decide +kernel
theorem dX9_plan_14 : decode cX9_plan 14 = .ok (.iconst 0, 1) := by decide +kernel
theorem dX9_plan_15 : decode cX9_plan 15 = .ok (.bipush 24, 2) := by decide +kernel
theorem dX9_plan_17 : decode cX9_plan 17 = .ok (.invokestatic 74, 3) := by decide +kernel
theorem dX9_plan_20 : decode cX9_plan 20 = .ok (.ifCond .eq 11, 3) := by decide +kernel
theorem dX9_plan_23 : decode cX9_plan 23 = .ok (.aload_n 0, 1) := by decide +kernel
theorem dX9_plan_24 : decode cX9_plan 24 = .ok (.iload_n 3, 1) := by decide +kernel
theorem dX9_plan_25 : decode cX9_plan 25 = .ok (.invokevirtual 132, 3) := by decide +kernel
theorem dX9_plan_28 : decode cX9_plan 28 = .ok (.ifCond .ne 5, 3) := by decide +kernel
theorem dX9_plan_31 : decode cX9_plan 31 = .ok (.iconst (-1), 1) := by decide +kernel
theorem dX9_plan_32 : decode cX9_plan 32 = .ok (.ireturn, 1) := by decide +kernel
theorem dX9_plan_33 : decode cX9_plan 33 = .ok (.bipush 10, 2) := by decide +kernel
theorem dX9_plan_35 : decode cX9_plan 35 = .ok (.aload_n 0, 1) := by decide +kernel
theorem dX9_plan_36 : decode cX9_plan 36 = .ok (.getfield 13, 3) := by decide +kernel
theorem dX9_plan_39 : decode cX9_plan 39 = .ok (.iconst 0, 1) := by decide +kernel
theorem dX9_plan_40 : decode cX9_plan 40 = .ok (.iconst 2, 1) := by decide +kernel
theorem dX9_plan_41 : decode cX9_plan 41 = .ok (.iload_n 1, 1) := by decide +kernel
theorem dX9_plan_42 : decode cX9_plan 42 = .ok (.imul, 1) := by decide +kernel
theorem dX9_plan_43 : decode cX9_plan 43 = .ok (.iadd, 1) := by decide +kernel
theorem dX9_plan_44 : decode cX9_plan 44 = .ok (.iaload, 1) := by decide +kernel
theorem dX9_plan_45 : decode cX9_plan 45 = .ok (.imul, 1) := by decide +kernel
theorem dX9_plan_46 : decode cX9_plan 46 = .ok (.aload_n 0, 1) := by decide +kernel
theorem dX9_plan_47 : decode cX9_plan 47 = .ok (.getfield 13, 3) := by decide +kernel
theorem dX9_plan_50 : decode cX9_plan 50 = .ok (.iconst 0, 1) := by decide +kernel
theorem dX9_plan_51 : decode cX9_plan 51 = .ok (.iconst 2, 1) := by decide +kernel
theorem dX9_plan_52 : decode cX9_plan 52 = .ok (.iload_n 1, 1) := by decide +kernel
theorem dX9_plan_53 : decode cX9_plan 53 = .ok (.imul, 1) := by decide +kernel
theorem dX9_plan_54 : decode cX9_plan 54 = .ok (.iadd, 1) := by decide +kernel
theorem dX9_plan_55 : decode cX9_plan 55 = .ok (.iconst 1, 1) := by decide +kernel
theorem dX9_plan_56 : decode cX9_plan 56 = .ok (.iadd, 1) := by decide +kernel
theorem dX9_plan_57 : decode cX9_plan 57 = .ok (.iaload, 1) := by decide +kernel
theorem dX9_plan_58 : decode cX9_plan 58 = .ok (.iadd, 1) := by decide +kernel
theorem dX9_plan_59 : decode cX9_plan 59 = .ok (.istore 4, 2) := by decide +kernel
theorem dX9_plan_61 : decode cX9_plan 61 = .ok (.aload_n 0, 1) := by decide +kernel
theorem dX9_plan_62 : decode cX9_plan 62 = .ok (.getfield 13, 3) := by decide +kernel
theorem dX9_plan_65 : decode cX9_plan 65 = .ok (.iconst 0, 1) := by decide +kernel
theorem dX9_plan_66 : decode cX9_plan 66 = .ok (.iconst 2, 1) := by decide +kernel
theorem dX9_plan_67 : decode cX9_plan 67 = .ok (.iload_n 1, 1) := by decide +kernel
theorem dX9_plan_68 : decode cX9_plan 68 = .ok (.imul, 1) := by decide +kernel
theorem dX9_plan_69 : decode cX9_plan 69 = .ok (.iadd, 1) := by decide +kernel
theorem dX9_plan_70 : decode cX9_plan 70 = .ok (.iload_n 2, 1) := by decide +kernel
theorem dX9_plan_71 : decode cX9_plan 71 = .ok (.iastore, 1) := by decide +kernel
theorem dX9_plan_72 : decode cX9_plan 72 = .ok (.aload_n 0, 1) := by decide +kernel
theorem dX9_plan_73 : decode cX9_plan 73 = .ok (.getfield 13, 3) := by decide +kernel
theorem dX9_plan_76 : decode cX9_plan 76 = .ok (.iconst 0, 1) := by decide +kernel
theorem dX9_plan_77 : decode cX9_plan 77 = .ok (.iconst 2, 1) := by decide +kernel
theorem dX9_plan_78 : decode cX9_plan 78 = .ok (.iload_n 1, 1) := by decide +kernel
theorem dX9_plan_79 : decode cX9_plan 79 = .ok (.imul, 1) := by decide +kernel
theorem dX9_plan_80 : decode cX9_plan 80 = .ok (.iadd, 1) := by decide +kernel
theorem dX9_plan_81 : decode cX9_plan 81 = .ok (.iconst 1, 1) := by decide +kernel
theorem dX9_plan_82 : decode cX9_plan 82 = .ok (.iadd, 1) := by decide +kernel
theorem dX9_plan_83 : decode cX9_plan 83 = .ok (.iload_n 3, 1) := by decide +kernel
theorem dX9_plan_84 : decode cX9_plan 84 = .ok (.iastore, 1) := by decide +kernel
theorem dX9_plan_85 : decode cX9_plan 85 = .ok (.iload 4, 2) := by decide +kernel
theorem dX9_plan_87 : decode cX9_plan 87 = .ok (.ireturn, 1) := by decide +kernel
theorem dX9_asPlanned_0 : decode cX9_asPlanned 0 = .ok (.iconst 0, 1) := by decide +kernel
theorem dX9_asPlanned_1 : decode cX9_asPlanned 1 = .ok (.istore_n 1, 1) := by decide +kernel
theorem dX9_asPlanned_2 : decode cX9_asPlanned 2 = .ok (.iload_n 1, 1) := by decide +kernel
theorem dX9_asPlanned_3 : decode cX9_asPlanned 3 = .ok (.iconst 4, 1) := by decide +kernel
theorem dX9_asPlanned_4 : decode cX9_asPlanned 4 = .ok (.if_icmp .ge 62, 3) := by decide +kernel
theorem dX9_asPlanned_7 : decode cX9_asPlanned 7 = .ok (.aload_n 0, 1) := by decide +kernel
theorem dX9_asPlanned_8 : decode cX9_asPlanned 8 = .ok (.getfield 22, 3) := by decide +kernel
theorem dX9_asPlanned_11 : decode cX9_asPlanned 11 = .ok (.iload_n 1, 1) := by decide +kernel
theorem dX9_asPlanned_12 : decode cX9_asPlanned 12 = .ok (.aload_n 0, 1) := by decide +kernel
theorem dX9_asPlanned_13 : decode cX9_asPlanned 13 = .ok (.getfield 13, 3) := by decide +kernel
theorem dX9_asPlanned_16 : decode cX9_asPlanned 16 = .ok (.iconst 0, 1) := by decide +kernel
theorem dX9_asPlanned_17 : decode cX9_asPlanned 17 = .ok (.iconst 2, 1) := by decide +kernel
theorem dX9_asPlanned_18 : decode cX9_asPlanned 18 = .ok (.iload_n 1, 1) := by decide +kernel
theorem dX9_asPlanned_19 : decode cX9_asPlanned 19 = .ok (.imul, 1) := by decide +kernel
theorem dX9_asPlanned_20 : decode cX9_asPlanned 20 = .ok (.iadd, 1) := by decide +kernel
theorem dX9_asPlanned_21 : decode cX9_asPlanned 21 = .ok (.iaload, 1) := by decide +kernel
theorem dX9_asPlanned_22 : decode cX9_asPlanned 22 = .ok (.iastore, 1) := by decide +kernel
theorem dX9_asPlanned_23 : decode cX9_asPlanned 23 = .ok (.aload_n 0, 1) := by decide +kernel
theorem dX9_asPlanned_24 : decode cX9_asPlanned 24 = .ok (.getfield 25, 3) := by decide +kernel
theorem dX9_asPlanned_27 : decode cX9_asPlanned 27 = .ok (.iload_n 1, 1) := by decide +kernel
theorem dX9_asPlanned_28 : decode cX9_asPlanned 28 = .ok (.aload_n 0, 1) := by decide +kernel
theorem dX9_asPlanned_29 : decode cX9_asPlanned 29 = .ok (.getfield 13, 3) := by decide +kernel
theorem dX9_asPlanned_32 : decode cX9_asPlanned 32 = .ok (.iconst 0, 1) := by decide +kernel
theorem dX9_asPlanned_33 : decode cX9_asPlanned 33 = .ok (.iconst 2, 1) := by decide +kernel
theorem dX9_asPlanned_34 : decode cX9_asPlanned 34 = .ok (.iload_n 1, 1) := by decide +kernel
theorem dX9_asPlanned_35 : decode cX9_asPlanned 35 = .ok (.imul, 1) := by decide +kernel
theorem dX9_asPlanned_36 : decode cX9_asPlanned 36 = .ok (.iadd, 1) := by decide +kernel
theorem dX9_asPlanned_37 : decode cX9_asPlanned 37 = .ok (.iconst 1, 1) := by decide +kernel
theorem dX9_asPlanned_38 : decode cX9_asPlanned 38 = .ok (.iadd, 1) := by decide +kernel
theorem dX9_asPlanned_39 : decode cX9_asPlanned 39 = .ok (.iaload, 1) := by decide +kernel
theorem dX9_asPlanned_40 : decode cX9_asPlanned 40 = .ok (.iastore, 1) := by decide +kernel
theorem dX9_asPlanned_41 : decode cX9_asPlanned 41 = .ok (.aload_n 0, 1) := by decide +kernel
theorem dX9_asPlanned_42 : decode cX9_asPlanned 42 = .ok (.getfield 28, 3) := by decide +kernel
theorem dX9_asPlanned_45 : decode cX9_asPlanned 45 = .ok (.iload_n 1, 1) := by decide +kernel
theorem dX9_asPlanned_46 : decode cX9_asPlanned 46 = .ok (.aload_n 0, 1) := by decide +kernel
theorem dX9_asPlanned_47 : decode cX9_asPlanned 47 = .ok (.getfield 7, 3) := by decide +kernel
theorem dX9_asPlanned_50 : decode cX9_asPlanned 50 = .ok (.bipush 16, 2) := by decide +kernel
theorem dX9_asPlanned_52 : decode cX9_asPlanned 52 = .ok (.iconst 5, 1) := by decide +kernel
theorem dX9_asPlanned_53 : decode cX9_asPlanned 53 = .ok (.iload_n 1, 1) := by decide +kernel
theorem dX9_asPlanned_54 : decode cX9_asPlanned 54 = .ok (.imul, 1) := by decide +kernel
theorem dX9_asPlanned_55 : decode cX9_asPlanned 55 = .ok (.iadd, 1) := by decide +kernel
theorem dX9_asPlanned_56 : decode cX9_asPlanned 56 = .ok (.iconst 1, 1) := by decide +kernel
theorem dX9_asPlanned_57 : decode cX9_asPlanned 57 = .ok (.iadd, 1) := by decide +kernel
theorem dX9_asPlanned_58 : decode cX9_asPlanned 58 = .ok (.iaload, 1) := by decide +kernel
theorem dX9_asPlanned_59 : decode cX9_asPlanned 59 = .ok (.iastore, 1) := by decide +kernel
theorem dX9_asPlanned_60 : decode cX9_asPlanned 60 = .ok (.iinc 1 1, 3) := by decide +kernel
theorem dX9_asPlanned_63 : decode cX9_asPlanned 63 = .ok (.goto (-61), 3) := by decide +kernel
theorem dX9_asPlanned_66 : decode cX9_asPlanned 66 = .ok (.return_, 1) := by decide +kernel
theorem dX9_boats_0 : decode cX9_boats 0 = .ok (.iconst 0, 1) := by decide +kernel
theorem dX9_boats_1 : decode cX9_boats 1 = .ok (.istore_n 1, 1) := by decide +kernel
theorem dX9_boats_2 : decode cX9_boats 2 = .ok (.iconst 0, 1) := by decide +kernel
theorem dX9_boats_3 : decode cX9_boats 3 = .ok (.istore_n 2, 1) := by decide +kernel
theorem dX9_boats_4 : decode cX9_boats 4 = .ok (.iload_n 2, 1) := by decide +kernel
theorem dX9_boats_5 : decode cX9_boats 5 = .ok (.aload_n 0, 1) := by decide +kernel
theorem dX9_boats_6 : decode cX9_boats 6 = .ok (.getfield 7, 3) := by decide +kernel
theorem dX9_boats_9 : decode cX9_boats 9 = .ok (.sipush 184, 3) := by decide +kernel
theorem dX9_boats_12 : decode cX9_boats 12 = .ok (.iaload, 1) := by decide +kernel
theorem dX9_boats_13 : decode cX9_boats 13 = .ok (.if_icmp .ge 23, 3) := by decide +kernel
theorem dX9_boats_16 : decode cX9_boats 16 = .ok (.iload_n 1, 1) := by decide +kernel
theorem dX9_boats_17 : decode cX9_boats 17 = .ok (.aload_n 0, 1) := by decide +kernel
theorem dX9_boats_18 : decode cX9_boats 18 = .ok (.getfield 7, 3) := by decide +kernel
theorem dX9_boats_21 : decode cX9_boats 21 = .ok (.bipush 16, 2) := by decide +kernel
theorem dX9_boats_23 : decode cX9_boats 23 = .ok (.iconst 5, 1) := by decide +kernel
theorem dX9_boats_24 : decode cX9_boats 24 = .ok (.iload_n 2, 1) := by decide +kernel
theorem dX9_boats_25 : decode cX9_boats 25 = .ok (.imul, 1) := by decide +kernel
theorem dX9_boats_26 : decode cX9_boats 26 = .ok (.iadd, 1) := by decide +kernel
theorem dX9_boats_27 : decode cX9_boats 27 = .ok (.iaload, 1) := by decide +kernel
theorem dX9_boats_28 : decode cX9_boats 28 = .ok (.iadd, 1) := by decide +kernel
theorem dX9_boats_29 : decode cX9_boats 29 = .ok (.istore_n 1, 1) := by decide +kernel
theorem dX9_boats_30 : decode cX9_boats 30 = .ok (.iinc 2 1, 3) := by decide +kernel
theorem dX9_boats_33 : decode cX9_boats 33 = .ok (.goto (-29), 3) := by decide +kernel
theorem dX9_boats_36 : decode cX9_boats 36 = .ok (.iload_n 1, 1) := by decide +kernel
theorem dX9_boats_37 : decode cX9_boats 37 = .ok (.ireturn, 1) := by decide +kernel
theorem dX9_weightOf_0 : decode cX9_weightOf 0 = .ok (.aload_n 0, 1) := by decide +kernel
theorem dX9_weightOf_1 : decode cX9_weightOf 1 = .ok (.getfield 7, 3) := by decide +kernel
theorem dX9_weightOf_4 : decode cX9_weightOf 4 = .ok (.bipush 16, 2) := by decide +kernel
theorem dX9_weightOf_6 : decode cX9_weightOf 6 = .ok (.iconst 5, 1) := by decide +kernel
theorem dX9_weightOf_7 : decode cX9_weightOf 7 = .ok (.aload_n 0, 1) := by decide +kernel
theorem dX9_weightOf_8 : decode cX9_weightOf 8 = .ok (.getfield 31, 3) := by decide +kernel
theorem dX9_weightOf_11 : decode cX9_weightOf 11 = .ok (.iload_n 1, 1) := by decide +kernel
theorem dX9_weightOf_12 : decode cX9_weightOf 12 = .ok (.iaload, 1) := by decide +kernel
theorem dX9_weightOf_13 : decode cX9_weightOf 13 = .ok (.imul, 1) := by decide +kernel
theorem dX9_weightOf_14 : decode cX9_weightOf 14 = .ok (.iadd, 1) := by decide +kernel
theorem dX9_weightOf_15 : decode cX9_weightOf 15 = .ok (.iconst 3, 1) := by decide +kernel
theorem dX9_weightOf_16 : decode cX9_weightOf 16 = .ok (.iadd, 1) := by decide +kernel
theorem dX9_weightOf_17 : decode cX9_weightOf 17 = .ok (.iaload, 1) := by decide +kernel
theorem dX9_weightOf_18 : decode cX9_weightOf 18 = .ok (.aload_n 0, 1) := by decide +kernel
theorem dX9_weightOf_19 : decode cX9_weightOf 19 = .ok (.getfield 7, 3) := by decide +kernel
theorem dX9_weightOf_22 : decode cX9_weightOf 22 = .ok (.bipush 16, 2) := by decide +kernel
theorem dX9_weightOf_24 : decode cX9_weightOf 24 = .ok (.iconst 5, 1) := by decide +kernel
theorem dX9_weightOf_25 : decode cX9_weightOf 25 = .ok (.aload_n 0, 1) := by decide +kernel
theorem dX9_weightOf_26 : decode cX9_weightOf 26 = .ok (.getfield 31, 3) := by decide +kernel
theorem dX9_weightOf_29 : decode cX9_weightOf 29 = .ok (.iload_n 1, 1) := by decide +kernel
theorem dX9_weightOf_30 : decode cX9_weightOf 30 = .ok (.iaload, 1) := by decide +kernel
theorem dX9_weightOf_31 : decode cX9_weightOf 31 = .ok (.imul, 1) := by decide +kernel
theorem dX9_weightOf_32 : decode cX9_weightOf 32 = .ok (.iadd, 1) := by decide +kernel
theorem dX9_weightOf_33 : decode cX9_weightOf 33 = .ok (.iconst 4, 1) := by decide +kernel
theorem dX9_weightOf_34 : decode cX9_weightOf 34 = .ok (.iadd, 1) := by decide +kernel
theorem dX9_weightOf_35 : decode cX9_weightOf 35 = .ok (.iaload, 1) := by decide +kernel
theorem dX9_weightOf_36 : decode cX9_weightOf 36 = .ok (.imul, 1) := by decide +kernel
theorem dX9_weightOf_37 : decode cX9_weightOf 37 = .ok (.ireturn, 1) := by decide +kernel
theorem dX9_nextIn_0 : decode cX9_nextIn 0 = .ok (.bipush (-4), 2) := by decide +kernel
theorem dX9_nextIn_2 : decode cX9_nextIn 2 = .ok (.istore 5, 2) := by decide +kernel
theorem dX9_nextIn_4 : decode cX9_nextIn 4 = .ok (.iconst 0, 1) := by decide +kernel
theorem dX9_nextIn_5 : decode cX9_nextIn 5 = .ok (.istore 6, 2) := by decide +kernel
theorem dX9_nextIn_7 : decode cX9_nextIn 7 = .ok (.iload 6, 2) := by decide +kernel
theorem dX9_nextIn_9 : decode cX9_nextIn 9 = .ok (.iload_n 3, 1) := by decide +kernel
theorem dX9_nextIn_10 : decode cX9_nextIn 10 = .ok (.if_icmp .ge 155, 3) := by decide +kernel
theorem dX9_nextIn_13 : decode cX9_nextIn 13 = .ok (.aload_n 0, 1) := by decide +kernel
theorem dX9_nextIn_14 : decode cX9_nextIn 14 = .ok (.getfield 43, 3) := by decide +kernel
theorem dX9_nextIn_17 : decode cX9_nextIn 17 = .ok (.iload 6, 2) := by decide +kernel
theorem dX9_nextIn_19 : decode cX9_nextIn 19 = .ok (.baload, 1) := by decide +kernel
theorem dX9_nextIn_20 : decode cX9_nextIn 20 = .ok (.ifCond .ne 139, 3) := by decide +kernel
theorem dX9_nextIn_23 : decode cX9_nextIn 23 = .ok (.aload_n 0, 1) := by decide +kernel
theorem dX9_nextIn_24 : decode cX9_nextIn 24 = .ok (.getfield 34, 3) := by decide +kernel
theorem dX9_nextIn_27 : decode cX9_nextIn 27 = .ok (.iload 6, 2) := by decide +kernel
theorem dX9_nextIn_29 : decode cX9_nextIn 29 = .ok (.iaload, 1) := by decide +kernel
theorem dX9_nextIn_30 : decode cX9_nextIn 30 = .ok (.iload_n 2, 1) := by decide +kernel
theorem dX9_nextIn_31 : decode cX9_nextIn 31 = .ok (.if_icmp .gt 128, 3) := by decide +kernel
theorem dX9_nextIn_34 : decode cX9_nextIn 34 = .ok (.aload_n 0, 1) := by decide +kernel
theorem dX9_nextIn_35 : decode cX9_nextIn 35 = .ok (.getfield 25, 3) := by decide +kernel
theorem dX9_nextIn_38 : decode cX9_nextIn 38 = .ok (.aload_n 0, 1) := by decide +kernel
theorem dX9_nextIn_39 : decode cX9_nextIn 39 = .ok (.getfield 31, 3) := by decide +kernel
theorem dX9_nextIn_42 : decode cX9_nextIn 42 = .ok (.iload 6, 2) := by decide +kernel
theorem dX9_nextIn_44 : decode cX9_nextIn 44 = .ok (.iaload, 1) := by decide +kernel
theorem dX9_nextIn_45 : decode cX9_nextIn 45 = .ok (.iaload, 1) := by decide +kernel
theorem dX9_nextIn_46 : decode cX9_nextIn 46 = .ok (.iload_n 1, 1) := by decide +kernel
theorem dX9_nextIn_47 : decode cX9_nextIn 47 = .ok (.if_icmp .ne 112, 3) := by decide +kernel
theorem dX9_nextIn_50 : decode cX9_nextIn 50 = .ok (.iload 5, 2) := by decide +kernel
theorem dX9_nextIn_52 : decode cX9_nextIn 52 = .ok (.bipush (-4), 2) := by decide +kernel
theorem dX9_nextIn_54 : decode cX9_nextIn 54 = .ok (.if_icmp .eq 24, 3) := by decide +kernel
theorem dX9_nextIn_57 : decode cX9_nextIn 57 = .ok (.aload_n 0, 1) := by decide +kernel
theorem dX9_nextIn_58 : decode cX9_nextIn 58 = .ok (.getfield 34, 3) := by decide +kernel
theorem dX9_nextIn_61 : decode cX9_nextIn 61 = .ok (.iload 6, 2) := by decide +kernel
theorem dX9_nextIn_63 : decode cX9_nextIn 63 = .ok (.iaload, 1) := by decide +kernel
theorem dX9_nextIn_64 : decode cX9_nextIn 64 = .ok (.aload_n 0, 1) := by decide +kernel
theorem dX9_nextIn_65 : decode cX9_nextIn 65 = .ok (.getfield 34, 3) := by decide +kernel
theorem dX9_nextIn_68 : decode cX9_nextIn 68 = .ok (.iload 5, 2) := by decide +kernel
theorem dX9_nextIn_70 : decode cX9_nextIn 70 = .ok (.iaload, 1) := by decide +kernel
theorem dX9_nextIn_71 : decode cX9_nextIn 71 = .ok (.if_icmp .ge 7, 3) := by decide +kernel
theorem dX9_nextIn_74 : decode cX9_nextIn 74 = .ok (.iconst 1, 1) := by decide +kernel
theorem dX9_nextIn_75 : decode cX9_nextIn 75 = .ok (.goto 4, 3) := by decide +kernel
theorem dX9_nextIn_78 : decode cX9_nextIn 78 = .ok (.iconst 0, 1) := by decide +kernel
theorem dX9_nextIn_79 : decode cX9_nextIn 79 = .ok (.istore 7, 2) := by decide +kernel
theorem dX9_nextIn_81 : decode cX9_nextIn 81 = .ok (.iload 4, 2) := by decide +kernel
theorem dX9_nextIn_83 : decode cX9_nextIn 83 = .ok (.ifCond .eq 29, 3) := by decide +kernel
theorem dX9_nextIn_86 : decode cX9_nextIn 86 = .ok (.iload 5, 2) := by decide +kernel
theorem dX9_nextIn_88 : decode cX9_nextIn 88 = .ok (.bipush (-4), 2) := by decide +kernel
theorem dX9_nextIn_90 : decode cX9_nextIn 90 = .ok (.if_icmp .eq 22, 3) := by decide +kernel
theorem dX9_nextIn_93 : decode cX9_nextIn 93 = .ok (.aload_n 0, 1) := by decide +kernel
theorem dX9_nextIn_94 : decode cX9_nextIn 94 = .ok (.iload 6, 2) := by decide +kernel
theorem dX9_nextIn_96 : decode cX9_nextIn 96 = .ok (.invokevirtual 154, 3) := by decide +kernel
theorem dX9_nextIn_99 : decode cX9_nextIn 99 = .ok (.aload_n 0, 1) := by decide +kernel
theorem dX9_nextIn_100 : decode cX9_nextIn 100 = .ok (.iload 5, 2) := by decide +kernel
theorem dX9_nextIn_102 : decode cX9_nextIn 102 = .ok (.invokevirtual 154, 3) := by decide +kernel
theorem dX9_nextIn_105 : decode cX9_nextIn 105 = .ok (.if_icmp .eq 7, 3) := by decide +kernel
theorem dX9_nextIn_108 : decode cX9_nextIn 108 = .ok (.iconst 1, 1) := by decide +kernel
theorem dX9_nextIn_109 : decode cX9_nextIn 109 = .ok (.goto 4, 3) := by decide +kernel
theorem dX9_nextIn_112 : decode cX9_nextIn 112 = .ok (.iconst 0, 1) := by decide +kernel
theorem dX9_nextIn_113 : decode cX9_nextIn 113 = .ok (.istore 8, 2) := by decide +kernel
theorem dX9_nextIn_115 : decode cX9_nextIn 115 = .ok (.iload 5, 2) := by decide +kernel
theorem dX9_nextIn_117 : decode cX9_nextIn 117 = .ok (.bipush (-4), 2) := by decide +kernel
theorem dX9_nextIn_119 : decode cX9_nextIn 119 = .ok (.if_icmp .eq 31, 3) := by decide +kernel
theorem dX9_nextIn_122 : decode cX9_nextIn 122 = .ok (.iload 8, 2) := by decide +kernel
theorem dX9_nextIn_124 : decode cX9_nextIn 124 = .ok (.ifCond .eq 21, 3) := by decide +kernel
theorem dX9_nextIn_127 : decode cX9_nextIn 127 = .ok (.aload_n 0, 1) := by decide +kernel
theorem dX9_nextIn_128 : decode cX9_nextIn 128 = .ok (.iload 6, 2) := by decide +kernel
theorem dX9_nextIn_130 : decode cX9_nextIn 130 = .ok (.invokevirtual 154, 3) := by decide +kernel
theorem dX9_nextIn_133 : decode cX9_nextIn 133 = .ok (.aload_n 0, 1) := by decide +kernel
theorem dX9_nextIn_134 : decode cX9_nextIn 134 = .ok (.iload 5, 2) := by decide +kernel
theorem dX9_nextIn_136 : decode cX9_nextIn 136 = .ok (.invokevirtual 154, 3) := by decide +kernel
theorem dX9_nextIn_139 : decode cX9_nextIn 139 = .ok (.if_icmp .le 16, 3) := by decide +kernel
theorem dX9_nextIn_142 : decode cX9_nextIn 142 = .ok (.goto 8, 3) := by decide +kernel
theorem dX9_nextIn_145 : decode cX9_nextIn 145 = .ok (.iload 7, 2) := by decide +kernel
theorem dX9_nextIn_147 : decode cX9_nextIn 147 = .ok (.ifCond .eq 8, 3) := by decide +kernel
theorem dX9_nextIn_150 : decode cX9_nextIn 150 = .ok (.iload 6, 2) := by decide +kernel
theorem dX9_nextIn_152 : decode cX9_nextIn 152 = .ok (.goto 5, 3) := by decide +kernel
theorem dX9_nextIn_155 : decode cX9_nextIn 155 = .ok (.iload 5, 2) := by decide +kernel
theorem dX9_nextIn_157 : decode cX9_nextIn 157 = .ok (.istore 5, 2) := by decide +kernel
theorem dX9_nextIn_159 : decode cX9_nextIn 159 = .ok (.iinc 6 1, 3) := by decide +kernel
theorem dX9_nextIn_162 : decode cX9_nextIn 162 = .ok (.goto (-155), 3) := by decide +kernel
theorem dX9_nextIn_165 : decode cX9_nextIn 165 = .ok (.iload 5, 2) := by decide +kernel
theorem dX9_nextIn_167 : decode cX9_nextIn 167 = .ok (.ireturn, 1) := by decide +kernel
theorem dX9_goesBy_0 : decode cX9_goesBy 0 = .ok (.iconst 0, 1) := by decide +kernel
theorem dX9_goesBy_1 : decode cX9_goesBy 1 = .ok (.istore_n 3, 1) := by decide +kernel
theorem dX9_goesBy_2 : decode cX9_goesBy 2 = .ok (.iconst 0, 1) := by decide +kernel
theorem dX9_goesBy_3 : decode cX9_goesBy 3 = .ok (.istore 4, 2) := by decide +kernel
theorem dX9_goesBy_5 : decode cX9_goesBy 5 = .ok (.iload 4, 2) := by decide +kernel
theorem dX9_goesBy_7 : decode cX9_goesBy 7 = .ok (.aload_n 0, 1) := by decide +kernel
theorem dX9_goesBy_8 : decode cX9_goesBy 8 = .ok (.getfield 7, 3) := by decide +kernel
theorem dX9_goesBy_11 : decode cX9_goesBy 11 = .ok (.sipush 184, 3) := by decide +kernel
theorem dX9_goesBy_14 : decode cX9_goesBy 14 = .ok (.iaload, 1) := by decide +kernel
theorem dX9_goesBy_15 : decode cX9_goesBy 15 = .ok (.if_icmp .ge 84, 3) := by decide +kernel
theorem dX9_goesBy_18 : decode cX9_goesBy 18 = .ok (.aload_n 0, 1) := by decide +kernel
theorem dX9_goesBy_19 : decode cX9_goesBy 19 = .ok (.getfield 50, 3) := by decide +kernel
theorem dX9_goesBy_22 : decode cX9_goesBy 22 = .ok (.iload 4, 2) := by decide +kernel
theorem dX9_goesBy_24 : decode cX9_goesBy 24 = .ok (.lconst 0, 1) := by decide +kernel
theorem dX9_goesBy_25 : decode cX9_goesBy 25 = .ok (.lastore, 1) := by decide +kernel
theorem dX9_goesBy_26 : decode cX9_goesBy 26 = .ok (.iconst 0, 1) := by decide +kernel
theorem dX9_goesBy_27 : decode cX9_goesBy 27 = .ok (.istore 5, 2) := by decide +kernel
theorem dX9_goesBy_29 : decode cX9_goesBy 29 = .ok (.iload 5, 2) := by decide +kernel
theorem dX9_goesBy_31 : decode cX9_goesBy 31 = .ok (.aload_n 0, 1) := by decide +kernel
theorem dX9_goesBy_32 : decode cX9_goesBy 32 = .ok (.getfield 7, 3) := by decide +kernel
theorem dX9_goesBy_35 : decode cX9_goesBy 35 = .ok (.bipush 16, 2) := by decide +kernel
theorem dX9_goesBy_37 : decode cX9_goesBy 37 = .ok (.iconst 5, 1) := by decide +kernel
theorem dX9_goesBy_38 : decode cX9_goesBy 38 = .ok (.iload 4, 2) := by decide +kernel
theorem dX9_goesBy_40 : decode cX9_goesBy 40 = .ok (.imul, 1) := by decide +kernel
theorem dX9_goesBy_41 : decode cX9_goesBy 41 = .ok (.iadd, 1) := by decide +kernel
theorem dX9_goesBy_42 : decode cX9_goesBy 42 = .ok (.iaload, 1) := by decide +kernel
theorem dX9_goesBy_43 : decode cX9_goesBy 43 = .ok (.if_icmp .ge 50, 3) := by decide +kernel
theorem dX9_goesBy_46 : decode cX9_goesBy 46 = .ok (.aload_n 0, 1) := by decide +kernel
theorem dX9_goesBy_47 : decode cX9_goesBy 47 = .ok (.getfield 31, 3) := by decide +kernel
theorem dX9_goesBy_50 : decode cX9_goesBy 50 = .ok (.iload_n 3, 1) := by decide +kernel
theorem dX9_goesBy_51 : decode cX9_goesBy 51 = .ok (.iload 4, 2) := by decide +kernel
theorem dX9_goesBy_53 : decode cX9_goesBy 53 = .ok (.iastore, 1) := by decide +kernel
theorem dX9_goesBy_54 : decode cX9_goesBy 54 = .ok (.aload_n 0, 1) := by decide +kernel
theorem dX9_goesBy_55 : decode cX9_goesBy 55 = .ok (.getfield 34, 3) := by decide +kernel
theorem dX9_goesBy_58 : decode cX9_goesBy 58 = .ok (.iload_n 3, 1) := by decide +kernel
theorem dX9_goesBy_59 : decode cX9_goesBy 59 = .ok (.bipush 99, 2) := by decide +kernel
theorem dX9_goesBy_61 : decode cX9_goesBy 61 = .ok (.iastore, 1) := by decide +kernel
theorem dX9_goesBy_62 : decode cX9_goesBy 62 = .ok (.aload_n 0, 1) := by decide +kernel
theorem dX9_goesBy_63 : decode cX9_goesBy 63 = .ok (.getfield 37, 3) := by decide +kernel
theorem dX9_goesBy_66 : decode cX9_goesBy 66 = .ok (.iload_n 3, 1) := by decide +kernel
theorem dX9_goesBy_67 : decode cX9_goesBy 67 = .ok (.iconst 0, 1) := by decide +kernel
theorem dX9_goesBy_68 : decode cX9_goesBy 68 = .ok (.iastore, 1) := by decide +kernel
theorem dX9_goesBy_69 : decode cX9_goesBy 69 = .ok (.aload_n 0, 1) := by decide +kernel
theorem dX9_goesBy_70 : decode cX9_goesBy 70 = .ok (.getfield 40, 3) := by decide +kernel
theorem dX9_goesBy_73 : decode cX9_goesBy 73 = .ok (.iload_n 3, 1) := by decide +kernel
theorem dX9_goesBy_74 : decode cX9_goesBy 74 = .ok (.ldc 157, 2) := by decide +kernel
theorem dX9_goesBy_76 : decode cX9_goesBy 76 = .ok (.iastore, 1) := by decide +kernel
theorem dX9_goesBy_77 : decode cX9_goesBy 77 = .ok (.aload_n 0, 1) := by decide +kernel
theorem dX9_goesBy_78 : decode cX9_goesBy 78 = .ok (.getfield 43, 3) := by decide +kernel
theorem dX9_goesBy_81 : decode cX9_goesBy 81 = .ok (.iload_n 3, 1) := by decide +kernel
theorem dX9_goesBy_82 : decode cX9_goesBy 82 = .ok (.iconst 0, 1) := by decide +kernel
theorem dX9_goesBy_83 : decode cX9_goesBy 83 = .ok (.bastore, 1) := by decide +kernel
theorem dX9_goesBy_84 : decode cX9_goesBy 84 = .ok (.iinc 3 1, 3) := by decide +kernel
theorem dX9_goesBy_87 : decode cX9_goesBy 87 = .ok (.iinc 5 1, 3) := by decide +kernel
theorem dX9_goesBy_90 : decode cX9_goesBy 90 = .ok (.goto (-61), 3) := by decide +kernel
theorem dX9_goesBy_93 : decode cX9_goesBy 93 = .ok (.iinc 4 1, 3) := by decide +kernel
theorem dX9_goesBy_96 : decode cX9_goesBy 96 = .ok (.goto (-91), 3) := by decide +kernel
theorem dX9_goesBy_99 : decode cX9_goesBy 99 = .ok (.iconst 0, 1) := by decide +kernel
theorem dX9_goesBy_100 : decode cX9_goesBy 100 = .ok (.istore 4, 2) := by decide +kernel
theorem dX9_goesBy_102 : decode cX9_goesBy 102 = .ok (.iload 4, 2) := by decide +kernel
theorem dX9_goesBy_104 : decode cX9_goesBy 104 = .ok (.iconst 4, 1) := by decide +kernel
theorem dX9_goesBy_105 : decode cX9_goesBy 105 = .ok (.if_icmp .ge 17, 3) := by decide +kernel
theorem dX9_goesBy_108 : decode cX9_goesBy 108 = .ok (.aload_n 0, 1) := by decide +kernel
theorem dX9_goesBy_109 : decode cX9_goesBy 109 = .ok (.getfield 47, 3) := by decide +kernel
theorem dX9_goesBy_112 : decode cX9_goesBy 112 = .ok (.iload 4, 2) := by decide +kernel
theorem dX9_goesBy_114 : decode cX9_goesBy 114 = .ok (.iconst 0, 1) := by decide +kernel
theorem dX9_goesBy_115 : decode cX9_goesBy 115 = .ok (.iastore, 1) := by decide +kernel
theorem dX9_goesBy_116 : decode cX9_goesBy 116 = .ok (.iinc 4 1, 3) := by decide +kernel
theorem dX9_goesBy_119 : decode cX9_goesBy 119 = .ok (.goto (-17), 3) := by decide +kernel
theorem dX9_goesBy_122 : decode cX9_goesBy 122 = .ok (.iconst 0, 1) := by decide +kernel
theorem dX9_goesBy_123 : decode cX9_goesBy 123 = .ok (.istore 4, 2) := by decide +kernel
theorem dX9_goesBy_125 : decode cX9_goesBy 125 = .ok (.iload 4, 2) := by decide +kernel
theorem dX9_goesBy_127 : decode cX9_goesBy 127 = .ok (.bipush 24, 2) := by decide +kernel
theorem dX9_goesBy_129 : decode cX9_goesBy 129 = .ok (.if_icmp .ge 180, 3) := by decide +kernel
theorem dX9_goesBy_132 : decode cX9_goesBy 132 = .ok (.iconst 0, 1) := by decide +kernel
theorem dX9_goesBy_133 : decode cX9_goesBy 133 = .ok (.istore 5, 2) := by decide +kernel
theorem dX9_goesBy_135 : decode cX9_goesBy 135 = .ok (.iload 5, 2) := by decide +kernel
theorem dX9_goesBy_137 : decode cX9_goesBy 137 = .ok (.aload_n 0, 1) := by decide +kernel
theorem dX9_goesBy_138 : decode cX9_goesBy 138 = .ok (.getfield 7, 3) := by decide +kernel
theorem dX9_goesBy_141 : decode cX9_goesBy 141 = .ok (.sipush 183, 3) := by decide +kernel
theorem dX9_goesBy_144 : decode cX9_goesBy 144 = .ok (.iaload, 1) := by decide +kernel
theorem dX9_goesBy_145 : decode cX9_goesBy 145 = .ok (.if_icmp .ge 124, 3) := by decide +kernel
theorem dX9_goesBy_148 : decode cX9_goesBy 148 = .ok (.aload_n 0, 1) := by decide +kernel
theorem dX9_goesBy_149 : decode cX9_goesBy 149 = .ok (.iload 5, 2) := by decide +kernel
theorem dX9_goesBy_151 : decode cX9_goesBy 151 = .ok (.iload_n 1, 1) := by decide +kernel
theorem dX9_goesBy_152 : decode cX9_goesBy 152 = .ok (.iload 4, 2) := by decide +kernel
theorem dX9_goesBy_154 : decode cX9_goesBy 154 = .ok (.invokevirtual 135, 3) := by decide +kernel
theorem dX9_goesBy_157 : decode cX9_goesBy 157 = .ok (.ifCond .eq 16, 3) := by decide +kernel
theorem dX9_goesBy_160 : decode cX9_goesBy 160 = .ok (.aload_n 0, 1) := by decide +kernel
theorem dX9_goesBy_161 : decode cX9_goesBy 161 = .ok (.iload 5, 2) := by decide +kernel
theorem dX9_goesBy_163 : decode cX9_goesBy 163 = .ok (.iload 4, 2) := by decide +kernel
theorem dX9_goesBy_165 : decode cX9_goesBy 165 = .ok (.iload_n 3, 1) := by decide +kernel
theorem dX9_goesBy_166 : decode cX9_goesBy 166 = .ok (.iload_n 2, 1) := by decide +kernel
theorem dX9_goesBy_167 : decode cX9_goesBy 167 = .ok (.invokevirtual 158, 3) := by decide +kernel
theorem dX9_goesBy_170 : decode cX9_goesBy 170 = .ok (.goto 5, 3) := by decide +kernel
theorem dX9_goesBy_173 : decode cX9_goesBy 173 = .ok (.bipush (-4), 2) := by decide +kernel
theorem dX9_goesBy_175 : decode cX9_goesBy 175 = .ok (.istore 6, 2) := by decide +kernel
theorem dX9_goesBy_177 : decode cX9_goesBy 177 = .ok (.iconst 0, 1) := by decide +kernel
theorem dX9_goesBy_178 : decode cX9_goesBy 178 = .ok (.istore 7, 2) := by decide +kernel
theorem dX9_goesBy_180 : decode cX9_goesBy 180 = .ok (.iload 7, 2) := by decide +kernel
theorem dX9_goesBy_182 : decode cX9_goesBy 182 = .ok (.aload_n 0, 1) := by decide +kernel
theorem dX9_goesBy_183 : decode cX9_goesBy 183 = .ok (.getfield 7, 3) := by decide +kernel
theorem dX9_goesBy_186 : decode cX9_goesBy 186 = .ok (.iconst 0, 1) := by decide +kernel
theorem dX9_goesBy_187 : decode cX9_goesBy 187 = .ok (.iconst 4, 1) := by decide +kernel
theorem dX9_goesBy_188 : decode cX9_goesBy 188 = .ok (.iload 5, 2) := by decide +kernel
theorem dX9_goesBy_190 : decode cX9_goesBy 190 = .ok (.imul, 1) := by decide +kernel
theorem dX9_goesBy_191 : decode cX9_goesBy 191 = .ok (.iadd, 1) := by decide +kernel
theorem dX9_goesBy_192 : decode cX9_goesBy 192 = .ok (.iconst 1, 1) := by decide +kernel
theorem dX9_goesBy_193 : decode cX9_goesBy 193 = .ok (.iadd, 1) := by decide +kernel
theorem dX9_goesBy_194 : decode cX9_goesBy 194 = .ok (.iaload, 1) := by decide +kernel
theorem dX9_goesBy_195 : decode cX9_goesBy 195 = .ok (.if_icmp .ge 68, 3) := by decide +kernel
theorem dX9_goesBy_198 : decode cX9_goesBy 198 = .ok (.iload 6, 2) := by decide +kernel
theorem dX9_goesBy_200 : decode cX9_goesBy 200 = .ok (.bipush (-4), 2) := by decide +kernel
theorem dX9_goesBy_202 : decode cX9_goesBy 202 = .ok (.if_icmp .eq 61, 3) := by decide +kernel
theorem dX9_goesBy_205 : decode cX9_goesBy 205 = .ok (.aload_n 0, 1) := by decide +kernel
theorem dX9_goesBy_206 : decode cX9_goesBy 206 = .ok (.getfield 47, 3) := by decide +kernel
theorem dX9_goesBy_209 : decode cX9_goesBy 209 = .ok (.iload 5, 2) := by decide +kernel
theorem dX9_goesBy_211 : decode cX9_goesBy 211 = .ok (.iaload, 1) := by decide +kernel
theorem dX9_goesBy_212 : decode cX9_goesBy 212 = .ok (.aload_n 0, 1) := by decide +kernel
theorem dX9_goesBy_213 : decode cX9_goesBy 213 = .ok (.getfield 7, 3) := by decide +kernel
theorem dX9_goesBy_216 : decode cX9_goesBy 216 = .ok (.iconst 0, 1) := by decide +kernel
theorem dX9_goesBy_217 : decode cX9_goesBy 217 = .ok (.iconst 4, 1) := by decide +kernel
theorem dX9_goesBy_218 : decode cX9_goesBy 218 = .ok (.iload 5, 2) := by decide +kernel
theorem dX9_goesBy_220 : decode cX9_goesBy 220 = .ok (.imul, 1) := by decide +kernel
theorem dX9_goesBy_221 : decode cX9_goesBy 221 = .ok (.iadd, 1) := by decide +kernel
theorem dX9_goesBy_222 : decode cX9_goesBy 222 = .ok (.iaload, 1) := by decide +kernel
theorem dX9_goesBy_223 : decode cX9_goesBy 223 = .ok (.if_icmp .ge 40, 3) := by decide +kernel
theorem dX9_goesBy_226 : decode cX9_goesBy 226 = .ok (.aload_n 0, 1) := by decide +kernel
theorem dX9_goesBy_227 : decode cX9_goesBy 227 = .ok (.getfield 43, 3) := by decide +kernel
theorem dX9_goesBy_230 : decode cX9_goesBy 230 = .ok (.iload 6, 2) := by decide +kernel
theorem dX9_goesBy_232 : decode cX9_goesBy 232 = .ok (.iconst 1, 1) := by decide +kernel
theorem dX9_goesBy_233 : decode cX9_goesBy 233 = .ok (.bastore, 1) := by decide +kernel
theorem dX9_goesBy_234 : decode cX9_goesBy 234 = .ok (.aload_n 0, 1) := by decide +kernel
theorem dX9_goesBy_235 : decode cX9_goesBy 235 = .ok (.getfield 47, 3) := by decide +kernel
theorem dX9_goesBy_238 : decode cX9_goesBy 238 = .ok (.iload 5, 2) := by decide +kernel
theorem dX9_goesBy_240 : decode cX9_goesBy 240 = .ok (.dup2, 1) := by decide +kernel
theorem dX9_goesBy_241 : decode cX9_goesBy 241 = .ok (.iaload, 1) := by decide +kernel
theorem dX9_goesBy_242 : decode cX9_goesBy 242 = .ok (.iconst 1, 1) := by decide +kernel
theorem dX9_goesBy_243 : decode cX9_goesBy 243 = .ok (.iadd, 1) := by decide +kernel
theorem dX9_goesBy_244 : decode cX9_goesBy 244 = .ok (.iastore, 1) := by decide +kernel
theorem dX9_goesBy_245 : decode cX9_goesBy 245 = .ok (.aload_n 0, 1) := by decide +kernel
theorem dX9_goesBy_246 : decode cX9_goesBy 246 = .ok (.iload 5, 2) := by decide +kernel
theorem dX9_goesBy_248 : decode cX9_goesBy 248 = .ok (.iload 4, 2) := by decide +kernel
theorem dX9_goesBy_250 : decode cX9_goesBy 250 = .ok (.iload_n 3, 1) := by decide +kernel
theorem dX9_goesBy_251 : decode cX9_goesBy 251 = .ok (.iload_n 2, 1) := by decide +kernel
theorem dX9_goesBy_252 : decode cX9_goesBy 252 = .ok (.invokevirtual 158, 3) := by decide +kernel
theorem dX9_goesBy_255 : decode cX9_goesBy 255 = .ok (.istore 6, 2) := by decide +kernel
theorem dX9_goesBy_257 : decode cX9_goesBy 257 = .ok (.iinc 7 1, 3) := by decide +kernel
theorem dX9_goesBy_260 : decode cX9_goesBy 260 = .ok (.goto (-80), 3) := by decide +kernel
theorem dX9_goesBy_263 : decode cX9_goesBy 263 = .ok (.iinc 5 1, 3) := by decide +kernel
theorem dX9_goesBy_266 : decode cX9_goesBy 266 = .ok (.goto (-131), 3) := by decide +kernel
theorem dX9_goesBy_269 : decode cX9_goesBy 269 = .ok (.iconst 0, 1) := by decide +kernel
theorem dX9_goesBy_270 : decode cX9_goesBy 270 = .ok (.istore 5, 2) := by decide +kernel
theorem dX9_goesBy_272 : decode cX9_goesBy 272 = .ok (.iload 5, 2) := by decide +kernel
theorem dX9_goesBy_274 : decode cX9_goesBy 274 = .ok (.iload_n 3, 1) := by decide +kernel
theorem dX9_goesBy_275 : decode cX9_goesBy 275 = .ok (.if_icmp .ge 28, 3) := by decide +kernel
theorem dX9_goesBy_278 : decode cX9_goesBy 278 = .ok (.aload_n 0, 1) := by decide +kernel
theorem dX9_goesBy_279 : decode cX9_goesBy 279 = .ok (.getfield 43, 3) := by decide +kernel
theorem dX9_goesBy_282 : decode cX9_goesBy 282 = .ok (.iload 5, 2) := by decide +kernel
theorem dX9_goesBy_284 : decode cX9_goesBy 284 = .ok (.baload, 1) := by decide +kernel
theorem dX9_goesBy_285 : decode cX9_goesBy 285 = .ok (.ifCond .ne 12, 3) := by decide +kernel
theorem dX9_goesBy_288 : decode cX9_goesBy 288 = .ok (.aload_n 0, 1) := by decide +kernel
theorem dX9_goesBy_289 : decode cX9_goesBy 289 = .ok (.iload 5, 2) := by decide +kernel
theorem dX9_goesBy_291 : decode cX9_goesBy 291 = .ok (.iload_n 1, 1) := by decide +kernel
theorem dX9_goesBy_292 : decode cX9_goesBy 292 = .ok (.iload 4, 2) := by decide +kernel
theorem dX9_goesBy_294 : decode cX9_goesBy 294 = .ok (.invokevirtual 162, 3) := by decide +kernel
theorem dX9_goesBy_297 : decode cX9_goesBy 297 = .ok (.iinc 5 1, 3) := by decide +kernel
theorem dX9_goesBy_300 : decode cX9_goesBy 300 = .ok (.goto (-28), 3) := by decide +kernel
theorem dX9_goesBy_303 : decode cX9_goesBy 303 = .ok (.iinc 4 1, 3) := by decide +kernel
theorem dX9_goesBy_306 : decode cX9_goesBy 306 = .ok (.goto (-181), 3) := by decide +kernel
theorem dX9_goesBy_309 : decode cX9_goesBy 309 = .ok (.lconst 0, 1) := by decide +kernel
theorem dX9_goesBy_310 : decode cX9_goesBy 310 = .ok (.lstore 4, 2) := by decide +kernel
theorem dX9_goesBy_312 : decode cX9_goesBy 312 = .ok (.iconst 0, 1) := by decide +kernel
theorem dX9_goesBy_313 : decode cX9_goesBy 313 = .ok (.istore 6, 2) := by decide +kernel
theorem dX9_goesBy_315 : decode cX9_goesBy 315 = .ok (.iload 6, 2) := by decide +kernel
theorem dX9_goesBy_317 : decode cX9_goesBy 317 = .ok (.iload_n 3, 1) := by decide +kernel
theorem dX9_goesBy_318 : decode cX9_goesBy 318 = .ok (.if_icmp .ge 56, 3) := by decide +kernel
theorem dX9_goesBy_321 : decode cX9_goesBy 321 = .ok (.aload_n 0, 1) := by decide +kernel
theorem dX9_goesBy_322 : decode cX9_goesBy 322 = .ok (.getfield 50, 3) := by decide +kernel
theorem dX9_goesBy_325 : decode cX9_goesBy 325 = .ok (.aload_n 0, 1) := by decide +kernel
theorem dX9_goesBy_326 : decode cX9_goesBy 326 = .ok (.getfield 31, 3) := by decide +kernel
theorem dX9_goesBy_329 : decode cX9_goesBy 329 = .ok (.iload 6, 2) := by decide +kernel
theorem dX9_goesBy_331 : decode cX9_goesBy 331 = .ok (.iaload, 1) := by decide +kernel
theorem dX9_goesBy_332 : decode cX9_goesBy 332 = .ok (.dup2, 1) := by decide +kernel
theorem dX9_goesBy_333 : decode cX9_goesBy 333 = .ok (.laload, 1) := by decide +kernel
theorem dX9_goesBy_334 : decode cX9_goesBy 334 = .ok (.aload_n 0, 1) := by decide +kernel
theorem dX9_goesBy_335 : decode cX9_goesBy 335 = .ok (.getfield 7, 3) := by decide +kernel
theorem dX9_goesBy_338 : decode cX9_goesBy 338 = .ok (.bipush 16, 2) := by decide +kernel
theorem dX9_goesBy_340 : decode cX9_goesBy 340 = .ok (.iconst 5, 1) := by decide +kernel
theorem dX9_goesBy_341 : decode cX9_goesBy 341 = .ok (.aload_n 0, 1) := by decide +kernel
theorem dX9_goesBy_342 : decode cX9_goesBy 342 = .ok (.getfield 31, 3) := by decide +kernel
theorem dX9_goesBy_345 : decode cX9_goesBy 345 = .ok (.iload 6, 2) := by decide +kernel
theorem dX9_goesBy_347 : decode cX9_goesBy 347 = .ok (.iaload, 1) := by decide +kernel
theorem dX9_goesBy_348 : decode cX9_goesBy 348 = .ok (.imul, 1) := by decide +kernel
theorem dX9_goesBy_349 : decode cX9_goesBy 349 = .ok (.iadd, 1) := by decide +kernel
theorem dX9_goesBy_350 : decode cX9_goesBy 350 = .ok (.iconst 3, 1) := by decide +kernel
theorem dX9_goesBy_351 : decode cX9_goesBy 351 = .ok (.iadd, 1) := by decide +kernel
theorem dX9_goesBy_352 : decode cX9_goesBy 352 = .ok (.iaload, 1) := by decide +kernel
theorem dX9_goesBy_353 : decode cX9_goesBy 353 = .ok (.i2l, 1) := by decide +kernel
theorem dX9_goesBy_354 : decode cX9_goesBy 354 = .ok (.ldc 157, 2) := by decide +kernel
theorem dX9_goesBy_356 : decode cX9_goesBy 356 = .ok (.aload_n 0, 1) := by decide +kernel
theorem dX9_goesBy_357 : decode cX9_goesBy 357 = .ok (.getfield 40, 3) := by decide +kernel
theorem dX9_goesBy_360 : decode cX9_goesBy 360 = .ok (.iload 6, 2) := by decide +kernel
theorem dX9_goesBy_362 : decode cX9_goesBy 362 = .ok (.iaload, 1) := by decide +kernel
theorem dX9_goesBy_363 : decode cX9_goesBy 363 = .ok (.isub, 1) := by decide +kernel
theorem dX9_goesBy_364 : decode cX9_goesBy 364 = .ok (.i2l, 1) := by decide +kernel
theorem dX9_goesBy_365 : decode cX9_goesBy 365 = .ok (.lmul, 1) := by decide +kernel
theorem dX9_goesBy_366 : decode cX9_goesBy 366 = .ok (.lsub, 1) := by decide +kernel
theorem dX9_goesBy_367 : decode cX9_goesBy 367 = .ok (.lastore, 1) := by decide +kernel
theorem dX9_goesBy_368 : decode cX9_goesBy 368 = .ok (.iinc 6 1, 3) := by decide +kernel
theorem dX9_goesBy_371 : decode cX9_goesBy 371 = .ok (.goto (-56), 3) := by decide +kernel
theorem dX9_goesBy_374 : decode cX9_goesBy 374 = .ok (.iconst 0, 1) := by decide +kernel
theorem dX9_goesBy_375 : decode cX9_goesBy 375 = .ok (.istore 6, 2) := by decide +kernel
theorem dX9_goesBy_377 : decode cX9_goesBy 377 = .ok (.iload 6, 2) := by decide +kernel
theorem dX9_goesBy_379 : decode cX9_goesBy 379 = .ok (.aload_n 0, 1) := by decide +kernel
theorem dX9_goesBy_380 : decode cX9_goesBy 380 = .ok (.getfield 7, 3) := by decide +kernel
theorem dX9_goesBy_383 : decode cX9_goesBy 383 = .ok (.sipush 184, 3) := by decide +kernel
theorem dX9_goesBy_386 : decode cX9_goesBy 386 = .ok (.iaload, 1) := by decide +kernel
theorem dX9_goesBy_387 : decode cX9_goesBy 387 = .ok (.if_icmp .ge 21, 3) := by decide +kernel
theorem dX9_goesBy_390 : decode cX9_goesBy 390 = .ok (.lload 4, 2) := by decide +kernel
theorem dX9_goesBy_392 : decode cX9_goesBy 392 = .ok (.aload_n 0, 1) := by decide +kernel
theorem dX9_goesBy_393 : decode cX9_goesBy 393 = .ok (.getfield 50, 3) := by decide +kernel
theorem dX9_goesBy_396 : decode cX9_goesBy 396 = .ok (.iload 6, 2) := by decide +kernel
theorem dX9_goesBy_398 : decode cX9_goesBy 398 = .ok (.laload, 1) := by decide +kernel
theorem dX9_goesBy_399 : decode cX9_goesBy 399 = .ok (.ladd, 1) := by decide +kernel
theorem dX9_goesBy_400 : decode cX9_goesBy 400 = .ok (.lstore 4, 2) := by decide +kernel
theorem dX9_goesBy_402 : decode cX9_goesBy 402 = .ok (.iinc 6 1, 3) := by decide +kernel
theorem dX9_goesBy_405 : decode cX9_goesBy 405 = .ok (.goto (-28), 3) := by decide +kernel
theorem dX9_goesBy_408 : decode cX9_goesBy 408 = .ok (.lload 4, 2) := by decide +kernel
theorem dX9_goesBy_410 : decode cX9_goesBy 410 = .ok (.lreturn, 1) := by decide +kernel
theorem dX9_hour_0 : decode cX9_hour 0 = .ok (.aload_n 0, 1) := by decide +kernel
theorem dX9_hour_1 : decode cX9_hour 1 = .ok (.getfield 31, 3) := by decide +kernel
theorem dX9_hour_4 : decode cX9_hour 4 = .ok (.iload_n 1, 1) := by decide +kernel
theorem dX9_hour_5 : decode cX9_hour 5 = .ok (.iaload, 1) := by decide +kernel
theorem dX9_hour_6 : decode cX9_hour 6 = .ok (.istore 4, 2) := by decide +kernel
theorem dX9_hour_8 : decode cX9_hour 8 = .ok (.iload_n 3, 1) := by decide +kernel
theorem dX9_hour_9 : decode cX9_hour 9 = .ok (.aload_n 0, 1) := by decide +kernel
theorem dX9_hour_10 : decode cX9_hour 10 = .ok (.getfield 22, 3) := by decide +kernel
theorem dX9_hour_13 : decode cX9_hour 13 = .ok (.iload 4, 2) := by decide +kernel
theorem dX9_hour_15 : decode cX9_hour 15 = .ok (.iaload, 1) := by decide +kernel
theorem dX9_hour_16 : decode cX9_hour 16 = .ok (.if_icmp .ge 39, 3) := by decide +kernel
theorem dX9_hour_19 : decode cX9_hour 19 = .ok (.aload_n 0, 1) := by decide +kernel
theorem dX9_hour_20 : decode cX9_hour 20 = .ok (.getfield 50, 3) := by decide +kernel
theorem dX9_hour_23 : decode cX9_hour 23 = .ok (.iload 4, 2) := by decide +kernel
theorem dX9_hour_25 : decode cX9_hour 25 = .ok (.dup2, 1) := by decide +kernel
theorem dX9_hour_26 : decode cX9_hour 26 = .ok (.laload, 1) := by decide +kernel
theorem dX9_hour_27 : decode cX9_hour 27 = .ok (.aload_n 0, 1) := by decide +kernel
theorem dX9_hour_28 : decode cX9_hour 28 = .ok (.getfield 7, 3) := by decide +kernel
theorem dX9_hour_31 : decode cX9_hour 31 = .ok (.bipush 16, 2) := by decide +kernel
theorem dX9_hour_33 : decode cX9_hour 33 = .ok (.iconst 5, 1) := by decide +kernel
theorem dX9_hour_34 : decode cX9_hour 34 = .ok (.iload 4, 2) := by decide +kernel
theorem dX9_hour_36 : decode cX9_hour 36 = .ok (.imul, 1) := by decide +kernel
theorem dX9_hour_37 : decode cX9_hour 37 = .ok (.iadd, 1) := by decide +kernel
theorem dX9_hour_38 : decode cX9_hour 38 = .ok (.iconst 2, 1) := by decide +kernel
theorem dX9_hour_39 : decode cX9_hour 39 = .ok (.iadd, 1) := by decide +kernel
theorem dX9_hour_40 : decode cX9_hour 40 = .ok (.iaload, 1) := by decide +kernel
theorem dX9_hour_41 : decode cX9_hour 41 = .ok (.i2l, 1) := by decide +kernel
theorem dX9_hour_42 : decode cX9_hour 42 = .ok (.aload_n 0, 1) := by decide +kernel
theorem dX9_hour_43 : decode cX9_hour 43 = .ok (.getfield 40, 3) := by decide +kernel
theorem dX9_hour_46 : decode cX9_hour 46 = .ok (.iload_n 1, 1) := by decide +kernel
theorem dX9_hour_47 : decode cX9_hour 47 = .ok (.iaload, 1) := by decide +kernel
theorem dX9_hour_48 : decode cX9_hour 48 = .ok (.i2l, 1) := by decide +kernel
theorem dX9_hour_49 : decode cX9_hour 49 = .ok (.lmul, 1) := by decide +kernel
theorem dX9_hour_50 : decode cX9_hour 50 = .ok (.ladd, 1) := by decide +kernel
theorem dX9_hour_51 : decode cX9_hour 51 = .ok (.lastore, 1) := by decide +kernel
theorem dX9_hour_52 : decode cX9_hour 52 = .ok (.goto 71, 3) := by decide +kernel
theorem dX9_hour_55 : decode cX9_hour 55 = .ok (.aload_n 0, 1) := by decide +kernel
theorem dX9_hour_56 : decode cX9_hour 56 = .ok (.getfield 34, 3) := by decide +kernel
theorem dX9_hour_59 : decode cX9_hour 59 = .ok (.iload_n 1, 1) := by decide +kernel
theorem dX9_hour_60 : decode cX9_hour 60 = .ok (.iaload, 1) := by decide +kernel
theorem dX9_hour_61 : decode cX9_hour 61 = .ok (.iload_n 3, 1) := by decide +kernel
theorem dX9_hour_62 : decode cX9_hour 62 = .ok (.if_icmp .le 61, 3) := by decide +kernel
theorem dX9_hour_65 : decode cX9_hour 65 = .ok (.aload_n 0, 1) := by decide +kernel
theorem dX9_hour_66 : decode cX9_hour 66 = .ok (.getfield 37, 3) := by decide +kernel
theorem dX9_hour_69 : decode cX9_hour 69 = .ok (.iload_n 1, 1) := by decide +kernel
theorem dX9_hour_70 : decode cX9_hour 70 = .ok (.dup2, 1) := by decide +kernel
theorem dX9_hour_71 : decode cX9_hour 71 = .ok (.iaload, 1) := by decide +kernel
theorem dX9_hour_72 : decode cX9_hour 72 = .ok (.aload_n 0, 1) := by decide +kernel
theorem dX9_hour_73 : decode cX9_hour 73 = .ok (.aload_n 0, 1) := by decide +kernel
theorem dX9_hour_74 : decode cX9_hour 74 = .ok (.getfield 28, 3) := by decide +kernel
theorem dX9_hour_77 : decode cX9_hour 77 = .ok (.iload 4, 2) := by decide +kernel
theorem dX9_hour_79 : decode cX9_hour 79 = .ok (.iaload, 1) := by decide +kernel
theorem dX9_hour_80 : decode cX9_hour 80 = .ok (.iload_n 2, 1) := by decide +kernel
theorem dX9_hour_81 : decode cX9_hour 81 = .ok (.iload_n 3, 1) := by decide +kernel
theorem dX9_hour_82 : decode cX9_hour 82 = .ok (.invokevirtual 147, 3) := by decide +kernel
theorem dX9_hour_85 : decode cX9_hour 85 = .ok (.iadd, 1) := by decide +kernel
theorem dX9_hour_86 : decode cX9_hour 86 = .ok (.iastore, 1) := by decide +kernel
theorem dX9_hour_87 : decode cX9_hour 87 = .ok (.aload_n 0, 1) := by decide +kernel
theorem dX9_hour_88 : decode cX9_hour 88 = .ok (.getfield 34, 3) := by decide +kernel
theorem dX9_hour_91 : decode cX9_hour 91 = .ok (.iload_n 1, 1) := by decide +kernel
theorem dX9_hour_92 : decode cX9_hour 92 = .ok (.aload_n 0, 1) := by decide +kernel
theorem dX9_hour_93 : decode cX9_hour 93 = .ok (.getfield 37, 3) := by decide +kernel
theorem dX9_hour_96 : decode cX9_hour 96 = .ok (.iload_n 1, 1) := by decide +kernel
theorem dX9_hour_97 : decode cX9_hour 97 = .ok (.iaload, 1) := by decide +kernel
theorem dX9_hour_98 : decode cX9_hour 98 = .ok (.aload_n 0, 1) := by decide +kernel
theorem dX9_hour_99 : decode cX9_hour 99 = .ok (.iload 4, 2) := by decide +kernel
theorem dX9_hour_101 : decode cX9_hour 101 = .ok (.aload_n 0, 1) := by decide +kernel
theorem dX9_hour_102 : decode cX9_hour 102 = .ok (.getfield 25, 3) := by decide +kernel
theorem dX9_hour_105 : decode cX9_hour 105 = .ok (.iload 4, 2) := by decide +kernel
theorem dX9_hour_107 : decode cX9_hour 107 = .ok (.iaload, 1) := by decide +kernel
theorem dX9_hour_108 : decode cX9_hour 108 = .ok (.invokevirtual 144, 3) := by decide +kernel
theorem dX9_hour_111 : decode cX9_hour 111 = .ok (.if_icmp .lt 9, 3) := by decide +kernel
theorem dX9_hour_114 : decode cX9_hour 114 = .ok (.iload_n 3, 1) := by decide +kernel
theorem dX9_hour_115 : decode cX9_hour 115 = .ok (.iconst 1, 1) := by decide +kernel
theorem dX9_hour_116 : decode cX9_hour 116 = .ok (.iadd, 1) := by decide +kernel
theorem dX9_hour_117 : decode cX9_hour 117 = .ok (.goto 5, 3) := by decide +kernel
theorem dX9_hour_120 : decode cX9_hour 120 = .ok (.bipush 99, 2) := by decide +kernel
theorem dX9_hour_122 : decode cX9_hour 122 = .ok (.iastore, 1) := by decide +kernel
theorem dX9_hour_123 : decode cX9_hour 123 = .ok (.aload_n 0, 1) := by decide +kernel
theorem dX9_hour_124 : decode cX9_hour 124 = .ok (.getfield 40, 3) := by decide +kernel
theorem dX9_hour_127 : decode cX9_hour 127 = .ok (.iload_n 1, 1) := by decide +kernel
theorem dX9_hour_128 : decode cX9_hour 128 = .ok (.aload_n 0, 1) := by decide +kernel
theorem dX9_hour_129 : decode cX9_hour 129 = .ok (.getfield 40, 3) := by decide +kernel
theorem dX9_hour_132 : decode cX9_hour 132 = .ok (.iload_n 1, 1) := by decide +kernel
theorem dX9_hour_133 : decode cX9_hour 133 = .ok (.iaload, 1) := by decide +kernel
theorem dX9_hour_134 : decode cX9_hour 134 = .ok (.i2l, 1) := by decide +kernel
theorem dX9_hour_135 : decode cX9_hour 135 = .ok (.sipush 1000, 3) := by decide +kernel
theorem dX9_hour_138 : decode cX9_hour 138 = .ok (.aload_n 0, 1) := by decide +kernel
theorem dX9_hour_139 : decode cX9_hour 139 = .ok (.iload 4, 2) := by decide +kernel
theorem dX9_hour_141 : decode cX9_hour 141 = .ok (.iload_n 2, 1) := by decide +kernel
theorem dX9_hour_142 : decode cX9_hour 142 = .ok (.iload_n 3, 1) := by decide +kernel
theorem dX9_hour_143 : decode cX9_hour 143 = .ok (.invokevirtual 141, 3) := by decide +kernel
theorem dX9_hour_146 : decode cX9_hour 146 = .ok (.isub, 1) := by decide +kernel
theorem dX9_hour_147 : decode cX9_hour 147 = .ok (.i2l, 1) := by decide +kernel
theorem dX9_hour_148 : decode cX9_hour 148 = .ok (.lmul, 1) := by decide +kernel
theorem dX9_hour_149 : decode cX9_hour 149 = .ok (.ldc2_w 166, 3) := by decide +kernel
theorem dX9_hour_152 : decode cX9_hour 152 = .ok (.ldiv, 1) := by decide +kernel
theorem dX9_hour_153 : decode cX9_hour 153 = .ok (.l2i, 1) := by decide +kernel
theorem dX9_hour_154 : decode cX9_hour 154 = .ok (.iastore, 1) := by decide +kernel
theorem dX9_hour_155 : decode cX9_hour 155 = .ok (.return_, 1) := by decide +kernel
theorem dX9_value_0 : decode cX9_value 0 = .ok (.aload_n 0, 1) := by decide +kernel
theorem dX9_value_1 : decode cX9_value 1 = .ok (.iconst 0, 1) := by decide +kernel
theorem dX9_value_2 : decode cX9_value 2 = .ok (.putfield 67, 3) := by decide +kernel
theorem dX9_value_5 : decode cX9_value 5 = .ok (.aload_n 0, 1) := by decide +kernel
theorem dX9_value_6 : decode cX9_value 6 = .ok (.iload_n 1, 1) := by decide +kernel
theorem dX9_value_7 : decode cX9_value 7 = .ok (.invokevirtual 125, 3) := by decide +kernel
theorem dX9_value_10 : decode cX9_value 10 = .ok (.ifCond .ne 7, 3) := by decide +kernel
theorem dX9_value_13 : decode cX9_value 13 = .ok (.ldc2_w 168, 3) := by decide +kernel
theorem dX9_value_16 : decode cX9_value 16 = .ok (.lreturn, 1) := by decide +kernel
theorem dX9_value_17 : decode cX9_value 17 = .ok (.aload_n 0, 1) := by decide +kernel
theorem dX9_value_18 : decode cX9_value 18 = .ok (.invokevirtual 170, 3) := by decide +kernel
theorem dX9_value_21 : decode cX9_value 21 = .ok (.aload_n 0, 1) := by decide +kernel
theorem dX9_value_22 : decode cX9_value 22 = .ok (.iload_n 1, 1) := by decide +kernel
theorem dX9_value_23 : decode cX9_value 23 = .ok (.iconst 0, 1) := by decide +kernel
theorem dX9_value_24 : decode cX9_value 24 = .ok (.invokevirtual 173, 3) := by decide +kernel
theorem dX9_value_27 : decode cX9_value 27 = .ok (.lreturn, 1) := by decide +kernel
theorem dX9_in_0 : decode cX9_in 0 = .ok (.aload_n 0, 1) := by decide +kernel
theorem dX9_in_1 : decode cX9_in 1 = .ok (.iconst 0, 1) := by decide +kernel
theorem dX9_in_2 : decode cX9_in 2 = .ok (.putfield 67, 3) := by decide +kernel
theorem dX9_in_5 : decode cX9_in 5 = .ok (.aload_n 0, 1) := by decide +kernel
theorem dX9_in_6 : decode cX9_in 6 = .ok (.iload_n 1, 1) := by decide +kernel
theorem dX9_in_7 : decode cX9_in 7 = .ok (.invokevirtual 125, 3) := by decide +kernel
theorem dX9_in_10 : decode cX9_in 10 = .ok (.ifCond .eq 11, 3) := by decide +kernel
theorem dX9_in_13 : decode cX9_in 13 = .ok (.aload_n 0, 1) := by decide +kernel
theorem dX9_in_14 : decode cX9_in 14 = .ok (.iload_n 2, 1) := by decide +kernel
theorem dX9_in_15 : decode cX9_in 15 = .ok (.invokevirtual 138, 3) := by decide +kernel
theorem dX9_in_18 : decode cX9_in 18 = .ok (.ifCond .ne 5, 3) := by decide +kernel
theorem dX9_in_21 : decode cX9_in 21 = .ok (.iconst (-1), 1) := by decide +kernel
theorem dX9_in_22 : decode cX9_in 22 = .ok (.ireturn, 1) := by decide +kernel
theorem dX9_in_23 : decode cX9_in 23 = .ok (.aload_n 0, 1) := by decide +kernel
theorem dX9_in_24 : decode cX9_in 24 = .ok (.invokevirtual 170, 3) := by decide +kernel
theorem dX9_in_27 : decode cX9_in 27 = .ok (.aload_n 0, 1) := by decide +kernel
theorem dX9_in_28 : decode cX9_in 28 = .ok (.iload_n 1, 1) := by decide +kernel
theorem dX9_in_29 : decode cX9_in 29 = .ok (.iconst 0, 1) := by decide +kernel
theorem dX9_in_30 : decode cX9_in 30 = .ok (.invokevirtual 173, 3) := by decide +kernel
theorem dX9_in_33 : decode cX9_in 33 = .ok (.pop2, 1) := by decide +kernel
theorem dX9_in_34 : decode cX9_in 34 = .ok (.iconst 0, 1) := by decide +kernel
theorem dX9_in_35 : decode cX9_in 35 = .ok (.istore_n 3, 1) := by decide +kernel
theorem dX9_in_36 : decode cX9_in 36 = .ok (.iconst 0, 1) := by decide +kernel
theorem dX9_in_37 : decode cX9_in 37 = .ok (.istore 4, 2) := by decide +kernel
theorem dX9_in_39 : decode cX9_in 39 = .ok (.iload 4, 2) := by decide +kernel
theorem dX9_in_41 : decode cX9_in 41 = .ok (.aload_n 0, 1) := by decide +kernel
theorem dX9_in_42 : decode cX9_in 42 = .ok (.invokevirtual 177, 3) := by decide +kernel
theorem dX9_in_45 : decode cX9_in 45 = .ok (.if_icmp .ge 38, 3) := by decide +kernel
theorem dX9_in_48 : decode cX9_in 48 = .ok (.iload_n 3, 1) := by decide +kernel
theorem dX9_in_49 : decode cX9_in 49 = .ok (.aload_n 0, 1) := by decide +kernel
theorem dX9_in_50 : decode cX9_in 50 = .ok (.getfield 31, 3) := by decide +kernel
theorem dX9_in_53 : decode cX9_in 53 = .ok (.iload 4, 2) := by decide +kernel
theorem dX9_in_55 : decode cX9_in 55 = .ok (.iaload, 1) := by decide +kernel
theorem dX9_in_56 : decode cX9_in 56 = .ok (.iload_n 2, 1) := by decide +kernel
theorem dX9_in_57 : decode cX9_in 57 = .ok (.if_icmp .ne 17, 3) := by decide +kernel
theorem dX9_in_60 : decode cX9_in 60 = .ok (.aload_n 0, 1) := by decide +kernel
theorem dX9_in_61 : decode cX9_in 61 = .ok (.getfield 43, 3) := by decide +kernel
theorem dX9_in_64 : decode cX9_in 64 = .ok (.iload 4, 2) := by decide +kernel
theorem dX9_in_66 : decode cX9_in 66 = .ok (.baload, 1) := by decide +kernel
theorem dX9_in_67 : decode cX9_in 67 = .ok (.ifCond .eq 7, 3) := by decide +kernel
theorem dX9_in_70 : decode cX9_in 70 = .ok (.iconst 1, 1) := by decide +kernel
theorem dX9_in_71 : decode cX9_in 71 = .ok (.goto 4, 3) := by decide +kernel
theorem dX9_in_74 : decode cX9_in 74 = .ok (.iconst 0, 1) := by decide +kernel
theorem dX9_in_75 : decode cX9_in 75 = .ok (.iadd, 1) := by decide +kernel
theorem dX9_in_76 : decode cX9_in 76 = .ok (.istore_n 3, 1) := by decide +kernel
theorem dX9_in_77 : decode cX9_in 77 = .ok (.iinc 4 1, 3) := by decide +kernel
theorem dX9_in_80 : decode cX9_in 80 = .ok (.goto (-41), 3) := by decide +kernel
theorem dX9_in_83 : decode cX9_in 83 = .ok (.iload_n 3, 1) := by decide +kernel
theorem dX9_in_84 : decode cX9_in 84 = .ok (.ireturn, 1) := by decide +kernel
theorem dX9_firstOf_0 : decode cX9_firstOf 0 = .ok (.iconst 0, 1) := by decide +kernel
theorem dX9_firstOf_1 : decode cX9_firstOf 1 = .ok (.istore_n 2, 1) := by decide +kernel
theorem dX9_firstOf_2 : decode cX9_firstOf 2 = .ok (.iconst 0, 1) := by decide +kernel
theorem dX9_firstOf_3 : decode cX9_firstOf 3 = .ok (.istore_n 3, 1) := by decide +kernel
theorem dX9_firstOf_4 : decode cX9_firstOf 4 = .ok (.iload_n 3, 1) := by decide +kernel
theorem dX9_firstOf_5 : decode cX9_firstOf 5 = .ok (.iload_n 1, 1) := by decide +kernel
theorem dX9_firstOf_6 : decode cX9_firstOf 6 = .ok (.if_icmp .ge 23, 3) := by decide +kernel
theorem dX9_firstOf_9 : decode cX9_firstOf 9 = .ok (.iload_n 2, 1) := by decide +kernel
theorem dX9_firstOf_10 : decode cX9_firstOf 10 = .ok (.aload_n 0, 1) := by decide +kernel
theorem dX9_firstOf_11 : decode cX9_firstOf 11 = .ok (.getfield 7, 3) := by decide +kernel
theorem dX9_firstOf_14 : decode cX9_firstOf 14 = .ok (.bipush 16, 2) := by decide +kernel
theorem dX9_firstOf_16 : decode cX9_firstOf 16 = .ok (.iconst 5, 1) := by decide +kernel
theorem dX9_firstOf_17 : decode cX9_firstOf 17 = .ok (.iload_n 3, 1) := by decide +kernel
theorem dX9_firstOf_18 : decode cX9_firstOf 18 = .ok (.imul, 1) := by decide +kernel
theorem dX9_firstOf_19 : decode cX9_firstOf 19 = .ok (.iadd, 1) := by decide +kernel
theorem dX9_firstOf_20 : decode cX9_firstOf 20 = .ok (.iaload, 1) := by decide +kernel
theorem dX9_firstOf_21 : decode cX9_firstOf 21 = .ok (.iadd, 1) := by decide +kernel
theorem dX9_firstOf_22 : decode cX9_firstOf 22 = .ok (.istore_n 2, 1) := by decide +kernel
theorem dX9_firstOf_23 : decode cX9_firstOf 23 = .ok (.iinc 3 1, 3) := by decide +kernel
theorem dX9_firstOf_26 : decode cX9_firstOf 26 = .ok (.goto (-22), 3) := by decide +kernel
theorem dX9_firstOf_29 : decode cX9_firstOf 29 = .ok (.iload_n 2, 1) := by decide +kernel
theorem dX9_firstOf_30 : decode cX9_firstOf 30 = .ok (.ireturn, 1) := by decide +kernel
theorem dX9_lives_0 : decode cX9_lives 0 = .ok (.aload_n 0, 1) := by decide +kernel
theorem dX9_lives_1 : decode cX9_lives 1 = .ok (.iconst 0, 1) := by decide +kernel
theorem dX9_lives_2 : decode cX9_lives 2 = .ok (.putfield 67, 3) := by decide +kernel
theorem dX9_lives_5 : decode cX9_lives 5 = .ok (.aload_n 0, 1) := by decide +kernel
theorem dX9_lives_6 : decode cX9_lives 6 = .ok (.iload_n 1, 1) := by decide +kernel
theorem dX9_lives_7 : decode cX9_lives 7 = .ok (.invokevirtual 125, 3) := by decide +kernel
theorem dX9_lives_10 : decode cX9_lives 10 = .ok (.ifCond .eq 32, 3) := by decide +kernel
theorem dX9_lives_13 : decode cX9_lives 13 = .ok (.aload_n 0, 1) := by decide +kernel
theorem dX9_lives_14 : decode cX9_lives 14 = .ok (.iload_n 2, 1) := by decide +kernel
theorem dX9_lives_15 : decode cX9_lives 15 = .ok (.invokevirtual 138, 3) := by decide +kernel
theorem dX9_lives_18 : decode cX9_lives 18 = .ok (.ifCond .eq 24, 3) := by decide +kernel
theorem dX9_lives_21 : decode cX9_lives 21 = .ok (.iload_n 3, 1) := by decide +kernel
theorem dX9_lives_22 : decode cX9_lives 22 = .ok (.iconst 0, 1) := by decide +kernel
theorem dX9_lives_23 : decode cX9_lives 23 = .ok (.aload_n 0, 1) := by decide +kernel
theorem dX9_lives_24 : decode cX9_lives 24 = .ok (.getfield 7, 3) := by decide +kernel
theorem dX9_lives_27 : decode cX9_lives 27 = .ok (.bipush 16, 2) := by decide +kernel
theorem dX9_lives_29 : decode cX9_lives 29 = .ok (.iconst 5, 1) := by decide +kernel
theorem dX9_lives_30 : decode cX9_lives 30 = .ok (.iload_n 2, 1) := by decide +kernel
theorem dX9_lives_31 : decode cX9_lives 31 = .ok (.imul, 1) := by decide +kernel
theorem dX9_lives_32 : decode cX9_lives 32 = .ok (.iadd, 1) := by decide +kernel
theorem dX9_lives_33 : decode cX9_lives 33 = .ok (.iaload, 1) := by decide +kernel
theorem dX9_lives_34 : decode cX9_lives 34 = .ok (.iconst 1, 1) := by decide +kernel
theorem dX9_lives_35 : decode cX9_lives 35 = .ok (.isub, 1) := by decide +kernel
theorem dX9_lives_36 : decode cX9_lives 36 = .ok (.invokestatic 74, 3) := by decide +kernel
theorem dX9_lives_39 : decode cX9_lives 39 = .ok (.ifCond .ne 5, 3) := by decide +kernel
theorem dX9_lives_42 : decode cX9_lives 42 = .ok (.iconst (-1), 1) := by decide +kernel
theorem dX9_lives_43 : decode cX9_lives 43 = .ok (.ireturn, 1) := by decide +kernel
theorem dX9_lives_44 : decode cX9_lives 44 = .ok (.aload_n 0, 1) := by decide +kernel
theorem dX9_lives_45 : decode cX9_lives 45 = .ok (.invokevirtual 170, 3) := by decide +kernel
theorem dX9_lives_48 : decode cX9_lives 48 = .ok (.aload_n 0, 1) := by decide +kernel
theorem dX9_lives_49 : decode cX9_lives 49 = .ok (.iload_n 1, 1) := by decide +kernel
theorem dX9_lives_50 : decode cX9_lives 50 = .ok (.iconst 0, 1) := by decide +kernel
theorem dX9_lives_51 : decode cX9_lives 51 = .ok (.invokevirtual 173, 3) := by decide +kernel
theorem dX9_lives_54 : decode cX9_lives 54 = .ok (.pop2, 1) := by decide +kernel
theorem dX9_lives_55 : decode cX9_lives 55 = .ok (.aload_n 0, 1) := by decide +kernel
theorem dX9_lives_56 : decode cX9_lives 56 = .ok (.getfield 40, 3) := by decide +kernel
theorem dX9_lives_59 : decode cX9_lives 59 = .ok (.aload_n 0, 1) := by decide +kernel
theorem dX9_lives_60 : decode cX9_lives 60 = .ok (.iload_n 2, 1) := by decide +kernel
theorem dX9_lives_61 : decode cX9_lives 61 = .ok (.invokevirtual 180, 3) := by decide +kernel
theorem dX9_lives_64 : decode cX9_lives 64 = .ok (.iload_n 3, 1) := by decide +kernel
theorem dX9_lives_65 : decode cX9_lives 65 = .ok (.iadd, 1) := by decide +kernel
theorem dX9_lives_66 : decode cX9_lives 66 = .ok (.iaload, 1) := by decide +kernel
theorem dX9_lives_67 : decode cX9_lives 67 = .ok (.ireturn, 1) := by decide +kernel
theorem dX9_isThought_0 : decode cX9_isThought 0 = .ok (.aload_n 0, 1) := by decide +kernel
theorem dX9_isThought_1 : decode cX9_isThought 1 = .ok (.getfield 13, 3) := by decide +kernel
theorem dX9_isThought_4 : decode cX9_isThought 4 = .ok (.bipush 11, 2) := by decide +kernel
theorem dX9_isThought_6 : decode cX9_isThought 6 = .ok (.iaload, 1) := by decide +kernel
theorem dX9_isThought_7 : decode cX9_isThought 7 = .ok (.iload_n 1, 1) := by decide +kernel
theorem dX9_isThought_8 : decode cX9_isThought 8 = .ok (.ishr, 1) := by decide +kernel
theorem dX9_isThought_9 : decode cX9_isThought 9 = .ok (.iconst 1, 1) := by decide +kernel
theorem dX9_isThought_10 : decode cX9_isThought 10 = .ok (.iand, 1) := by decide +kernel
theorem dX9_isThought_11 : decode cX9_isThought 11 = .ok (.iconst 1, 1) := by decide +kernel
theorem dX9_isThought_12 : decode cX9_isThought 12 = .ok (.if_icmp .ne 7, 3) := by decide +kernel
theorem dX9_isThought_15 : decode cX9_isThought 15 = .ok (.iconst 1, 1) := by decide +kernel
theorem dX9_isThought_16 : decode cX9_isThought 16 = .ok (.goto 4, 3) := by decide +kernel
theorem dX9_isThought_19 : decode cX9_isThought 19 = .ok (.iconst 0, 1) := by decide +kernel
theorem dX9_isThought_20 : decode cX9_isThought 20 = .ok (.ireturn, 1) := by decide +kernel
theorem dX9_tenths_0 : decode cX9_tenths 0 = .ok (.aload_n 0, 1) := by decide +kernel
theorem dX9_tenths_1 : decode cX9_tenths 1 = .ok (.getfield 7, 3) := by decide +kernel
theorem dX9_tenths_4 : decode cX9_tenths 4 = .ok (.bipush 52, 2) := by decide +kernel
theorem dX9_tenths_6 : decode cX9_tenths 6 = .ok (.bipush 6, 2) := by decide +kernel
theorem dX9_tenths_8 : decode cX9_tenths 8 = .ok (.iload_n 1, 1) := by decide +kernel
theorem dX9_tenths_9 : decode cX9_tenths 9 = .ok (.imul, 1) := by decide +kernel
theorem dX9_tenths_10 : decode cX9_tenths 10 = .ok (.iadd, 1) := by decide +kernel
theorem dX9_tenths_11 : decode cX9_tenths 11 = .ok (.iaload, 1) := by decide +kernel
theorem dX9_tenths_12 : decode cX9_tenths 12 = .ok (.ireturn, 1) := by decide +kernel
theorem dX9_meanOf_0 : decode cX9_meanOf 0 = .ok (.lconst 0, 1) := by decide +kernel
theorem dX9_meanOf_1 : decode cX9_meanOf 1 = .ok (.lstore_n 3, 1) := by decide +kernel
theorem dX9_meanOf_2 : decode cX9_meanOf 2 = .ok (.iconst 0, 1) := by decide +kernel
theorem dX9_meanOf_3 : decode cX9_meanOf 3 = .ok (.istore 5, 2) := by decide +kernel
theorem dX9_meanOf_5 : decode cX9_meanOf 5 = .ok (.iload 5, 2) := by decide +kernel
theorem dX9_meanOf_7 : decode cX9_meanOf 7 = .ok (.aload_n 0, 1) := by decide +kernel
theorem dX9_meanOf_8 : decode cX9_meanOf 8 = .ok (.getfield 7, 3) := by decide +kernel
theorem dX9_meanOf_11 : decode cX9_meanOf 11 = .ok (.sipush 185, 3) := by decide +kernel
theorem dX9_meanOf_14 : decode cX9_meanOf 14 = .ok (.iaload, 1) := by decide +kernel
theorem dX9_meanOf_15 : decode cX9_meanOf 15 = .ok (.if_icmp .ge 53, 3) := by decide +kernel
theorem dX9_meanOf_18 : decode cX9_meanOf 18 = .ok (.aload_n 0, 1) := by decide +kernel
theorem dX9_meanOf_19 : decode cX9_meanOf 19 = .ok (.iload 5, 2) := by decide +kernel
theorem dX9_meanOf_21 : decode cX9_meanOf 21 = .ok (.invokevirtual 183, 3) := by decide +kernel
theorem dX9_meanOf_24 : decode cX9_meanOf 24 = .ok (.ifCond .eq 38, 3) := by decide +kernel
theorem dX9_meanOf_27 : decode cX9_meanOf 27 = .ok (.aload_n 0, 1) := by decide +kernel
theorem dX9_meanOf_28 : decode cX9_meanOf 28 = .ok (.iload 5, 2) := by decide +kernel
theorem dX9_meanOf_30 : decode cX9_meanOf 30 = .ok (.iload_n 1, 1) := by decide +kernel
theorem dX9_meanOf_31 : decode cX9_meanOf 31 = .ok (.invokevirtual 173, 3) := by decide +kernel
theorem dX9_meanOf_34 : decode cX9_meanOf 34 = .ok (.lstore 6, 2) := by decide +kernel
theorem dX9_meanOf_36 : decode cX9_meanOf 36 = .ok (.lload_n 3, 1) := by decide +kernel
theorem dX9_meanOf_37 : decode cX9_meanOf 37 = .ok (.aload_n 0, 1) := by decide +kernel
theorem dX9_meanOf_38 : decode cX9_meanOf 38 = .ok (.iload 5, 2) := by decide +kernel
theorem dX9_meanOf_40 : decode cX9_meanOf 40 = .ok (.invokevirtual 186, 3) := by decide +kernel
theorem dX9_meanOf_43 : decode cX9_meanOf 43 = .ok (.i2l, 1) := by decide +kernel
theorem dX9_meanOf_44 : decode cX9_meanOf 44 = .ok (.iload_n 2, 1) := by decide +kernel
theorem dX9_meanOf_45 : decode cX9_meanOf 45 = .ok (.ifCond .ge 8, 3) := by decide +kernel
theorem dX9_meanOf_48 : decode cX9_meanOf 48 = .ok (.lload 6, 2) := by decide +kernel
theorem dX9_meanOf_50 : decode cX9_meanOf 50 = .ok (.goto 9, 3) := by decide +kernel
theorem dX9_meanOf_53 : decode cX9_meanOf 53 = .ok (.aload_n 0, 1) := by decide +kernel
theorem dX9_meanOf_54 : decode cX9_meanOf 54 = .ok (.getfield 50, 3) := by decide +kernel
theorem dX9_meanOf_57 : decode cX9_meanOf 57 = .ok (.iload_n 2, 1) := by decide +kernel
theorem dX9_meanOf_58 : decode cX9_meanOf 58 = .ok (.laload, 1) := by decide +kernel
theorem dX9_meanOf_59 : decode cX9_meanOf 59 = .ok (.lmul, 1) := by decide +kernel
theorem dX9_meanOf_60 : decode cX9_meanOf 60 = .ok (.ladd, 1) := by decide +kernel
theorem dX9_meanOf_61 : decode cX9_meanOf 61 = .ok (.lstore_n 3, 1) := by decide +kernel
theorem dX9_meanOf_62 : decode cX9_meanOf 62 = .ok (.iinc 5 1, 3) := by decide +kernel
theorem dX9_meanOf_65 : decode cX9_meanOf 65 = .ok (.goto (-60), 3) := by decide +kernel
theorem dX9_meanOf_68 : decode cX9_meanOf 68 = .ok (.lload_n 3, 1) := by decide +kernel
theorem dX9_meanOf_69 : decode cX9_meanOf 69 = .ok (.lreturn, 1) := by decide +kernel
theorem dX9_mean_0 : decode cX9_mean 0 = .ok (.aload_n 0, 1) := by decide +kernel
theorem dX9_mean_1 : decode cX9_mean 1 = .ok (.iconst 0, 1) := by decide +kernel
theorem dX9_mean_2 : decode cX9_mean 2 = .ok (.putfield 67, 3) := by decide +kernel
theorem dX9_mean_5 : decode cX9_mean 5 = .ok (.aload_n 0, 1) := by decide +kernel
theorem dX9_mean_6 : decode cX9_mean 6 = .ok (.invokevirtual 170, 3) := by decide +kernel
theorem dX9_mean_9 : decode cX9_mean 9 = .ok (.aload_n 0, 1) := by decide +kernel
theorem dX9_mean_10 : decode cX9_mean 10 = .ok (.iconst 0, 1) := by decide +kernel
theorem dX9_mean_11 : decode cX9_mean 11 = .ok (.iconst (-1), 1) := by decide +kernel
theorem dX9_mean_12 : decode cX9_mean 12 = .ok (.invokevirtual 189, 3) := by decide +kernel
theorem dX9_mean_15 : decode cX9_mean 15 = .ok (.lreturn, 1) := by decide +kernel
theorem dX9_shut_0 : decode cX9_shut 0 = .ok (.aload_n 0, 1) := by decide +kernel
theorem dX9_shut_1 : decode cX9_shut 1 = .ok (.iconst 0, 1) := by decide +kernel
theorem dX9_shut_2 : decode cX9_shut 2 = .ok (.putfield 67, 3) := by decide +kernel
theorem dX9_shut_5 : decode cX9_shut 5 = .ok (.aload_n 0, 1) := by decide +kernel
theorem dX9_shut_6 : decode cX9_shut 6 = .ok (.iload_n 1, 1) := by decide +kernel
theorem dX9_shut_7 : decode cX9_shut 7 = .ok (.invokevirtual 125, 3) := by decide +kernel
theorem dX9_shut_10 : decode cX9_shut 10 = .ok (.ifCond .ne 5, 3) := by decide +kernel
theorem dX9_shut_13 : decode cX9_shut 13 = .ok (.iconst (-1), 1) := by decide +kernel
theorem dX9_shut_14 : decode cX9_shut 14 = .ok (.ireturn, 1) := by decide +kernel
theorem dX9_shut_15 : decode cX9_shut 15 = .ok (.aload_n 0, 1) := by decide +kernel
theorem dX9_shut_16 : decode cX9_shut 16 = .ok (.invokevirtual 170, 3) := by decide +kernel
theorem dX9_shut_19 : decode cX9_shut 19 = .ok (.aload_n 0, 1) := by decide +kernel
theorem dX9_shut_20 : decode cX9_shut 20 = .ok (.iload_n 1, 1) := by decide +kernel
theorem dX9_shut_21 : decode cX9_shut 21 = .ok (.iconst 0, 1) := by decide +kernel
theorem dX9_shut_22 : decode cX9_shut 22 = .ok (.invokevirtual 173, 3) := by decide +kernel
theorem dX9_shut_25 : decode cX9_shut 25 = .ok (.pop2, 1) := by decide +kernel
theorem dX9_shut_26 : decode cX9_shut 26 = .ok (.iconst 0, 1) := by decide +kernel
theorem dX9_shut_27 : decode cX9_shut 27 = .ok (.istore_n 2, 1) := by decide +kernel
theorem dX9_shut_28 : decode cX9_shut 28 = .ok (.iload_n 2, 1) := by decide +kernel
theorem dX9_shut_29 : decode cX9_shut 29 = .ok (.aload_n 0, 1) := by decide +kernel
theorem dX9_shut_30 : decode cX9_shut 30 = .ok (.invokevirtual 177, 3) := by decide +kernel
theorem dX9_shut_33 : decode cX9_shut 33 = .ok (.if_icmp .ge 57, 3) := by decide +kernel
theorem dX9_shut_36 : decode cX9_shut 36 = .ok (.aload_n 0, 1) := by decide +kernel
theorem dX9_shut_37 : decode cX9_shut 37 = .ok (.getfield 22, 3) := by decide +kernel
theorem dX9_shut_40 : decode cX9_shut 40 = .ok (.aload_n 0, 1) := by decide +kernel
theorem dX9_shut_41 : decode cX9_shut 41 = .ok (.getfield 31, 3) := by decide +kernel
theorem dX9_shut_44 : decode cX9_shut 44 = .ok (.iload_n 2, 1) := by decide +kernel
theorem dX9_shut_45 : decode cX9_shut 45 = .ok (.iaload, 1) := by decide +kernel
theorem dX9_shut_46 : decode cX9_shut 46 = .ok (.iaload, 1) := by decide +kernel
theorem dX9_shut_47 : decode cX9_shut 47 = .ok (.bipush 24, 2) := by decide +kernel
theorem dX9_shut_49 : decode cX9_shut 49 = .ok (.if_icmp .ge 35, 3) := by decide +kernel
theorem dX9_shut_52 : decode cX9_shut 52 = .ok (.aload_n 0, 1) := by decide +kernel
theorem dX9_shut_53 : decode cX9_shut 53 = .ok (.getfield 43, 3) := by decide +kernel
theorem dX9_shut_56 : decode cX9_shut 56 = .ok (.iload_n 2, 1) := by decide +kernel
theorem dX9_shut_57 : decode cX9_shut 57 = .ok (.baload, 1) := by decide +kernel
theorem dX9_shut_58 : decode cX9_shut 58 = .ok (.ifCond .ne 26, 3) := by decide +kernel
theorem dX9_shut_61 : decode cX9_shut 61 = .ok (.bipush 10, 2) := by decide +kernel
theorem dX9_shut_63 : decode cX9_shut 63 = .ok (.aload_n 0, 1) := by decide +kernel
theorem dX9_shut_64 : decode cX9_shut 64 = .ok (.getfield 31, 3) := by decide +kernel
theorem dX9_shut_67 : decode cX9_shut 67 = .ok (.iload_n 2, 1) := by decide +kernel
theorem dX9_shut_68 : decode cX9_shut 68 = .ok (.iaload, 1) := by decide +kernel
theorem dX9_shut_69 : decode cX9_shut 69 = .ok (.imul, 1) := by decide +kernel
theorem dX9_shut_70 : decode cX9_shut 70 = .ok (.iload_n 2, 1) := by decide +kernel
theorem dX9_shut_71 : decode cX9_shut 71 = .ok (.iadd, 1) := by decide +kernel
theorem dX9_shut_72 : decode cX9_shut 72 = .ok (.aload_n 0, 1) := by decide +kernel
theorem dX9_shut_73 : decode cX9_shut 73 = .ok (.aload_n 0, 1) := by decide +kernel
theorem dX9_shut_74 : decode cX9_shut 74 = .ok (.getfield 31, 3) := by decide +kernel
theorem dX9_shut_77 : decode cX9_shut 77 = .ok (.iload_n 2, 1) := by decide +kernel
theorem dX9_shut_78 : decode cX9_shut 78 = .ok (.iaload, 1) := by decide +kernel
theorem dX9_shut_79 : decode cX9_shut 79 = .ok (.invokevirtual 180, 3) := by decide +kernel
theorem dX9_shut_82 : decode cX9_shut 82 = .ok (.isub, 1) := by decide +kernel
theorem dX9_shut_83 : decode cX9_shut 83 = .ok (.ireturn, 1) := by decide +kernel
theorem dX9_shut_84 : decode cX9_shut 84 = .ok (.iinc 2 1, 3) := by decide +kernel
theorem dX9_shut_87 : decode cX9_shut 87 = .ok (.goto (-59), 3) := by decide +kernel
theorem dX9_shut_90 : decode cX9_shut 90 = .ok (.bipush (-4), 2) := by decide +kernel
theorem dX9_shut_92 : decode cX9_shut 92 = .ok (.ireturn, 1) := by decide +kernel
theorem dX9_sign_0 : decode cX9_sign 0 = .ok (.aload_n 0, 1) := by decide +kernel
theorem dX9_sign_1 : decode cX9_sign 1 = .ok (.iconst 0, 1) := by decide +kernel
theorem dX9_sign_2 : decode cX9_sign 2 = .ok (.putfield 67, 3) := by decide +kernel
theorem dX9_sign_5 : decode cX9_sign 5 = .ok (.iload_n 1, 1) := by decide +kernel
theorem dX9_sign_6 : decode cX9_sign 6 = .ok (.iconst 0, 1) := by decide +kernel
theorem dX9_sign_7 : decode cX9_sign 7 = .ok (.bipush 9, 2) := by decide +kernel
theorem dX9_sign_9 : decode cX9_sign 9 = .ok (.invokestatic 74, 3) := by decide +kernel
theorem dX9_sign_12 : decode cX9_sign 12 = .ok (.ifCond .ne 5, 3) := by decide +kernel
theorem dX9_sign_15 : decode cX9_sign 15 = .ok (.iconst (-1), 1) := by decide +kernel
theorem dX9_sign_16 : decode cX9_sign 16 = .ok (.ireturn, 1) := by decide +kernel
theorem dX9_sign_17 : decode cX9_sign 17 = .ok (.iconst 0, 1) := by decide +kernel
theorem dX9_sign_18 : decode cX9_sign 18 = .ok (.istore_n 2, 1) := by decide +kernel
theorem dX9_sign_19 : decode cX9_sign 19 = .ok (.iconst 0, 1) := by decide +kernel
theorem dX9_sign_20 : decode cX9_sign 20 = .ok (.istore_n 3, 1) := by decide +kernel
theorem dX9_sign_21 : decode cX9_sign 21 = .ok (.iload_n 3, 1) := by decide +kernel
theorem dX9_sign_22 : decode cX9_sign 22 = .ok (.aload_n 0, 1) := by decide +kernel
theorem dX9_sign_23 : decode cX9_sign 23 = .ok (.getfield 7, 3) := by decide +kernel
theorem dX9_sign_26 : decode cX9_sign 26 = .ok (.sipush 185, 3) := by decide +kernel
theorem dX9_sign_29 : decode cX9_sign 29 = .ok (.iaload, 1) := by decide +kernel
theorem dX9_sign_30 : decode cX9_sign 30 = .ok (.if_icmp .ge 55, 3) := by decide +kernel
theorem dX9_sign_33 : decode cX9_sign 33 = .ok (.aload_n 0, 1) := by decide +kernel
theorem dX9_sign_34 : decode cX9_sign 34 = .ok (.getfield 13, 3) := by decide +kernel
theorem dX9_sign_37 : decode cX9_sign 37 = .ok (.bipush 10, 2) := by decide +kernel
theorem dX9_sign_39 : decode cX9_sign 39 = .ok (.iaload, 1) := by decide +kernel
theorem dX9_sign_40 : decode cX9_sign 40 = .ok (.bipush 24, 2) := by decide +kernel
theorem dX9_sign_42 : decode cX9_sign 42 = .ok (.if_icmp .ge 43, 3) := by decide +kernel
theorem dX9_sign_45 : decode cX9_sign 45 = .ok (.iload_n 2, 1) := by decide +kernel
theorem dX9_sign_46 : decode cX9_sign 46 = .ok (.aload_n 0, 1) := by decide +kernel
theorem dX9_sign_47 : decode cX9_sign 47 = .ok (.iload_n 3, 1) := by decide +kernel
theorem dX9_sign_48 : decode cX9_sign 48 = .ok (.invokevirtual 183, 3) := by decide +kernel
theorem dX9_sign_51 : decode cX9_sign 51 = .ok (.ifCond .eq 25, 3) := by decide +kernel
theorem dX9_sign_54 : decode cX9_sign 54 = .ok (.aload_n 0, 1) := by decide +kernel
theorem dX9_sign_55 : decode cX9_sign 55 = .ok (.iload_n 3, 1) := by decide +kernel
theorem dX9_sign_56 : decode cX9_sign 56 = .ok (.aload_n 0, 1) := by decide +kernel
theorem dX9_sign_57 : decode cX9_sign 57 = .ok (.getfield 13, 3) := by decide +kernel
theorem dX9_sign_60 : decode cX9_sign 60 = .ok (.bipush 10, 2) := by decide +kernel
theorem dX9_sign_62 : decode cX9_sign 62 = .ok (.iaload, 1) := by decide +kernel
theorem dX9_sign_63 : decode cX9_sign 63 = .ok (.invokevirtual 129, 3) := by decide +kernel
theorem dX9_sign_66 : decode cX9_sign 66 = .ok (.iload_n 1, 1) := by decide +kernel
theorem dX9_sign_67 : decode cX9_sign 67 = .ok (.if_icmp .ne 9, 3) := by decide +kernel
theorem dX9_sign_70 : decode cX9_sign 70 = .ok (.iconst 1, 1) := by decide +kernel
theorem dX9_sign_71 : decode cX9_sign 71 = .ok (.iload_n 3, 1) := by decide +kernel
theorem dX9_sign_72 : decode cX9_sign 72 = .ok (.ishl, 1) := by decide +kernel
theorem dX9_sign_73 : decode cX9_sign 73 = .ok (.goto 4, 3) := by decide +kernel
theorem dX9_sign_76 : decode cX9_sign 76 = .ok (.iconst 0, 1) := by decide +kernel
theorem dX9_sign_77 : decode cX9_sign 77 = .ok (.ior, 1) := by decide +kernel
theorem dX9_sign_78 : decode cX9_sign 78 = .ok (.istore_n 2, 1) := by decide +kernel
theorem dX9_sign_79 : decode cX9_sign 79 = .ok (.iinc 3 1, 3) := by decide +kernel
theorem dX9_sign_82 : decode cX9_sign 82 = .ok (.goto (-61), 3) := by decide +kernel
theorem dX9_sign_85 : decode cX9_sign 85 = .ok (.iload_n 2, 1) := by decide +kernel
theorem dX9_sign_86 : decode cX9_sign 86 = .ok (.ifCond .ne 6, 3) := by decide +kernel
theorem dX9_sign_89 : decode cX9_sign 89 = .ok (.bipush (-2), 2) := by decide +kernel
theorem dX9_sign_91 : decode cX9_sign 91 = .ok (.ireturn, 1) := by decide +kernel
theorem dX9_sign_92 : decode cX9_sign 92 = .ok (.aload_n 0, 1) := by decide +kernel
theorem dX9_sign_93 : decode cX9_sign 93 = .ok (.getfield 13, 3) := by decide +kernel
theorem dX9_sign_96 : decode cX9_sign 96 = .ok (.bipush 11, 2) := by decide +kernel
theorem dX9_sign_98 : decode cX9_sign 98 = .ok (.iload_n 2, 1) := by decide +kernel
theorem dX9_sign_99 : decode cX9_sign 99 = .ok (.iastore, 1) := by decide +kernel
theorem dX9_sign_100 : decode cX9_sign 100 = .ok (.aload_n 0, 1) := by decide +kernel
theorem dX9_sign_101 : decode cX9_sign 101 = .ok (.getfield 13, 3) := by decide +kernel
theorem dX9_sign_104 : decode cX9_sign 104 = .ok (.bipush 10, 2) := by decide +kernel
theorem dX9_sign_106 : decode cX9_sign 106 = .ok (.dup2, 1) := by decide +kernel
theorem dX9_sign_107 : decode cX9_sign 107 = .ok (.iaload, 1) := by decide +kernel
theorem dX9_sign_108 : decode cX9_sign 108 = .ok (.iconst 1, 1) := by decide +kernel
theorem dX9_sign_109 : decode cX9_sign 109 = .ok (.iadd, 1) := by decide +kernel
theorem dX9_sign_110 : decode cX9_sign 110 = .ok (.iastore, 1) := by decide +kernel
theorem dX9_sign_111 : decode cX9_sign 111 = .ok (.iload_n 2, 1) := by decide +kernel
theorem dX9_sign_112 : decode cX9_sign 112 = .ok (.ireturn, 1) := by decide +kernel
theorem dX9_now_0 : decode cX9_now 0 = .ok (.aload_n 0, 1) := by decide +kernel
theorem dX9_now_1 : decode cX9_now 1 = .ok (.iconst 0, 1) := by decide +kernel
theorem dX9_now_2 : decode cX9_now 2 = .ok (.putfield 67, 3) := by decide +kernel
theorem dX9_now_5 : decode cX9_now 5 = .ok (.iload_n 1, 1) := by decide +kernel
theorem dX9_now_6 : decode cX9_now 6 = .ok (.ifCond .ne 13, 3) := by decide +kernel
theorem dX9_now_9 : decode cX9_now 9 = .ok (.aload_n 0, 1) := by decide +kernel
theorem dX9_now_10 : decode cX9_now 10 = .ok (.getfield 13, 3) := by decide +kernel
theorem dX9_now_13 : decode cX9_now 13 = .ok (.bipush 10, 2) := by decide +kernel
theorem dX9_now_15 : decode cX9_now 15 = .ok (.iaload, 1) := by decide +kernel
theorem dX9_now_16 : decode cX9_now 16 = .ok (.goto 49, 3) := by decide +kernel
theorem dX9_now_19 : decode cX9_now 19 = .ok (.iload_n 1, 1) := by decide +kernel
theorem dX9_now_20 : decode cX9_now 20 = .ok (.iconst 1, 1) := by decide +kernel
theorem dX9_now_21 : decode cX9_now 21 = .ok (.if_icmp .ne 13, 3) := by decide +kernel
theorem dX9_now_24 : decode cX9_now 24 = .ok (.aload_n 0, 1) := by decide +kernel
theorem dX9_now_25 : decode cX9_now 25 = .ok (.getfield 13, 3) := by decide +kernel
theorem dX9_now_28 : decode cX9_now 28 = .ok (.bipush 11, 2) := by decide +kernel
theorem dX9_now_30 : decode cX9_now 30 = .ok (.iaload, 1) := by decide +kernel
theorem dX9_now_31 : decode cX9_now 31 = .ok (.goto 34, 3) := by decide +kernel
theorem dX9_now_34 : decode cX9_now 34 = .ok (.iload_n 1, 1) := by decide +kernel
theorem dX9_now_35 : decode cX9_now 35 = .ok (.iconst 2, 1) := by decide +kernel
theorem dX9_now_36 : decode cX9_now 36 = .ok (.if_icmp .ne 13, 3) := by decide +kernel
theorem dX9_now_39 : decode cX9_now 39 = .ok (.aload_n 0, 1) := by decide +kernel
theorem dX9_now_40 : decode cX9_now 40 = .ok (.getfield 13, 3) := by decide +kernel
theorem dX9_now_43 : decode cX9_now 43 = .ok (.bipush 8, 2) := by decide +kernel
theorem dX9_now_45 : decode cX9_now 45 = .ok (.iaload, 1) := by decide +kernel
theorem dX9_now_46 : decode cX9_now 46 = .ok (.goto 19, 3) := by decide +kernel
theorem dX9_now_49 : decode cX9_now 49 = .ok (.iload_n 1, 1) := by decide +kernel
theorem dX9_now_50 : decode cX9_now 50 = .ok (.iconst 3, 1) := by decide +kernel
theorem dX9_now_51 : decode cX9_now 51 = .ok (.if_icmp .ne 13, 3) := by decide +kernel
theorem dX9_now_54 : decode cX9_now 54 = .ok (.aload_n 0, 1) := by decide +kernel
theorem dX9_now_55 : decode cX9_now 55 = .ok (.getfield 13, 3) := by decide +kernel
theorem dX9_now_58 : decode cX9_now 58 = .ok (.bipush 9, 2) := by decide +kernel
theorem dX9_now_60 : decode cX9_now 60 = .ok (.iaload, 1) := by decide +kernel
theorem dX9_now_61 : decode cX9_now 61 = .ok (.goto 4, 3) := by decide +kernel
theorem dX9_now_64 : decode cX9_now 64 = .ok (.iconst (-1), 1) := by decide +kernel
theorem dX9_now_65 : decode cX9_now 65 = .ok (.ireturn, 1) := by decide +kernel
theorem dX9_set_0 : decode cX9_set 0 = .ok (.aload_n 0, 1) := by decide +kernel
theorem dX9_set_1 : decode cX9_set 1 = .ok (.iconst 0, 1) := by decide +kernel
theorem dX9_set_2 : decode cX9_set 2 = .ok (.putfield 67, 3) := by decide +kernel
theorem dX9_set_5 : decode cX9_set 5 = .ok (.iload_n 1, 1) := by decide +kernel
theorem dX9_set_6 : decode cX9_set 6 = .ok (.iconst 0, 1) := by decide +kernel
theorem dX9_set_7 : decode cX9_set 7 = .ok (.iconst 1, 1) := by decide +kernel
theorem dX9_set_8 : decode cX9_set 8 = .ok (.invokestatic 74, 3) := by decide +kernel
theorem dX9_set_11 : decode cX9_set 11 = .ok (.ifCond .eq 30, 3) := by decide +kernel
theorem dX9_set_14 : decode cX9_set 14 = .ok (.iload_n 1, 1) := by decide +kernel
theorem dX9_set_15 : decode cX9_set 15 = .ok (.ifCond .ne 16, 3) := by decide +kernel
theorem dX9_set_18 : decode cX9_set 18 = .ok (.iload_n 2, 1) := by decide +kernel
theorem dX9_set_19 : decode cX9_set 19 = .ok (.iconst 0, 1) := by decide +kernel
theorem dX9_set_20 : decode cX9_set 20 = .ok (.bipush 9, 2) := by decide +kernel
theorem dX9_set_22 : decode cX9_set 22 = .ok (.invokestatic 74, 3) := by decide +kernel
theorem dX9_set_25 : decode cX9_set 25 = .ok (.ifCond .eq 16, 3) := by decide +kernel
theorem dX9_set_28 : decode cX9_set 28 = .ok (.goto 15, 3) := by decide +kernel
theorem dX9_set_31 : decode cX9_set 31 = .ok (.iload_n 2, 1) := by decide +kernel
theorem dX9_set_32 : decode cX9_set 32 = .ok (.iconst 1, 1) := by decide +kernel
theorem dX9_set_33 : decode cX9_set 33 = .ok (.bipush 32, 2) := by decide +kernel
theorem dX9_set_35 : decode cX9_set 35 = .ok (.invokestatic 74, 3) := by decide +kernel
theorem dX9_set_38 : decode cX9_set 38 = .ok (.ifCond .ne 5, 3) := by decide +kernel
theorem dX9_set_41 : decode cX9_set 41 = .ok (.iconst (-1), 1) := by decide +kernel
theorem dX9_set_42 : decode cX9_set 42 = .ok (.ireturn, 1) := by decide +kernel
theorem dX9_set_43 : decode cX9_set 43 = .ok (.aload_n 0, 1) := by decide +kernel
theorem dX9_set_44 : decode cX9_set 44 = .ok (.getfield 13, 3) := by decide +kernel
theorem dX9_set_47 : decode cX9_set 47 = .ok (.bipush 8, 2) := by decide +kernel
theorem dX9_set_49 : decode cX9_set 49 = .ok (.iload_n 1, 1) := by decide +kernel
theorem dX9_set_50 : decode cX9_set 50 = .ok (.iadd, 1) := by decide +kernel
theorem dX9_set_51 : decode cX9_set 51 = .ok (.iaload, 1) := by decide +kernel
theorem dX9_set_52 : decode cX9_set 52 = .ok (.istore_n 3, 1) := by decide +kernel
theorem dX9_set_53 : decode cX9_set 53 = .ok (.aload_n 0, 1) := by decide +kernel
theorem dX9_set_54 : decode cX9_set 54 = .ok (.getfield 13, 3) := by decide +kernel
theorem dX9_set_57 : decode cX9_set 57 = .ok (.bipush 8, 2) := by decide +kernel
theorem dX9_set_59 : decode cX9_set 59 = .ok (.iload_n 1, 1) := by decide +kernel
theorem dX9_set_60 : decode cX9_set 60 = .ok (.iadd, 1) := by decide +kernel
theorem dX9_set_61 : decode cX9_set 61 = .ok (.iload_n 2, 1) := by decide +kernel
theorem dX9_set_62 : decode cX9_set 62 = .ok (.iastore, 1) := by decide +kernel
theorem dX9_set_63 : decode cX9_set 63 = .ok (.iload_n 3, 1) := by decide +kernel
theorem dX9_set_64 : decode cX9_set 64 = .ok (.ireturn, 1) := by decide +kernel
theorem dX9_nearest_0 : decode cX9_nearest 0 = .ok (.iconst 0, 1) := by decide +kernel
theorem dX9_nearest_1 : decode cX9_nearest 1 = .ok (.istore_n 2, 1) := by decide +kernel
theorem dX9_nearest_2 : decode cX9_nearest 2 = .ok (.iconst 1, 1) := by decide +kernel
theorem dX9_nearest_3 : decode cX9_nearest 3 = .ok (.istore_n 3, 1) := by decide +kernel
theorem dX9_nearest_4 : decode cX9_nearest 4 = .ok (.iload_n 3, 1) := by decide +kernel
theorem dX9_nearest_5 : decode cX9_nearest 5 = .ok (.aload_n 0, 1) := by decide +kernel
theorem dX9_nearest_6 : decode cX9_nearest 6 = .ok (.getfield 7, 3) := by decide +kernel
theorem dX9_nearest_9 : decode cX9_nearest 9 = .ok (.sipush 183, 3) := by decide +kernel
theorem dX9_nearest_12 : decode cX9_nearest 12 = .ok (.iaload, 1) := by decide +kernel
theorem dX9_nearest_13 : decode cX9_nearest 13 = .ok (.if_icmp .ge 30, 3) := by decide +kernel
theorem dX9_nearest_16 : decode cX9_nearest 16 = .ok (.aload_n 0, 1) := by decide +kernel
theorem dX9_nearest_17 : decode cX9_nearest 17 = .ok (.iload_n 1, 1) := by decide +kernel
theorem dX9_nearest_18 : decode cX9_nearest 18 = .ok (.iload_n 3, 1) := by decide +kernel
theorem dX9_nearest_19 : decode cX9_nearest 19 = .ok (.invokevirtual 144, 3) := by decide +kernel
theorem dX9_nearest_22 : decode cX9_nearest 22 = .ok (.aload_n 0, 1) := by decide +kernel
theorem dX9_nearest_23 : decode cX9_nearest 23 = .ok (.iload_n 1, 1) := by decide +kernel
theorem dX9_nearest_24 : decode cX9_nearest 24 = .ok (.iload_n 2, 1) := by decide +kernel
theorem dX9_nearest_25 : decode cX9_nearest 25 = .ok (.invokevirtual 144, 3) := by decide +kernel
theorem dX9_nearest_28 : decode cX9_nearest 28 = .ok (.if_icmp .ge 7, 3) := by decide +kernel
theorem dX9_nearest_31 : decode cX9_nearest 31 = .ok (.iload_n 3, 1) := by decide +kernel
theorem dX9_nearest_32 : decode cX9_nearest 32 = .ok (.goto 4, 3) := by decide +kernel
theorem dX9_nearest_35 : decode cX9_nearest 35 = .ok (.iload_n 2, 1) := by decide +kernel
theorem dX9_nearest_36 : decode cX9_nearest 36 = .ok (.istore_n 2, 1) := by decide +kernel
theorem dX9_nearest_37 : decode cX9_nearest 37 = .ok (.iinc 3 1, 3) := by decide +kernel
theorem dX9_nearest_40 : decode cX9_nearest 40 = .ok (.goto (-36), 3) := by decide +kernel
theorem dX9_nearest_43 : decode cX9_nearest 43 = .ok (.iload_n 2, 1) := by decide +kernel
theorem dX9_nearest_44 : decode cX9_nearest 44 = .ok (.ireturn, 1) := by decide +kernel
theorem dX9_getsIn_0 : decode cX9_getsIn 0 = .ok (.iconst 0, 1) := by decide +kernel
theorem dX9_getsIn_1 : decode cX9_getsIn 1 = .ok (.istore 4, 2) := by decide +kernel
theorem dX9_getsIn_3 : decode cX9_getsIn 3 = .ok (.iconst 0, 1) := by decide +kernel
theorem dX9_getsIn_4 : decode cX9_getsIn 4 = .ok (.istore 5, 2) := by decide +kernel
theorem dX9_getsIn_6 : decode cX9_getsIn 6 = .ok (.iload 5, 2) := by decide +kernel
theorem dX9_getsIn_8 : decode cX9_getsIn 8 = .ok (.aload_n 0, 1) := by decide +kernel
theorem dX9_getsIn_9 : decode cX9_getsIn 9 = .ok (.getfield 7, 3) := by decide +kernel
theorem dX9_getsIn_12 : decode cX9_getsIn 12 = .ok (.sipush 185, 3) := by decide +kernel
theorem dX9_getsIn_15 : decode cX9_getsIn 15 = .ok (.iaload, 1) := by decide +kernel
theorem dX9_getsIn_16 : decode cX9_getsIn 16 = .ok (.if_icmp .ge 79, 3) := by decide +kernel
theorem dX9_getsIn_19 : decode cX9_getsIn 19 = .ok (.iconst 0, 1) := by decide +kernel
theorem dX9_getsIn_20 : decode cX9_getsIn 20 = .ok (.istore 6, 2) := by decide +kernel
theorem dX9_getsIn_22 : decode cX9_getsIn 22 = .ok (.aload_n 0, 1) := by decide +kernel
theorem dX9_getsIn_23 : decode cX9_getsIn 23 = .ok (.iload_n 1, 1) := by decide +kernel
theorem dX9_getsIn_24 : decode cX9_getsIn 24 = .ok (.iload_n 2, 1) := by decide +kernel
theorem dX9_getsIn_25 : decode cX9_getsIn 25 = .ok (.iload 5, 2) := by decide +kernel
theorem dX9_getsIn_27 : decode cX9_getsIn 27 = .ok (.iload_n 3, 1) := by decide +kernel
theorem dX9_getsIn_28 : decode cX9_getsIn 28 = .ok (.invokevirtual 150, 3) := by decide +kernel
theorem dX9_getsIn_31 : decode cX9_getsIn 31 = .ok (.istore 7, 2) := by decide +kernel
theorem dX9_getsIn_33 : decode cX9_getsIn 33 = .ok (.iload 7, 2) := by decide +kernel
theorem dX9_getsIn_35 : decode cX9_getsIn 35 = .ok (.bipush 24, 2) := by decide +kernel
theorem dX9_getsIn_37 : decode cX9_getsIn 37 = .ok (.if_icmp .ge 23, 3) := by decide +kernel
theorem dX9_getsIn_40 : decode cX9_getsIn 40 = .ok (.iload 6, 2) := by decide +kernel
theorem dX9_getsIn_42 : decode cX9_getsIn 42 = .ok (.aload_n 0, 1) := by decide +kernel
theorem dX9_getsIn_43 : decode cX9_getsIn 43 = .ok (.iload_n 2, 1) := by decide +kernel
theorem dX9_getsIn_44 : decode cX9_getsIn 44 = .ok (.iload 5, 2) := by decide +kernel
theorem dX9_getsIn_46 : decode cX9_getsIn 46 = .ok (.iload 7, 2) := by decide +kernel
theorem dX9_getsIn_48 : decode cX9_getsIn 48 = .ok (.invokevirtual 135, 3) := by decide +kernel
theorem dX9_getsIn_51 : decode cX9_getsIn 51 = .ok (.ior, 1) := by decide +kernel
theorem dX9_getsIn_52 : decode cX9_getsIn 52 = .ok (.istore 6, 2) := by decide +kernel
theorem dX9_getsIn_54 : decode cX9_getsIn 54 = .ok (.iinc 7 1, 3) := by decide +kernel
theorem dX9_getsIn_57 : decode cX9_getsIn 57 = .ok (.goto (-24), 3) := by decide +kernel
theorem dX9_getsIn_60 : decode cX9_getsIn 60 = .ok (.iload 4, 2) := by decide +kernel
theorem dX9_getsIn_62 : decode cX9_getsIn 62 = .ok (.iload 6, 2) := by decide +kernel
theorem dX9_getsIn_64 : decode cX9_getsIn 64 = .ok (.ifCond .eq 21, 3) := by decide +kernel
theorem dX9_getsIn_67 : decode cX9_getsIn 67 = .ok (.aload_n 0, 1) := by decide +kernel
theorem dX9_getsIn_68 : decode cX9_getsIn 68 = .ok (.iload 5, 2) := by decide +kernel
theorem dX9_getsIn_70 : decode cX9_getsIn 70 = .ok (.invokevirtual 183, 3) := by decide +kernel
theorem dX9_getsIn_73 : decode cX9_getsIn 73 = .ok (.ifCond .eq 12, 3) := by decide +kernel
theorem dX9_getsIn_76 : decode cX9_getsIn 76 = .ok (.aload_n 0, 1) := by decide +kernel
theorem dX9_getsIn_77 : decode cX9_getsIn 77 = .ok (.iload 5, 2) := by decide +kernel
theorem dX9_getsIn_79 : decode cX9_getsIn 79 = .ok (.invokevirtual 186, 3) := by decide +kernel
theorem dX9_getsIn_82 : decode cX9_getsIn 82 = .ok (.goto 4, 3) := by decide +kernel
theorem dX9_getsIn_85 : decode cX9_getsIn 85 = .ok (.iconst 0, 1) := by decide +kernel
theorem dX9_getsIn_86 : decode cX9_getsIn 86 = .ok (.iadd, 1) := by decide +kernel
theorem dX9_getsIn_87 : decode cX9_getsIn 87 = .ok (.istore 4, 2) := by decide +kernel
theorem dX9_getsIn_89 : decode cX9_getsIn 89 = .ok (.iinc 5 1, 3) := by decide +kernel
theorem dX9_getsIn_92 : decode cX9_getsIn 92 = .ok (.goto (-86), 3) := by decide +kernel
theorem dX9_getsIn_95 : decode cX9_getsIn 95 = .ok (.iload 4, 2) := by decide +kernel
theorem dX9_getsIn_97 : decode cX9_getsIn 97 = .ok (.ireturn, 1) := by decide +kernel
theorem dX9_openest_0 : decode cX9_openest 0 = .ok (.iconst 0, 1) := by decide +kernel
theorem dX9_openest_1 : decode cX9_openest 1 = .ok (.istore_n 3, 1) := by decide +kernel
theorem dX9_openest_2 : decode cX9_openest 2 = .ok (.iconst 1, 1) := by decide +kernel
theorem dX9_openest_3 : decode cX9_openest 3 = .ok (.istore 4, 2) := by decide +kernel
theorem dX9_openest_5 : decode cX9_openest 5 = .ok (.iload 4, 2) := by decide +kernel
theorem dX9_openest_7 : decode cX9_openest 7 = .ok (.aload_n 0, 1) := by decide +kernel
theorem dX9_openest_8 : decode cX9_openest 8 = .ok (.getfield 7, 3) := by decide +kernel
theorem dX9_openest_11 : decode cX9_openest 11 = .ok (.sipush 183, 3) := by decide +kernel
theorem dX9_openest_14 : decode cX9_openest 14 = .ok (.iaload, 1) := by decide +kernel
theorem dX9_openest_15 : decode cX9_openest 15 = .ok (.if_icmp .ge 60, 3) := by decide +kernel
theorem dX9_openest_18 : decode cX9_openest 18 = .ok (.aload_n 0, 1) := by decide +kernel
theorem dX9_openest_19 : decode cX9_openest 19 = .ok (.iload_n 1, 1) := by decide +kernel
theorem dX9_openest_20 : decode cX9_openest 20 = .ok (.iload 4, 2) := by decide +kernel
theorem dX9_openest_22 : decode cX9_openest 22 = .ok (.iload_n 2, 1) := by decide +kernel
theorem dX9_openest_23 : decode cX9_openest 23 = .ok (.invokevirtual 193, 3) := by decide +kernel
theorem dX9_openest_26 : decode cX9_openest 26 = .ok (.aload_n 0, 1) := by decide +kernel
theorem dX9_openest_27 : decode cX9_openest 27 = .ok (.iload_n 1, 1) := by decide +kernel
theorem dX9_openest_28 : decode cX9_openest 28 = .ok (.iload_n 3, 1) := by decide +kernel
theorem dX9_openest_29 : decode cX9_openest 29 = .ok (.iload_n 2, 1) := by decide +kernel
theorem dX9_openest_30 : decode cX9_openest 30 = .ok (.invokevirtual 193, 3) := by decide +kernel
theorem dX9_openest_33 : decode cX9_openest 33 = .ok (.isub, 1) := by decide +kernel
theorem dX9_openest_34 : decode cX9_openest 34 = .ok (.istore 5, 2) := by decide +kernel
theorem dX9_openest_36 : decode cX9_openest 36 = .ok (.iload 5, 2) := by decide +kernel
theorem dX9_openest_38 : decode cX9_openest 38 = .ok (.ifCond .gt 24, 3) := by decide +kernel
theorem dX9_openest_41 : decode cX9_openest 41 = .ok (.iload 5, 2) := by decide +kernel
theorem dX9_openest_43 : decode cX9_openest 43 = .ok (.ifCond .ne 24, 3) := by decide +kernel
theorem dX9_openest_46 : decode cX9_openest 46 = .ok (.aload_n 0, 1) := by decide +kernel
theorem dX9_openest_47 : decode cX9_openest 47 = .ok (.iload_n 1, 1) := by decide +kernel
theorem dX9_openest_48 : decode cX9_openest 48 = .ok (.iload 4, 2) := by decide +kernel
theorem dX9_openest_50 : decode cX9_openest 50 = .ok (.invokevirtual 144, 3) := by decide +kernel
theorem dX9_openest_53 : decode cX9_openest 53 = .ok (.aload_n 0, 1) := by decide +kernel
theorem dX9_openest_54 : decode cX9_openest 54 = .ok (.iload_n 1, 1) := by decide +kernel
theorem dX9_openest_55 : decode cX9_openest 55 = .ok (.iload_n 3, 1) := by decide +kernel
theorem dX9_openest_56 : decode cX9_openest 56 = .ok (.invokevirtual 144, 3) := by decide +kernel
theorem dX9_openest_59 : decode cX9_openest 59 = .ok (.if_icmp .ge 8, 3) := by decide +kernel
theorem dX9_openest_62 : decode cX9_openest 62 = .ok (.iload 4, 2) := by decide +kernel
theorem dX9_openest_64 : decode cX9_openest 64 = .ok (.goto 4, 3) := by decide +kernel
theorem dX9_openest_67 : decode cX9_openest 67 = .ok (.iload_n 3, 1) := by decide +kernel
theorem dX9_openest_68 : decode cX9_openest 68 = .ok (.istore_n 3, 1) := by decide +kernel
theorem dX9_openest_69 : decode cX9_openest 69 = .ok (.iinc 4 1, 3) := by decide +kernel
theorem dX9_openest_72 : decode cX9_openest 72 = .ok (.goto (-67), 3) := by decide +kernel
theorem dX9_openest_75 : decode cX9_openest 75 = .ok (.iload_n 3, 1) := by decide +kernel
theorem dX9_openest_76 : decode cX9_openest 76 = .ok (.ireturn, 1) := by decide +kernel
theorem dX9_ruled_0 : decode cX9_ruled 0 = .ok (.aload_n 0, 1) := by decide +kernel
theorem dX9_ruled_1 : decode cX9_ruled 1 = .ok (.invokevirtual 170, 3) := by decide +kernel
theorem dX9_ruled_4 : decode cX9_ruled 4 = .ok (.iload_n 1, 1) := by decide +kernel
theorem dX9_ruled_5 : decode cX9_ruled 5 = .ok (.ifCond .ne 4, 3) := by decide +kernel
theorem dX9_ruled_8 : decode cX9_ruled 8 = .ok (.return_, 1) := by decide +kernel
theorem dX9_ruled_9 : decode cX9_ruled 9 = .ok (.iconst 0, 1) := by decide +kernel
theorem dX9_ruled_10 : decode cX9_ruled 10 = .ok (.istore_n 3, 1) := by decide +kernel
theorem dX9_ruled_11 : decode cX9_ruled 11 = .ok (.iload_n 3, 1) := by decide +kernel
theorem dX9_ruled_12 : decode cX9_ruled 12 = .ok (.iconst 4, 1) := by decide +kernel
theorem dX9_ruled_13 : decode cX9_ruled 13 = .ok (.if_icmp .ge 17, 3) := by decide +kernel
theorem dX9_ruled_16 : decode cX9_ruled 16 = .ok (.aload_n 0, 1) := by decide +kernel
theorem dX9_ruled_17 : decode cX9_ruled 17 = .ok (.getfield 22, 3) := by decide +kernel
theorem dX9_ruled_20 : decode cX9_ruled 20 = .ok (.iload_n 3, 1) := by decide +kernel
theorem dX9_ruled_21 : decode cX9_ruled 21 = .ok (.bipush 24, 2) := by decide +kernel
theorem dX9_ruled_23 : decode cX9_ruled 23 = .ok (.iastore, 1) := by decide +kernel
theorem dX9_ruled_24 : decode cX9_ruled 24 = .ok (.iinc 3 1, 3) := by decide +kernel
theorem dX9_ruled_27 : decode cX9_ruled 27 = .ok (.goto (-16), 3) := by decide +kernel
theorem dX9_ruled_30 : decode cX9_ruled 30 = .ok (.iconst 0, 1) := by decide +kernel
theorem dX9_ruled_31 : decode cX9_ruled 31 = .ok (.istore_n 3, 1) := by decide +kernel
theorem dX9_ruled_32 : decode cX9_ruled 32 = .ok (.iconst 0, 1) := by decide +kernel
theorem dX9_ruled_33 : decode cX9_ruled 33 = .ok (.istore 4, 2) := by decide +kernel
theorem dX9_ruled_35 : decode cX9_ruled 35 = .ok (.iload 4, 2) := by decide +kernel
theorem dX9_ruled_37 : decode cX9_ruled 37 = .ok (.bipush 24, 2) := by decide +kernel
theorem dX9_ruled_39 : decode cX9_ruled 39 = .ok (.if_icmp .ge 169, 3) := by decide +kernel
theorem dX9_ruled_42 : decode cX9_ruled 42 = .ok (.iload_n 1, 1) := by decide +kernel
theorem dX9_ruled_43 : decode cX9_ruled 43 = .ok (.iconst 4, 1) := by decide +kernel
theorem dX9_ruled_44 : decode cX9_ruled 44 = .ok (.if_icmp .ge 164, 3) := by decide +kernel
theorem dX9_ruled_47 : decode cX9_ruled 47 = .ok (.iconst 0, 1) := by decide +kernel
theorem dX9_ruled_48 : decode cX9_ruled 48 = .ok (.istore 5, 2) := by decide +kernel
theorem dX9_ruled_50 : decode cX9_ruled 50 = .ok (.iconst 0, 1) := by decide +kernel
theorem dX9_ruled_51 : decode cX9_ruled 51 = .ok (.istore 6, 2) := by decide +kernel
theorem dX9_ruled_53 : decode cX9_ruled 53 = .ok (.iload 6, 2) := by decide +kernel
theorem dX9_ruled_55 : decode cX9_ruled 55 = .ok (.aload_n 0, 1) := by decide +kernel
theorem dX9_ruled_56 : decode cX9_ruled 56 = .ok (.getfield 7, 3) := by decide +kernel
theorem dX9_ruled_59 : decode cX9_ruled 59 = .ok (.sipush 184, 3) := by decide +kernel
theorem dX9_ruled_62 : decode cX9_ruled 62 = .ok (.iaload, 1) := by decide +kernel
theorem dX9_ruled_63 : decode cX9_ruled 63 = .ok (.if_icmp .ge 134, 3) := by decide +kernel
theorem dX9_ruled_66 : decode cX9_ruled 66 = .ok (.iload_n 1, 1) := by decide +kernel
theorem dX9_ruled_67 : decode cX9_ruled 67 = .ok (.iconst 2, 1) := by decide +kernel
theorem dX9_ruled_68 : decode cX9_ruled 68 = .ok (.if_icmp .ne 27, 3) := by decide +kernel
theorem dX9_ruled_71 : decode cX9_ruled 71 = .ok (.iload 6, 2) := by decide +kernel
theorem dX9_ruled_73 : decode cX9_ruled 73 = .ok (.ifCond .le 22, 3) := by decide +kernel
theorem dX9_ruled_76 : decode cX9_ruled 76 = .ok (.iload_n 3, 1) := by decide +kernel
theorem dX9_ruled_77 : decode cX9_ruled 77 = .ok (.aload_n 0, 1) := by decide +kernel
theorem dX9_ruled_78 : decode cX9_ruled 78 = .ok (.getfield 13, 3) := by decide +kernel
theorem dX9_ruled_81 : decode cX9_ruled 81 = .ok (.bipush 9, 2) := by decide +kernel
theorem dX9_ruled_83 : decode cX9_ruled 83 = .ok (.iaload, 1) := by decide +kernel
theorem dX9_ruled_84 : decode cX9_ruled 84 = .ok (.if_icmp .lt 7, 3) := by decide +kernel
theorem dX9_ruled_87 : decode cX9_ruled 87 = .ok (.iconst 1, 1) := by decide +kernel
theorem dX9_ruled_88 : decode cX9_ruled 88 = .ok (.goto 29, 3) := by decide +kernel
theorem dX9_ruled_91 : decode cX9_ruled 91 = .ok (.iconst 0, 1) := by decide +kernel
theorem dX9_ruled_92 : decode cX9_ruled 92 = .ok (.goto 25, 3) := by decide +kernel
theorem dX9_ruled_95 : decode cX9_ruled 95 = .ok (.aload_n 0, 1) := by decide +kernel
theorem dX9_ruled_96 : decode cX9_ruled 96 = .ok (.iload_n 2, 1) := by decide +kernel
theorem dX9_ruled_97 : decode cX9_ruled 97 = .ok (.iload 4, 2) := by decide +kernel
theorem dX9_ruled_99 : decode cX9_ruled 99 = .ok (.invokevirtual 129, 3) := by decide +kernel
theorem dX9_ruled_102 : decode cX9_ruled 102 = .ok (.aload_n 0, 1) := by decide +kernel
theorem dX9_ruled_103 : decode cX9_ruled 103 = .ok (.getfield 13, 3) := by decide +kernel
theorem dX9_ruled_106 : decode cX9_ruled 106 = .ok (.bipush 8, 2) := by decide +kernel
theorem dX9_ruled_108 : decode cX9_ruled 108 = .ok (.iaload, 1) := by decide +kernel
theorem dX9_ruled_109 : decode cX9_ruled 109 = .ok (.if_icmp .lt 7, 3) := by decide +kernel
theorem dX9_ruled_112 : decode cX9_ruled 112 = .ok (.iconst 1, 1) := by decide +kernel
theorem dX9_ruled_113 : decode cX9_ruled 113 = .ok (.goto 4, 3) := by decide +kernel
theorem dX9_ruled_116 : decode cX9_ruled 116 = .ok (.iconst 0, 1) := by decide +kernel
theorem dX9_ruled_117 : decode cX9_ruled 117 = .ok (.istore 7, 2) := by decide +kernel
theorem dX9_ruled_119 : decode cX9_ruled 119 = .ok (.iload 7, 2) := by decide +kernel
theorem dX9_ruled_121 : decode cX9_ruled 121 = .ok (.ifCond .eq 70, 3) := by decide +kernel
theorem dX9_ruled_124 : decode cX9_ruled 124 = .ok (.aload_n 0, 1) := by decide +kernel
theorem dX9_ruled_125 : decode cX9_ruled 125 = .ok (.getfield 22, 3) := by decide +kernel
theorem dX9_ruled_128 : decode cX9_ruled 128 = .ok (.iload 6, 2) := by decide +kernel
theorem dX9_ruled_130 : decode cX9_ruled 130 = .ok (.iaload, 1) := by decide +kernel
theorem dX9_ruled_131 : decode cX9_ruled 131 = .ok (.bipush 24, 2) := by decide +kernel
theorem dX9_ruled_133 : decode cX9_ruled 133 = .ok (.if_icmp .ne 58, 3) := by decide +kernel
theorem dX9_ruled_136 : decode cX9_ruled 136 = .ok (.aload_n 0, 1) := by decide +kernel
theorem dX9_ruled_137 : decode cX9_ruled 137 = .ok (.getfield 22, 3) := by decide +kernel
theorem dX9_ruled_140 : decode cX9_ruled 140 = .ok (.iload 6, 2) := by decide +kernel
theorem dX9_ruled_142 : decode cX9_ruled 142 = .ok (.iload 4, 2) := by decide +kernel
theorem dX9_ruled_144 : decode cX9_ruled 144 = .ok (.iastore, 1) := by decide +kernel
theorem dX9_ruled_145 : decode cX9_ruled 145 = .ok (.aload_n 0, 1) := by decide +kernel
theorem dX9_ruled_146 : decode cX9_ruled 146 = .ok (.getfield 25, 3) := by decide +kernel
theorem dX9_ruled_149 : decode cX9_ruled 149 = .ok (.iload 6, 2) := by decide +kernel
theorem dX9_ruled_151 : decode cX9_ruled 151 = .ok (.iload_n 1, 1) := by decide +kernel
theorem dX9_ruled_152 : decode cX9_ruled 152 = .ok (.iconst 3, 1) := by decide +kernel
theorem dX9_ruled_153 : decode cX9_ruled 153 = .ok (.if_icmp .ne 14, 3) := by decide +kernel
theorem dX9_ruled_156 : decode cX9_ruled 156 = .ok (.aload_n 0, 1) := by decide +kernel
theorem dX9_ruled_157 : decode cX9_ruled 157 = .ok (.iload 6, 2) := by decide +kernel
theorem dX9_ruled_159 : decode cX9_ruled 159 = .ok (.iload 4, 2) := by decide +kernel
theorem dX9_ruled_161 : decode cX9_ruled 161 = .ok (.invokevirtual 196, 3) := by decide +kernel
theorem dX9_ruled_164 : decode cX9_ruled 164 = .ok (.goto 9, 3) := by decide +kernel
theorem dX9_ruled_167 : decode cX9_ruled 167 = .ok (.aload_n 0, 1) := by decide +kernel
theorem dX9_ruled_168 : decode cX9_ruled 168 = .ok (.iload 6, 2) := by decide +kernel
theorem dX9_ruled_170 : decode cX9_ruled 170 = .ok (.invokevirtual 199, 3) := by decide +kernel
theorem dX9_ruled_173 : decode cX9_ruled 173 = .ok (.iastore, 1) := by decide +kernel
theorem dX9_ruled_174 : decode cX9_ruled 174 = .ok (.iload 5, 2) := by decide +kernel
theorem dX9_ruled_176 : decode cX9_ruled 176 = .ok (.aload_n 0, 1) := by decide +kernel
theorem dX9_ruled_177 : decode cX9_ruled 177 = .ok (.getfield 7, 3) := by decide +kernel
theorem dX9_ruled_180 : decode cX9_ruled 180 = .ok (.bipush 16, 2) := by decide +kernel
theorem dX9_ruled_182 : decode cX9_ruled 182 = .ok (.iconst 5, 1) := by decide +kernel
theorem dX9_ruled_183 : decode cX9_ruled 183 = .ok (.iload 6, 2) := by decide +kernel
theorem dX9_ruled_185 : decode cX9_ruled 185 = .ok (.imul, 1) := by decide +kernel
theorem dX9_ruled_186 : decode cX9_ruled 186 = .ok (.iadd, 1) := by decide +kernel
theorem dX9_ruled_187 : decode cX9_ruled 187 = .ok (.iaload, 1) := by decide +kernel
theorem dX9_ruled_188 : decode cX9_ruled 188 = .ok (.iadd, 1) := by decide +kernel
theorem dX9_ruled_189 : decode cX9_ruled 189 = .ok (.istore 5, 2) := by decide +kernel
theorem dX9_ruled_191 : decode cX9_ruled 191 = .ok (.iinc 6 1, 3) := by decide +kernel
theorem dX9_ruled_194 : decode cX9_ruled 194 = .ok (.goto (-141), 3) := by decide +kernel
theorem dX9_ruled_197 : decode cX9_ruled 197 = .ok (.iload_n 3, 1) := by decide +kernel
theorem dX9_ruled_198 : decode cX9_ruled 198 = .ok (.iload 5, 2) := by decide +kernel
theorem dX9_ruled_200 : decode cX9_ruled 200 = .ok (.iadd, 1) := by decide +kernel
theorem dX9_ruled_201 : decode cX9_ruled 201 = .ok (.istore_n 3, 1) := by decide +kernel
theorem dX9_ruled_202 : decode cX9_ruled 202 = .ok (.iinc 4 1, 3) := by decide +kernel
theorem dX9_ruled_205 : decode cX9_ruled 205 = .ok (.goto (-170), 3) := by decide +kernel
theorem dX9_ruled_208 : decode cX9_ruled 208 = .ok (.return_, 1) := by decide +kernel
theorem dX9_isRule_0 : decode cX9_isRule 0 = .ok (.iload_n 0, 1) := by decide +kernel
theorem dX9_isRule_1 : decode cX9_isRule 1 = .ok (.iconst 0, 1) := by decide +kernel
theorem dX9_isRule_2 : decode cX9_isRule 2 = .ok (.iconst 4, 1) := by decide +kernel
theorem dX9_isRule_3 : decode cX9_isRule 3 = .ok (.invokestatic 74, 3) := by decide +kernel
theorem dX9_isRule_6 : decode cX9_isRule 6 = .ok (.ireturn, 1) := by decide +kernel
theorem dX9_by_0 : decode cX9_by 0 = .ok (.aload_n 0, 1) := by decide +kernel
theorem dX9_by_1 : decode cX9_by 1 = .ok (.iconst 0, 1) := by decide +kernel
theorem dX9_by_2 : decode cX9_by 2 = .ok (.putfield 67, 3) := by decide +kernel
theorem dX9_by_5 : decode cX9_by 5 = .ok (.iload_n 1, 1) := by decide +kernel
theorem dX9_by_6 : decode cX9_by 6 = .ok (.invokestatic 202, 3) := by decide +kernel
theorem dX9_by_9 : decode cX9_by 9 = .ok (.ifCond .ne 7, 3) := by decide +kernel
theorem dX9_by_12 : decode cX9_by 12 = .ok (.ldc2_w 168, 3) := by decide +kernel
theorem dX9_by_15 : decode cX9_by 15 = .ok (.lreturn, 1) := by decide +kernel
theorem dX9_by_16 : decode cX9_by 16 = .ok (.lconst 0, 1) := by decide +kernel
theorem dX9_by_17 : decode cX9_by 17 = .ok (.lstore_n 2, 1) := by decide +kernel
theorem dX9_by_18 : decode cX9_by 18 = .ok (.iconst 0, 1) := by decide +kernel
theorem dX9_by_19 : decode cX9_by 19 = .ok (.istore 4, 2) := by decide +kernel
theorem dX9_by_21 : decode cX9_by 21 = .ok (.iload 4, 2) := by decide +kernel
theorem dX9_by_23 : decode cX9_by 23 = .ok (.aload_n 0, 1) := by decide +kernel
theorem dX9_by_24 : decode cX9_by 24 = .ok (.getfield 7, 3) := by decide +kernel
theorem dX9_by_27 : decode cX9_by 27 = .ok (.sipush 185, 3) := by decide +kernel
theorem dX9_by_30 : decode cX9_by 30 = .ok (.iaload, 1) := by decide +kernel
theorem dX9_by_31 : decode cX9_by 31 = .ok (.if_icmp .ge 43, 3) := by decide +kernel
theorem dX9_by_34 : decode cX9_by 34 = .ok (.aload_n 0, 1) := by decide +kernel
theorem dX9_by_35 : decode cX9_by 35 = .ok (.iload 4, 2) := by decide +kernel
theorem dX9_by_37 : decode cX9_by 37 = .ok (.invokevirtual 183, 3) := by decide +kernel
theorem dX9_by_40 : decode cX9_by 40 = .ok (.ifCond .eq 28, 3) := by decide +kernel
theorem dX9_by_43 : decode cX9_by 43 = .ok (.aload_n 0, 1) := by decide +kernel
theorem dX9_by_44 : decode cX9_by 44 = .ok (.iload_n 1, 1) := by decide +kernel
theorem dX9_by_45 : decode cX9_by 45 = .ok (.iload 4, 2) := by decide +kernel
theorem dX9_by_47 : decode cX9_by 47 = .ok (.invokevirtual 205, 3) := by decide +kernel
theorem dX9_by_50 : decode cX9_by 50 = .ok (.lload_n 2, 1) := by decide +kernel
theorem dX9_by_51 : decode cX9_by 51 = .ok (.aload_n 0, 1) := by decide +kernel
theorem dX9_by_52 : decode cX9_by 52 = .ok (.iload 4, 2) := by decide +kernel
theorem dX9_by_54 : decode cX9_by 54 = .ok (.invokevirtual 186, 3) := by decide +kernel
theorem dX9_by_57 : decode cX9_by 57 = .ok (.i2l, 1) := by decide +kernel
theorem dX9_by_58 : decode cX9_by 58 = .ok (.aload_n 0, 1) := by decide +kernel
theorem dX9_by_59 : decode cX9_by 59 = .ok (.iload 4, 2) := by decide +kernel
theorem dX9_by_61 : decode cX9_by 61 = .ok (.iconst 0, 1) := by decide +kernel
theorem dX9_by_62 : decode cX9_by 62 = .ok (.invokevirtual 173, 3) := by decide +kernel
theorem dX9_by_65 : decode cX9_by 65 = .ok (.lmul, 1) := by decide +kernel
theorem dX9_by_66 : decode cX9_by 66 = .ok (.ladd, 1) := by decide +kernel
theorem dX9_by_67 : decode cX9_by 67 = .ok (.lstore_n 2, 1) := by decide +kernel
theorem dX9_by_68 : decode cX9_by 68 = .ok (.iinc 4 1, 3) := by decide +kernel
theorem dX9_by_71 : decode cX9_by 71 = .ok (.goto (-50), 3) := by decide +kernel
theorem dX9_by_74 : decode cX9_by 74 = .ok (.lload_n 2, 1) := by decide +kernel
theorem dX9_by_75 : decode cX9_by 75 = .ok (.lreturn, 1) := by decide +kernel
theorem dX9_ran_0 : decode cX9_ran 0 = .ok (.aload_n 0, 1) := by decide +kernel
theorem dX9_ran_1 : decode cX9_ran 1 = .ok (.iconst 0, 1) := by decide +kernel
theorem dX9_ran_2 : decode cX9_ran 2 = .ok (.putfield 67, 3) := by decide +kernel
theorem dX9_ran_5 : decode cX9_ran 5 = .ok (.iload_n 1, 1) := by decide +kernel
theorem dX9_ran_6 : decode cX9_ran 6 = .ok (.invokestatic 202, 3) := by decide +kernel
theorem dX9_ran_9 : decode cX9_ran 9 = .ok (.ifCond .eq 19, 3) := by decide +kernel
theorem dX9_ran_12 : decode cX9_ran 12 = .ok (.aload_n 0, 1) := by decide +kernel
theorem dX9_ran_13 : decode cX9_ran 13 = .ok (.iload_n 2, 1) := by decide +kernel
theorem dX9_ran_14 : decode cX9_ran 14 = .ok (.invokevirtual 125, 3) := by decide +kernel
theorem dX9_ran_17 : decode cX9_ran 17 = .ok (.ifCond .eq 11, 3) := by decide +kernel
theorem dX9_ran_20 : decode cX9_ran 20 = .ok (.aload_n 0, 1) := by decide +kernel
theorem dX9_ran_21 : decode cX9_ran 21 = .ok (.iload_n 3, 1) := by decide +kernel
theorem dX9_ran_22 : decode cX9_ran 22 = .ok (.invokevirtual 138, 3) := by decide +kernel
theorem dX9_ran_25 : decode cX9_ran 25 = .ok (.ifCond .ne 5, 3) := by decide +kernel
theorem dX9_ran_28 : decode cX9_ran 28 = .ok (.iconst (-1), 1) := by decide +kernel
theorem dX9_ran_29 : decode cX9_ran 29 = .ok (.ireturn, 1) := by decide +kernel
theorem dX9_ran_30 : decode cX9_ran 30 = .ok (.aload_n 0, 1) := by decide +kernel
theorem dX9_ran_31 : decode cX9_ran 31 = .ok (.iload_n 1, 1) := by decide +kernel
theorem dX9_ran_32 : decode cX9_ran 32 = .ok (.iload_n 2, 1) := by decide +kernel
theorem dX9_ran_33 : decode cX9_ran 33 = .ok (.invokevirtual 205, 3) := by decide +kernel
theorem dX9_ran_36 : decode cX9_ran 36 = .ok (.aload_n 0, 1) := by decide +kernel
theorem dX9_ran_37 : decode cX9_ran 37 = .ok (.getfield 22, 3) := by decide +kernel
theorem dX9_ran_40 : decode cX9_ran 40 = .ok (.iload_n 3, 1) := by decide +kernel
theorem dX9_ran_41 : decode cX9_ran 41 = .ok (.iaload, 1) := by decide +kernel
theorem dX9_ran_42 : decode cX9_ran 42 = .ok (.bipush 24, 2) := by decide +kernel
theorem dX9_ran_44 : decode cX9_ran 44 = .ok (.if_icmp .ne 9, 3) := by decide +kernel
theorem dX9_ran_47 : decode cX9_ran 47 = .ok (.sipush 240, 3) := by decide +kernel
theorem dX9_ran_50 : decode cX9_ran 50 = .ok (.goto 19, 3) := by decide +kernel
theorem dX9_ran_53 : decode cX9_ran 53 = .ok (.bipush 10, 2) := by decide +kernel
theorem dX9_ran_55 : decode cX9_ran 55 = .ok (.aload_n 0, 1) := by decide +kernel
theorem dX9_ran_56 : decode cX9_ran 56 = .ok (.getfield 22, 3) := by decide +kernel
theorem dX9_ran_59 : decode cX9_ran 59 = .ok (.iload_n 3, 1) := by decide +kernel
theorem dX9_ran_60 : decode cX9_ran 60 = .ok (.iaload, 1) := by decide +kernel
theorem dX9_ran_61 : decode cX9_ran 61 = .ok (.imul, 1) := by decide +kernel
theorem dX9_ran_62 : decode cX9_ran 62 = .ok (.aload_n 0, 1) := by decide +kernel
theorem dX9_ran_63 : decode cX9_ran 63 = .ok (.getfield 25, 3) := by decide +kernel
theorem dX9_ran_66 : decode cX9_ran 66 = .ok (.iload_n 3, 1) := by decide +kernel
theorem dX9_ran_67 : decode cX9_ran 67 = .ok (.iaload, 1) := by decide +kernel
theorem dX9_ran_68 : decode cX9_ran 68 = .ok (.iadd, 1) := by decide +kernel
theorem dX9_ran_69 : decode cX9_ran 69 = .ok (.ireturn, 1) := by decide +kernel
theorem dX9_wayOf_0 : decode cX9_wayOf 0 = .ok (.lconst 0, 1) := by decide +kernel
theorem dX9_wayOf_1 : decode cX9_wayOf 1 = .ok (.lstore 5, 2) := by decide +kernel
theorem dX9_wayOf_3 : decode cX9_wayOf 3 = .ok (.ldc 157, 2) := by decide +kernel
theorem dX9_wayOf_5 : decode cX9_wayOf 5 = .ok (.istore 7, 2) := by decide +kernel
theorem dX9_wayOf_7 : decode cX9_wayOf 7 = .ok (.iload_n 3, 1) := by decide +kernel
theorem dX9_wayOf_8 : decode cX9_wayOf 8 = .ok (.bipush 24, 2) := by decide +kernel
theorem dX9_wayOf_10 : decode cX9_wayOf 10 = .ok (.if_icmp .ge 15, 3) := by decide +kernel
theorem dX9_wayOf_13 : decode cX9_wayOf 13 = .ok (.aload_n 0, 1) := by decide +kernel
theorem dX9_wayOf_14 : decode cX9_wayOf 14 = .ok (.iload_n 1, 1) := by decide +kernel
theorem dX9_wayOf_15 : decode cX9_wayOf 15 = .ok (.iload 4, 2) := by decide +kernel
theorem dX9_wayOf_17 : decode cX9_wayOf 17 = .ok (.iload_n 2, 1) := by decide +kernel
theorem dX9_wayOf_18 : decode cX9_wayOf 18 = .ok (.iload_n 3, 1) := by decide +kernel
theorem dX9_wayOf_19 : decode cX9_wayOf 19 = .ok (.invokevirtual 150, 3) := by decide +kernel
theorem dX9_wayOf_22 : decode cX9_wayOf 22 = .ok (.goto 5, 3) := by decide +kernel
theorem dX9_wayOf_25 : decode cX9_wayOf 25 = .ok (.bipush 99, 2) := by decide +kernel
theorem dX9_wayOf_27 : decode cX9_wayOf 27 = .ok (.istore 8, 2) := by decide +kernel
theorem dX9_wayOf_29 : decode cX9_wayOf 29 = .ok (.iconst 0, 1) := by decide +kernel
theorem dX9_wayOf_30 : decode cX9_wayOf 30 = .ok (.istore 9, 2) := by decide +kernel
theorem dX9_wayOf_32 : decode cX9_wayOf 32 = .ok (.iconst 0, 1) := by decide +kernel
theorem dX9_wayOf_33 : decode cX9_wayOf 33 = .ok (.istore 10, 2) := by decide +kernel
theorem dX9_wayOf_35 : decode cX9_wayOf 35 = .ok (.iload 10, 2) := by decide +kernel
theorem dX9_wayOf_37 : decode cX9_wayOf 37 = .ok (.bipush 24, 2) := by decide +kernel
theorem dX9_wayOf_39 : decode cX9_wayOf 39 = .ok (.if_icmp .ge 102, 3) := by decide +kernel
theorem dX9_wayOf_42 : decode cX9_wayOf 42 = .ok (.iload 9, 2) := by decide +kernel
theorem dX9_wayOf_44 : decode cX9_wayOf 44 = .ok (.ifCond .ne 22, 3) := by decide +kernel
theorem dX9_wayOf_47 : decode cX9_wayOf 47 = .ok (.iload 10, 2) := by decide +kernel
theorem dX9_wayOf_49 : decode cX9_wayOf 49 = .ok (.iload 8, 2) := by decide +kernel
theorem dX9_wayOf_51 : decode cX9_wayOf 51 = .ok (.if_icmp .lt 19, 3) := by decide +kernel
theorem dX9_wayOf_54 : decode cX9_wayOf 54 = .ok (.aload_n 0, 1) := by decide +kernel
theorem dX9_wayOf_55 : decode cX9_wayOf 55 = .ok (.iload 4, 2) := by decide +kernel
theorem dX9_wayOf_57 : decode cX9_wayOf 57 = .ok (.iload_n 2, 1) := by decide +kernel
theorem dX9_wayOf_58 : decode cX9_wayOf 58 = .ok (.iload 10, 2) := by decide +kernel
theorem dX9_wayOf_60 : decode cX9_wayOf 60 = .ok (.invokevirtual 135, 3) := by decide +kernel
theorem dX9_wayOf_63 : decode cX9_wayOf 63 = .ok (.ifCond .eq 7, 3) := by decide +kernel
theorem dX9_wayOf_66 : decode cX9_wayOf 66 = .ok (.iconst 1, 1) := by decide +kernel
theorem dX9_wayOf_67 : decode cX9_wayOf 67 = .ok (.goto 4, 3) := by decide +kernel
theorem dX9_wayOf_70 : decode cX9_wayOf 70 = .ok (.iconst 0, 1) := by decide +kernel
theorem dX9_wayOf_71 : decode cX9_wayOf 71 = .ok (.istore 9, 2) := by decide +kernel
theorem dX9_wayOf_73 : decode cX9_wayOf 73 = .ok (.iload 9, 2) := by decide +kernel
theorem dX9_wayOf_75 : decode cX9_wayOf 75 = .ok (.ifCond .ne 60, 3) := by decide +kernel
theorem dX9_wayOf_78 : decode cX9_wayOf 78 = .ok (.lload 5, 2) := by decide +kernel
theorem dX9_wayOf_80 : decode cX9_wayOf 80 = .ok (.iload 10, 2) := by decide +kernel
theorem dX9_wayOf_82 : decode cX9_wayOf 82 = .ok (.iload_n 3, 1) := by decide +kernel
theorem dX9_wayOf_83 : decode cX9_wayOf 83 = .ok (.if_icmp .ge 24, 3) := by decide +kernel
theorem dX9_wayOf_86 : decode cX9_wayOf 86 = .ok (.aload_n 0, 1) := by decide +kernel
theorem dX9_wayOf_87 : decode cX9_wayOf 87 = .ok (.getfield 7, 3) := by decide +kernel
theorem dX9_wayOf_90 : decode cX9_wayOf 90 = .ok (.bipush 16, 2) := by decide +kernel
theorem dX9_wayOf_92 : decode cX9_wayOf 92 = .ok (.iconst 5, 1) := by decide +kernel
theorem dX9_wayOf_93 : decode cX9_wayOf 93 = .ok (.iload_n 1, 1) := by decide +kernel
theorem dX9_wayOf_94 : decode cX9_wayOf 94 = .ok (.imul, 1) := by decide +kernel
theorem dX9_wayOf_95 : decode cX9_wayOf 95 = .ok (.iadd, 1) := by decide +kernel
theorem dX9_wayOf_96 : decode cX9_wayOf 96 = .ok (.iconst 2, 1) := by decide +kernel
theorem dX9_wayOf_97 : decode cX9_wayOf 97 = .ok (.iadd, 1) := by decide +kernel
theorem dX9_wayOf_98 : decode cX9_wayOf 98 = .ok (.iaload, 1) := by decide +kernel
theorem dX9_wayOf_99 : decode cX9_wayOf 99 = .ok (.i2l, 1) := by decide +kernel
theorem dX9_wayOf_100 : decode cX9_wayOf 100 = .ok (.iload 7, 2) := by decide +kernel
theorem dX9_wayOf_102 : decode cX9_wayOf 102 = .ok (.i2l, 1) := by decide +kernel
theorem dX9_wayOf_103 : decode cX9_wayOf 103 = .ok (.lmul, 1) := by decide +kernel
theorem dX9_wayOf_104 : decode cX9_wayOf 104 = .ok (.goto 4, 3) := by decide +kernel
theorem dX9_wayOf_107 : decode cX9_wayOf 107 = .ok (.lconst 0, 1) := by decide +kernel
theorem dX9_wayOf_108 : decode cX9_wayOf 108 = .ok (.ladd, 1) := by decide +kernel
theorem dX9_wayOf_109 : decode cX9_wayOf 109 = .ok (.lstore 5, 2) := by decide +kernel
theorem dX9_wayOf_111 : decode cX9_wayOf 111 = .ok (.iload 7, 2) := by decide +kernel
theorem dX9_wayOf_113 : decode cX9_wayOf 113 = .ok (.i2l, 1) := by decide +kernel
theorem dX9_wayOf_114 : decode cX9_wayOf 114 = .ok (.sipush 1000, 3) := by decide +kernel
theorem dX9_wayOf_117 : decode cX9_wayOf 117 = .ok (.aload_n 0, 1) := by decide +kernel
theorem dX9_wayOf_118 : decode cX9_wayOf 118 = .ok (.iload_n 1, 1) := by decide +kernel
theorem dX9_wayOf_119 : decode cX9_wayOf 119 = .ok (.iload_n 2, 1) := by decide +kernel
theorem dX9_wayOf_120 : decode cX9_wayOf 120 = .ok (.iload 10, 2) := by decide +kernel
theorem dX9_wayOf_122 : decode cX9_wayOf 122 = .ok (.invokevirtual 141, 3) := by decide +kernel
theorem dX9_wayOf_125 : decode cX9_wayOf 125 = .ok (.isub, 1) := by decide +kernel
theorem dX9_wayOf_126 : decode cX9_wayOf 126 = .ok (.i2l, 1) := by decide +kernel
theorem dX9_wayOf_127 : decode cX9_wayOf 127 = .ok (.lmul, 1) := by decide +kernel
theorem dX9_wayOf_128 : decode cX9_wayOf 128 = .ok (.ldc2_w 166, 3) := by decide +kernel
theorem dX9_wayOf_131 : decode cX9_wayOf 131 = .ok (.ldiv, 1) := by decide +kernel
theorem dX9_wayOf_132 : decode cX9_wayOf 132 = .ok (.l2i, 1) := by decide +kernel
theorem dX9_wayOf_133 : decode cX9_wayOf 133 = .ok (.istore 7, 2) := by decide +kernel
theorem dX9_wayOf_135 : decode cX9_wayOf 135 = .ok (.iinc 10 1, 3) := by decide +kernel
theorem dX9_wayOf_138 : decode cX9_wayOf 138 = .ok (.goto (-103), 3) := by decide +kernel
theorem dX9_wayOf_141 : decode cX9_wayOf 141 = .ok (.lload 5, 2) := by decide +kernel
theorem dX9_wayOf_143 : decode cX9_wayOf 143 = .ok (.aload_n 0, 1) := by decide +kernel
theorem dX9_wayOf_144 : decode cX9_wayOf 144 = .ok (.getfield 7, 3) := by decide +kernel
theorem dX9_wayOf_147 : decode cX9_wayOf 147 = .ok (.bipush 16, 2) := by decide +kernel
theorem dX9_wayOf_149 : decode cX9_wayOf 149 = .ok (.iconst 5, 1) := by decide +kernel
theorem dX9_wayOf_150 : decode cX9_wayOf 150 = .ok (.iload_n 1, 1) := by decide +kernel
theorem dX9_wayOf_151 : decode cX9_wayOf 151 = .ok (.imul, 1) := by decide +kernel
theorem dX9_wayOf_152 : decode cX9_wayOf 152 = .ok (.iadd, 1) := by decide +kernel
theorem dX9_wayOf_153 : decode cX9_wayOf 153 = .ok (.iconst 3, 1) := by decide +kernel
theorem dX9_wayOf_154 : decode cX9_wayOf 154 = .ok (.iadd, 1) := by decide +kernel
theorem dX9_wayOf_155 : decode cX9_wayOf 155 = .ok (.iaload, 1) := by decide +kernel
theorem dX9_wayOf_156 : decode cX9_wayOf 156 = .ok (.i2l, 1) := by decide +kernel
theorem dX9_wayOf_157 : decode cX9_wayOf 157 = .ok (.ldc 157, 2) := by decide +kernel
theorem dX9_wayOf_159 : decode cX9_wayOf 159 = .ok (.iload 7, 2) := by decide +kernel
theorem dX9_wayOf_161 : decode cX9_wayOf 161 = .ok (.isub, 1) := by decide +kernel
theorem dX9_wayOf_162 : decode cX9_wayOf 162 = .ok (.i2l, 1) := by decide +kernel
theorem dX9_wayOf_163 : decode cX9_wayOf 163 = .ok (.lmul, 1) := by decide +kernel
theorem dX9_wayOf_164 : decode cX9_wayOf 164 = .ok (.lsub, 1) := by decide +kernel
theorem dX9_wayOf_165 : decode cX9_wayOf 165 = .ok (.lreturn, 1) := by decide +kernel
theorem dX9_laysAlone_0 : decode cX9_laysAlone 0 = .ok (.iconst 0, 1) := by decide +kernel
theorem dX9_laysAlone_1 : decode cX9_laysAlone 1 = .ok (.istore_n 2, 1) := by decide +kernel
theorem dX9_laysAlone_2 : decode cX9_laysAlone 2 = .ok (.iload_n 2, 1) := by decide +kernel
theorem dX9_laysAlone_3 : decode cX9_laysAlone 3 = .ok (.aload_n 0, 1) := by decide +kernel
theorem dX9_laysAlone_4 : decode cX9_laysAlone 4 = .ok (.getfield 7, 3) := by decide +kernel
theorem dX9_laysAlone_7 : decode cX9_laysAlone 7 = .ok (.sipush 185, 3) := by decide +kernel
theorem dX9_laysAlone_10 : decode cX9_laysAlone 10 = .ok (.iaload, 1) := by decide +kernel
theorem dX9_laysAlone_11 : decode cX9_laysAlone 11 = .ok (.if_icmp .ge 77, 3) := by decide +kernel
theorem dX9_laysAlone_14 : decode cX9_laysAlone 14 = .ok (.iconst 0, 1) := by decide +kernel
theorem dX9_laysAlone_15 : decode cX9_laysAlone 15 = .ok (.istore_n 3, 1) := by decide +kernel
theorem dX9_laysAlone_16 : decode cX9_laysAlone 16 = .ok (.iload_n 3, 1) := by decide +kernel
theorem dX9_laysAlone_17 : decode cX9_laysAlone 17 = .ok (.bipush 25, 2) := by decide +kernel
theorem dX9_laysAlone_19 : decode cX9_laysAlone 19 = .ok (.if_icmp .ge 63, 3) := by decide +kernel
theorem dX9_laysAlone_22 : decode cX9_laysAlone 22 = .ok (.iconst 0, 1) := by decide +kernel
theorem dX9_laysAlone_23 : decode cX9_laysAlone 23 = .ok (.istore 4, 2) := by decide +kernel
theorem dX9_laysAlone_25 : decode cX9_laysAlone 25 = .ok (.iload 4, 2) := by decide +kernel
theorem dX9_laysAlone_27 : decode cX9_laysAlone 27 = .ok (.aload_n 0, 1) := by decide +kernel
theorem dX9_laysAlone_28 : decode cX9_laysAlone 28 = .ok (.getfield 7, 3) := by decide +kernel
theorem dX9_laysAlone_31 : decode cX9_laysAlone 31 = .ok (.sipush 183, 3) := by decide +kernel
theorem dX9_laysAlone_34 : decode cX9_laysAlone 34 = .ok (.iaload, 1) := by decide +kernel
theorem dX9_laysAlone_35 : decode cX9_laysAlone 35 = .ok (.if_icmp .ge 41, 3) := by decide +kernel
theorem dX9_laysAlone_38 : decode cX9_laysAlone 38 = .ok (.aload_n 0, 1) := by decide +kernel
theorem dX9_laysAlone_39 : decode cX9_laysAlone 39 = .ok (.getfield 54, 3) := by decide +kernel
theorem dX9_laysAlone_42 : decode cX9_laysAlone 42 = .ok (.bipush 120, 2) := by decide +kernel
theorem dX9_laysAlone_44 : decode cX9_laysAlone 44 = .ok (.iload_n 2, 1) := by decide +kernel
theorem dX9_laysAlone_45 : decode cX9_laysAlone 45 = .ok (.imul, 1) := by decide +kernel
theorem dX9_laysAlone_46 : decode cX9_laysAlone 46 = .ok (.iconst 4, 1) := by decide +kernel
theorem dX9_laysAlone_47 : decode cX9_laysAlone 47 = .ok (.iload_n 3, 1) := by decide +kernel
theorem dX9_laysAlone_48 : decode cX9_laysAlone 48 = .ok (.imul, 1) := by decide +kernel
theorem dX9_laysAlone_49 : decode cX9_laysAlone 49 = .ok (.iadd, 1) := by decide +kernel
theorem dX9_laysAlone_50 : decode cX9_laysAlone 50 = .ok (.iload 4, 2) := by decide +kernel
theorem dX9_laysAlone_52 : decode cX9_laysAlone 52 = .ok (.iadd, 1) := by decide +kernel
theorem dX9_laysAlone_53 : decode cX9_laysAlone 53 = .ok (.aload_n 0, 1) := by decide +kernel
theorem dX9_laysAlone_54 : decode cX9_laysAlone 54 = .ok (.iload_n 2, 1) := by decide +kernel
theorem dX9_laysAlone_55 : decode cX9_laysAlone 55 = .ok (.invokevirtual 186, 3) := by decide +kernel
theorem dX9_laysAlone_58 : decode cX9_laysAlone 58 = .ok (.i2l, 1) := by decide +kernel
theorem dX9_laysAlone_59 : decode cX9_laysAlone 59 = .ok (.aload_n 0, 1) := by decide +kernel
theorem dX9_laysAlone_60 : decode cX9_laysAlone 60 = .ok (.iload_n 1, 1) := by decide +kernel
theorem dX9_laysAlone_61 : decode cX9_laysAlone 61 = .ok (.iload_n 2, 1) := by decide +kernel
theorem dX9_laysAlone_62 : decode cX9_laysAlone 62 = .ok (.iload_n 3, 1) := by decide +kernel
theorem dX9_laysAlone_63 : decode cX9_laysAlone 63 = .ok (.iload 4, 2) := by decide +kernel
theorem dX9_laysAlone_65 : decode cX9_laysAlone 65 = .ok (.invokevirtual 208, 3) := by decide +kernel
theorem dX9_laysAlone_68 : decode cX9_laysAlone 68 = .ok (.lmul, 1) := by decide +kernel
theorem dX9_laysAlone_69 : decode cX9_laysAlone 69 = .ok (.lastore, 1) := by decide +kernel
theorem dX9_laysAlone_70 : decode cX9_laysAlone 70 = .ok (.iinc 4 1, 3) := by decide +kernel
theorem dX9_laysAlone_73 : decode cX9_laysAlone 73 = .ok (.goto (-48), 3) := by decide +kernel
theorem dX9_laysAlone_76 : decode cX9_laysAlone 76 = .ok (.iinc 3 1, 3) := by decide +kernel
theorem dX9_laysAlone_79 : decode cX9_laysAlone 79 = .ok (.goto (-63), 3) := by decide +kernel
theorem dX9_laysAlone_82 : decode cX9_laysAlone 82 = .ok (.iinc 2 1, 3) := by decide +kernel
theorem dX9_laysAlone_85 : decode cX9_laysAlone 85 = .ok (.goto (-83), 3) := by decide +kernel
theorem dX9_laysAlone_88 : decode cX9_laysAlone 88 = .ok (.bipush 23, 2) := by decide +kernel
theorem dX9_laysAlone_90 : decode cX9_laysAlone 90 = .ok (.istore_n 2, 1) := by decide +kernel
theorem dX9_laysAlone_91 : decode cX9_laysAlone 91 = .ok (.iload_n 2, 1) := by decide +kernel
theorem dX9_laysAlone_92 : decode cX9_laysAlone 92 = .ok (.ifCond .lt 101, 3) := by decide +kernel
theorem dX9_laysAlone_95 : decode cX9_laysAlone 95 = .ok (.iconst 1, 1) := by decide +kernel
theorem dX9_laysAlone_96 : decode cX9_laysAlone 96 = .ok (.istore_n 3, 1) := by decide +kernel
theorem dX9_laysAlone_97 : decode cX9_laysAlone 97 = .ok (.iload_n 3, 1) := by decide +kernel
theorem dX9_laysAlone_98 : decode cX9_laysAlone 98 = .ok (.iconst 1, 1) := by decide +kernel
theorem dX9_laysAlone_99 : decode cX9_laysAlone 99 = .ok (.aload_n 0, 1) := by decide +kernel
theorem dX9_laysAlone_100 : decode cX9_laysAlone 100 = .ok (.getfield 7, 3) := by decide +kernel
theorem dX9_laysAlone_103 : decode cX9_laysAlone 103 = .ok (.sipush 185, 3) := by decide +kernel
theorem dX9_laysAlone_106 : decode cX9_laysAlone 106 = .ok (.iaload, 1) := by decide +kernel
theorem dX9_laysAlone_107 : decode cX9_laysAlone 107 = .ok (.ishl, 1) := by decide +kernel
theorem dX9_laysAlone_108 : decode cX9_laysAlone 108 = .ok (.if_icmp .ge 79, 3) := by decide +kernel
theorem dX9_laysAlone_111 : decode cX9_laysAlone 111 = .ok (.aload_n 0, 1) := by decide +kernel
theorem dX9_laysAlone_112 : decode cX9_laysAlone 112 = .ok (.iload_n 2, 1) := by decide +kernel
theorem dX9_laysAlone_113 : decode cX9_laysAlone 113 = .ok (.iload_n 3, 1) := by decide +kernel
theorem dX9_laysAlone_114 : decode cX9_laysAlone 114 = .ok (.invokevirtual 212, 3) := by decide +kernel
theorem dX9_laysAlone_117 : decode cX9_laysAlone 117 = .ok (.lstore 4, 2) := by decide +kernel
theorem dX9_laysAlone_119 : decode cX9_laysAlone 119 = .ok (.iconst 0, 1) := by decide +kernel
theorem dX9_laysAlone_120 : decode cX9_laysAlone 120 = .ok (.istore 6, 2) := by decide +kernel
theorem dX9_laysAlone_122 : decode cX9_laysAlone 122 = .ok (.iload 6, 2) := by decide +kernel
theorem dX9_laysAlone_124 : decode cX9_laysAlone 124 = .ok (.aload_n 0, 1) := by decide +kernel
theorem dX9_laysAlone_125 : decode cX9_laysAlone 125 = .ok (.getfield 7, 3) := by decide +kernel
theorem dX9_laysAlone_128 : decode cX9_laysAlone 128 = .ok (.sipush 183, 3) := by decide +kernel
theorem dX9_laysAlone_131 : decode cX9_laysAlone 131 = .ok (.iaload, 1) := by decide +kernel
theorem dX9_laysAlone_132 : decode cX9_laysAlone 132 = .ok (.if_icmp .ge 36, 3) := by decide +kernel
theorem dX9_laysAlone_135 : decode cX9_laysAlone 135 = .ok (.aload_n 0, 1) := by decide +kernel
theorem dX9_laysAlone_136 : decode cX9_laysAlone 136 = .ok (.iload_n 2, 1) := by decide +kernel
theorem dX9_laysAlone_137 : decode cX9_laysAlone 137 = .ok (.iload_n 3, 1) := by decide +kernel
theorem dX9_laysAlone_138 : decode cX9_laysAlone 138 = .ok (.iload 6, 2) := by decide +kernel
theorem dX9_laysAlone_140 : decode cX9_laysAlone 140 = .ok (.invokevirtual 216, 3) := by decide +kernel
theorem dX9_laysAlone_143 : decode cX9_laysAlone 143 = .ok (.lstore 7, 2) := by decide +kernel
theorem dX9_laysAlone_145 : decode cX9_laysAlone 145 = .ok (.lload 7, 2) := by decide +kernel
theorem dX9_laysAlone_147 : decode cX9_laysAlone 147 = .ok (.lload 4, 2) := by decide +kernel
theorem dX9_laysAlone_149 : decode cX9_laysAlone 149 = .ok (.lcmp, 1) := by decide +kernel
theorem dX9_laysAlone_150 : decode cX9_laysAlone 150 = .ok (.ifCond .le 8, 3) := by decide +kernel
theorem dX9_laysAlone_153 : decode cX9_laysAlone 153 = .ok (.lload 7, 2) := by decide +kernel
theorem dX9_laysAlone_155 : decode cX9_laysAlone 155 = .ok (.goto 5, 3) := by decide +kernel
theorem dX9_laysAlone_158 : decode cX9_laysAlone 158 = .ok (.lload 4, 2) := by decide +kernel
theorem dX9_laysAlone_160 : decode cX9_laysAlone 160 = .ok (.lstore 4, 2) := by decide +kernel
theorem dX9_laysAlone_162 : decode cX9_laysAlone 162 = .ok (.iinc 6 1, 3) := by decide +kernel
theorem dX9_laysAlone_165 : decode cX9_laysAlone 165 = .ok (.goto (-43), 3) := by decide +kernel
theorem dX9_laysAlone_168 : decode cX9_laysAlone 168 = .ok (.aload_n 0, 1) := by decide +kernel
theorem dX9_laysAlone_169 : decode cX9_laysAlone 169 = .ok (.getfield 57, 3) := by decide +kernel
theorem dX9_laysAlone_172 : decode cX9_laysAlone 172 = .ok (.bipush 16, 2) := by decide +kernel
theorem dX9_laysAlone_174 : decode cX9_laysAlone 174 = .ok (.iload_n 2, 1) := by decide +kernel
theorem dX9_laysAlone_175 : decode cX9_laysAlone 175 = .ok (.imul, 1) := by decide +kernel
theorem dX9_laysAlone_176 : decode cX9_laysAlone 176 = .ok (.iload_n 3, 1) := by decide +kernel
theorem dX9_laysAlone_177 : decode cX9_laysAlone 177 = .ok (.iadd, 1) := by decide +kernel
theorem dX9_laysAlone_178 : decode cX9_laysAlone 178 = .ok (.lload 4, 2) := by decide +kernel
theorem dX9_laysAlone_180 : decode cX9_laysAlone 180 = .ok (.lastore, 1) := by decide +kernel
theorem dX9_laysAlone_181 : decode cX9_laysAlone 181 = .ok (.iinc 3 1, 3) := by decide +kernel
theorem dX9_laysAlone_184 : decode cX9_laysAlone 184 = .ok (.goto (-87), 3) := by decide +kernel
theorem dX9_laysAlone_187 : decode cX9_laysAlone 187 = .ok (.iinc 2 (-1), 3) := by decide +kernel
theorem dX9_laysAlone_190 : decode cX9_laysAlone 190 = .ok (.goto (-99), 3) := by decide +kernel
theorem dX9_laysAlone_193 : decode cX9_laysAlone 193 = .ok (.return_, 1) := by decide +kernel
theorem dX9_running_0 : decode cX9_running 0 = .ok (.lconst 0, 1) := by decide +kernel
theorem dX9_running_1 : decode cX9_running 1 = .ok (.lstore 4, 2) := by decide +kernel
theorem dX9_running_3 : decode cX9_running 3 = .ok (.iconst 0, 1) := by decide +kernel
theorem dX9_running_4 : decode cX9_running 4 = .ok (.istore 6, 2) := by decide +kernel
theorem dX9_running_6 : decode cX9_running 6 = .ok (.iload 6, 2) := by decide +kernel
theorem dX9_running_8 : decode cX9_running 8 = .ok (.aload_n 0, 1) := by decide +kernel
theorem dX9_running_9 : decode cX9_running 9 = .ok (.getfield 7, 3) := by decide +kernel
theorem dX9_running_12 : decode cX9_running 12 = .ok (.sipush 185, 3) := by decide +kernel
theorem dX9_running_15 : decode cX9_running 15 = .ok (.iaload, 1) := by decide +kernel
theorem dX9_running_16 : decode cX9_running 16 = .ok (.if_icmp .ge 44, 3) := by decide +kernel
theorem dX9_running_19 : decode cX9_running 19 = .ok (.lload 4, 2) := by decide +kernel
theorem dX9_running_21 : decode cX9_running 21 = .ok (.iload_n 2, 1) := by decide +kernel
theorem dX9_running_22 : decode cX9_running 22 = .ok (.iload 6, 2) := by decide +kernel
theorem dX9_running_24 : decode cX9_running 24 = .ok (.ishr, 1) := by decide +kernel
theorem dX9_running_25 : decode cX9_running 25 = .ok (.iconst 1, 1) := by decide +kernel
theorem dX9_running_26 : decode cX9_running 26 = .ok (.iand, 1) := by decide +kernel
theorem dX9_running_27 : decode cX9_running 27 = .ok (.iconst 1, 1) := by decide +kernel
theorem dX9_running_28 : decode cX9_running 28 = .ok (.if_icmp .ne 22, 3) := by decide +kernel
theorem dX9_running_31 : decode cX9_running 31 = .ok (.aload_n 0, 1) := by decide +kernel
theorem dX9_running_32 : decode cX9_running 32 = .ok (.getfield 54, 3) := by decide +kernel
theorem dX9_running_35 : decode cX9_running 35 = .ok (.bipush 120, 2) := by decide +kernel
theorem dX9_running_37 : decode cX9_running 37 = .ok (.iload 6, 2) := by decide +kernel
theorem dX9_running_39 : decode cX9_running 39 = .ok (.imul, 1) := by decide +kernel
theorem dX9_running_40 : decode cX9_running 40 = .ok (.iconst 4, 1) := by decide +kernel
theorem dX9_running_41 : decode cX9_running 41 = .ok (.iload_n 1, 1) := by decide +kernel
theorem dX9_running_42 : decode cX9_running 42 = .ok (.imul, 1) := by decide +kernel
theorem dX9_running_43 : decode cX9_running 43 = .ok (.iadd, 1) := by decide +kernel
theorem dX9_running_44 : decode cX9_running 44 = .ok (.iload_n 3, 1) := by decide +kernel
theorem dX9_running_45 : decode cX9_running 45 = .ok (.iadd, 1) := by decide +kernel
theorem dX9_running_46 : decode cX9_running 46 = .ok (.laload, 1) := by decide +kernel
theorem dX9_running_47 : decode cX9_running 47 = .ok (.goto 4, 3) := by decide +kernel
theorem dX9_running_50 : decode cX9_running 50 = .ok (.lconst 0, 1) := by decide +kernel
theorem dX9_running_51 : decode cX9_running 51 = .ok (.ladd, 1) := by decide +kernel
theorem dX9_running_52 : decode cX9_running 52 = .ok (.lstore 4, 2) := by decide +kernel
theorem dX9_running_54 : decode cX9_running 54 = .ok (.iinc 6 1, 3) := by decide +kernel
theorem dX9_running_57 : decode cX9_running 57 = .ok (.goto (-51), 3) := by decide +kernel
theorem dX9_running_60 : decode cX9_running 60 = .ok (.lload 4, 2) := by decide +kernel
theorem dX9_running_62 : decode cX9_running 62 = .ok (.lreturn, 1) := by decide +kernel
theorem dX9_staying_0 : decode cX9_staying 0 = .ok (.iload_n 1, 1) := by decide +kernel
theorem dX9_staying_1 : decode cX9_staying 1 = .ok (.bipush 23, 2) := by decide +kernel
theorem dX9_staying_3 : decode cX9_staying 3 = .ok (.if_icmp .ne 14, 3) := by decide +kernel
theorem dX9_staying_6 : decode cX9_staying 6 = .ok (.aload_n 0, 1) := by decide +kernel
theorem dX9_staying_7 : decode cX9_staying 7 = .ok (.bipush 24, 2) := by decide +kernel
theorem dX9_staying_9 : decode cX9_staying 9 = .ok (.iload_n 2, 1) := by decide +kernel
theorem dX9_staying_10 : decode cX9_staying 10 = .ok (.iconst 0, 1) := by decide +kernel
theorem dX9_staying_11 : decode cX9_staying 11 = .ok (.invokevirtual 216, 3) := by decide +kernel
theorem dX9_staying_14 : decode cX9_staying 14 = .ok (.goto 11, 3) := by decide +kernel
theorem dX9_staying_17 : decode cX9_staying 17 = .ok (.aload_n 0, 1) := by decide +kernel
theorem dX9_staying_18 : decode cX9_staying 18 = .ok (.iload_n 1, 1) := by decide +kernel
theorem dX9_staying_19 : decode cX9_staying 19 = .ok (.iconst 1, 1) := by decide +kernel
theorem dX9_staying_20 : decode cX9_staying 20 = .ok (.iadd, 1) := by decide +kernel
theorem dX9_staying_21 : decode cX9_staying 21 = .ok (.iload_n 2, 1) := by decide +kernel
theorem dX9_staying_22 : decode cX9_staying 22 = .ok (.invokevirtual 220, 3) := by decide +kernel
theorem dX9_staying_25 : decode cX9_staying 25 = .ok (.lreturn, 1) := by decide +kernel
theorem dX9_seeing_0 : decode cX9_seeing 0 = .ok (.lconst 0, 1) := by decide +kernel
theorem dX9_seeing_1 : decode cX9_seeing 1 = .ok (.lstore_n 3, 1) := by decide +kernel
theorem dX9_seeing_2 : decode cX9_seeing 2 = .ok (.iconst 0, 1) := by decide +kernel
theorem dX9_seeing_3 : decode cX9_seeing 3 = .ok (.istore 5, 2) := by decide +kernel
theorem dX9_seeing_5 : decode cX9_seeing 5 = .ok (.iload 5, 2) := by decide +kernel
theorem dX9_seeing_7 : decode cX9_seeing 7 = .ok (.bipush 10, 2) := by decide +kernel
theorem dX9_seeing_9 : decode cX9_seeing 9 = .ok (.if_icmp .ge 93, 3) := by decide +kernel
theorem dX9_seeing_12 : decode cX9_seeing 12 = .ok (.iconst 0, 1) := by decide +kernel
theorem dX9_seeing_13 : decode cX9_seeing 13 = .ok (.istore 6, 2) := by decide +kernel
theorem dX9_seeing_15 : decode cX9_seeing 15 = .ok (.iconst 0, 1) := by decide +kernel
theorem dX9_seeing_16 : decode cX9_seeing 16 = .ok (.istore 7, 2) := by decide +kernel
theorem dX9_seeing_18 : decode cX9_seeing 18 = .ok (.iload 7, 2) := by decide +kernel
theorem dX9_seeing_20 : decode cX9_seeing 20 = .ok (.aload_n 0, 1) := by decide +kernel
theorem dX9_seeing_21 : decode cX9_seeing 21 = .ok (.getfield 7, 3) := by decide +kernel
theorem dX9_seeing_24 : decode cX9_seeing 24 = .ok (.sipush 185, 3) := by decide +kernel
theorem dX9_seeing_27 : decode cX9_seeing 27 = .ok (.iaload, 1) := by decide +kernel
theorem dX9_seeing_28 : decode cX9_seeing 28 = .ok (.if_icmp .ge 44, 3) := by decide +kernel
theorem dX9_seeing_31 : decode cX9_seeing 31 = .ok (.iload 6, 2) := by decide +kernel
theorem dX9_seeing_33 : decode cX9_seeing 33 = .ok (.iload_n 2, 1) := by decide +kernel
theorem dX9_seeing_34 : decode cX9_seeing 34 = .ok (.iload 7, 2) := by decide +kernel
theorem dX9_seeing_36 : decode cX9_seeing 36 = .ok (.ishr, 1) := by decide +kernel
theorem dX9_seeing_37 : decode cX9_seeing 37 = .ok (.iconst 1, 1) := by decide +kernel
theorem dX9_seeing_38 : decode cX9_seeing 38 = .ok (.iand, 1) := by decide +kernel
theorem dX9_seeing_39 : decode cX9_seeing 39 = .ok (.iconst 1, 1) := by decide +kernel
theorem dX9_seeing_40 : decode cX9_seeing 40 = .ok (.if_icmp .ne 22, 3) := by decide +kernel
theorem dX9_seeing_43 : decode cX9_seeing 43 = .ok (.aload_n 0, 1) := by decide +kernel
theorem dX9_seeing_44 : decode cX9_seeing 44 = .ok (.iload 7, 2) := by decide +kernel
theorem dX9_seeing_46 : decode cX9_seeing 46 = .ok (.iload_n 1, 1) := by decide +kernel
theorem dX9_seeing_47 : decode cX9_seeing 47 = .ok (.invokevirtual 129, 3) := by decide +kernel
theorem dX9_seeing_50 : decode cX9_seeing 50 = .ok (.iload 5, 2) := by decide +kernel
theorem dX9_seeing_52 : decode cX9_seeing 52 = .ok (.if_icmp .ne 10, 3) := by decide +kernel
theorem dX9_seeing_55 : decode cX9_seeing 55 = .ok (.iconst 1, 1) := by decide +kernel
theorem dX9_seeing_56 : decode cX9_seeing 56 = .ok (.iload 7, 2) := by decide +kernel
theorem dX9_seeing_58 : decode cX9_seeing 58 = .ok (.ishl, 1) := by decide +kernel
theorem dX9_seeing_59 : decode cX9_seeing 59 = .ok (.goto 4, 3) := by decide +kernel
theorem dX9_seeing_62 : decode cX9_seeing 62 = .ok (.iconst 0, 1) := by decide +kernel
theorem dX9_seeing_63 : decode cX9_seeing 63 = .ok (.ior, 1) := by decide +kernel
theorem dX9_seeing_64 : decode cX9_seeing 64 = .ok (.istore 6, 2) := by decide +kernel
theorem dX9_seeing_66 : decode cX9_seeing 66 = .ok (.iinc 7 1, 3) := by decide +kernel
theorem dX9_seeing_69 : decode cX9_seeing 69 = .ok (.goto (-51), 3) := by decide +kernel
theorem dX9_seeing_72 : decode cX9_seeing 72 = .ok (.lload_n 3, 1) := by decide +kernel
theorem dX9_seeing_73 : decode cX9_seeing 73 = .ok (.iload 6, 2) := by decide +kernel
theorem dX9_seeing_75 : decode cX9_seeing 75 = .ok (.ifCond .ne 7, 3) := by decide +kernel
theorem dX9_seeing_78 : decode cX9_seeing 78 = .ok (.lconst 0, 1) := by decide +kernel
theorem dX9_seeing_79 : decode cX9_seeing 79 = .ok (.goto 15, 3) := by decide +kernel
theorem dX9_seeing_82 : decode cX9_seeing 82 = .ok (.aload_n 0, 1) := by decide +kernel
theorem dX9_seeing_83 : decode cX9_seeing 83 = .ok (.getfield 57, 3) := by decide +kernel
theorem dX9_seeing_86 : decode cX9_seeing 86 = .ok (.bipush 16, 2) := by decide +kernel
theorem dX9_seeing_88 : decode cX9_seeing 88 = .ok (.iload_n 1, 1) := by decide +kernel
theorem dX9_seeing_89 : decode cX9_seeing 89 = .ok (.imul, 1) := by decide +kernel
theorem dX9_seeing_90 : decode cX9_seeing 90 = .ok (.iload 6, 2) := by decide +kernel
theorem dX9_seeing_92 : decode cX9_seeing 92 = .ok (.iadd, 1) := by decide +kernel
theorem dX9_seeing_93 : decode cX9_seeing 93 = .ok (.laload, 1) := by decide +kernel
theorem dX9_seeing_94 : decode cX9_seeing 94 = .ok (.ladd, 1) := by decide +kernel
theorem dX9_seeing_95 : decode cX9_seeing 95 = .ok (.lstore_n 3, 1) := by decide +kernel
theorem dX9_seeing_96 : decode cX9_seeing 96 = .ok (.iinc 5 1, 3) := by decide +kernel
theorem dX9_seeing_99 : decode cX9_seeing 99 = .ok (.goto (-94), 3) := by decide +kernel
theorem dX9_seeing_102 : decode cX9_seeing 102 = .ok (.lload_n 3, 1) := by decide +kernel
theorem dX9_seeing_103 : decode cX9_seeing 103 = .ok (.lreturn, 1) := by decide +kernel
theorem dX9_alone_0 : decode cX9_alone 0 = .ok (.aload_n 0, 1) := by decide +kernel
theorem dX9_alone_1 : decode cX9_alone 1 = .ok (.iconst 0, 1) := by decide +kernel
theorem dX9_alone_2 : decode cX9_alone 2 = .ok (.putfield 67, 3) := by decide +kernel
theorem dX9_alone_5 : decode cX9_alone 5 = .ok (.aload_n 0, 1) := by decide +kernel
theorem dX9_alone_6 : decode cX9_alone 6 = .ok (.iload_n 1, 1) := by decide +kernel
theorem dX9_alone_7 : decode cX9_alone 7 = .ok (.invokevirtual 138, 3) := by decide +kernel
theorem dX9_alone_10 : decode cX9_alone 10 = .ok (.ifCond .ne 7, 3) := by decide +kernel
theorem dX9_alone_13 : decode cX9_alone 13 = .ok (.ldc2_w 168, 3) := by decide +kernel
theorem dX9_alone_16 : decode cX9_alone 16 = .ok (.lreturn, 1) := by decide +kernel
theorem dX9_alone_17 : decode cX9_alone 17 = .ok (.aload_n 0, 1) := by decide +kernel
theorem dX9_alone_18 : decode cX9_alone 18 = .ok (.iload_n 1, 1) := by decide +kernel
theorem dX9_alone_19 : decode cX9_alone 19 = .ok (.invokevirtual 223, 3) := by decide +kernel
theorem dX9_alone_22 : decode cX9_alone 22 = .ok (.aload_n 0, 1) := by decide +kernel
theorem dX9_alone_23 : decode cX9_alone 23 = .ok (.iconst 0, 1) := by decide +kernel
theorem dX9_alone_24 : decode cX9_alone 24 = .ok (.iconst 1, 1) := by decide +kernel
theorem dX9_alone_25 : decode cX9_alone 25 = .ok (.aload_n 0, 1) := by decide +kernel
theorem dX9_alone_26 : decode cX9_alone 26 = .ok (.getfield 7, 3) := by decide +kernel
theorem dX9_alone_29 : decode cX9_alone 29 = .ok (.sipush 185, 3) := by decide +kernel
theorem dX9_alone_32 : decode cX9_alone 32 = .ok (.iaload, 1) := by decide +kernel
theorem dX9_alone_33 : decode cX9_alone 33 = .ok (.ishl, 1) := by decide +kernel
theorem dX9_alone_34 : decode cX9_alone 34 = .ok (.iconst 1, 1) := by decide +kernel
theorem dX9_alone_35 : decode cX9_alone 35 = .ok (.isub, 1) := by decide +kernel
theorem dX9_alone_36 : decode cX9_alone 36 = .ok (.invokevirtual 220, 3) := by decide +kernel
theorem dX9_alone_39 : decode cX9_alone 39 = .ok (.lreturn, 1) := by decide +kernel
theorem dX9_does_0 : decode cX9_does 0 = .ok (.aload_n 0, 1) := by decide +kernel
theorem dX9_does_1 : decode cX9_does 1 = .ok (.iconst 0, 1) := by decide +kernel
theorem dX9_does_2 : decode cX9_does 2 = .ok (.putfield 67, 3) := by decide +kernel
theorem dX9_does_5 : decode cX9_does 5 = .ok (.aload_n 0, 1) := by decide +kernel
theorem dX9_does_6 : decode cX9_does 6 = .ok (.iload_n 1, 1) := by decide +kernel
theorem dX9_does_7 : decode cX9_does 7 = .ok (.invokevirtual 138, 3) := by decide +kernel
theorem dX9_does_10 : decode cX9_does 10 = .ok (.ifCond .eq 33, 3) := by decide +kernel
theorem dX9_does_13 : decode cX9_does 13 = .ok (.iload_n 2, 1) := by decide +kernel
theorem dX9_does_14 : decode cX9_does 14 = .ok (.iconst 0, 1) := by decide +kernel
theorem dX9_does_15 : decode cX9_does 15 = .ok (.bipush 23, 2) := by decide +kernel
theorem dX9_does_17 : decode cX9_does 17 = .ok (.invokestatic 74, 3) := by decide +kernel
theorem dX9_does_20 : decode cX9_does 20 = .ok (.ifCond .eq 23, 3) := by decide +kernel
theorem dX9_does_23 : decode cX9_does 23 = .ok (.iload_n 3, 1) := by decide +kernel
theorem dX9_does_24 : decode cX9_does 24 = .ok (.iconst 1, 1) := by decide +kernel
theorem dX9_does_25 : decode cX9_does 25 = .ok (.iconst 1, 1) := by decide +kernel
theorem dX9_does_26 : decode cX9_does 26 = .ok (.aload_n 0, 1) := by decide +kernel
theorem dX9_does_27 : decode cX9_does 27 = .ok (.getfield 7, 3) := by decide +kernel
theorem dX9_does_30 : decode cX9_does 30 = .ok (.sipush 185, 3) := by decide +kernel
theorem dX9_does_33 : decode cX9_does 33 = .ok (.iaload, 1) := by decide +kernel
theorem dX9_does_34 : decode cX9_does 34 = .ok (.ishl, 1) := by decide +kernel
theorem dX9_does_35 : decode cX9_does 35 = .ok (.iconst 1, 1) := by decide +kernel
theorem dX9_does_36 : decode cX9_does 36 = .ok (.isub, 1) := by decide +kernel
theorem dX9_does_37 : decode cX9_does 37 = .ok (.invokestatic 74, 3) := by decide +kernel
theorem dX9_does_40 : decode cX9_does 40 = .ok (.ifCond .ne 5, 3) := by decide +kernel
theorem dX9_does_43 : decode cX9_does 43 = .ok (.iconst (-1), 1) := by decide +kernel
theorem dX9_does_44 : decode cX9_does 44 = .ok (.ireturn, 1) := by decide +kernel
theorem dX9_does_45 : decode cX9_does 45 = .ok (.aload_n 0, 1) := by decide +kernel
theorem dX9_does_46 : decode cX9_does 46 = .ok (.iload_n 1, 1) := by decide +kernel
theorem dX9_does_47 : decode cX9_does 47 = .ok (.invokevirtual 223, 3) := by decide +kernel
theorem dX9_does_50 : decode cX9_does 50 = .ok (.aload_n 0, 1) := by decide +kernel
theorem dX9_does_51 : decode cX9_does 51 = .ok (.iload_n 2, 1) := by decide +kernel
theorem dX9_does_52 : decode cX9_does 52 = .ok (.iload_n 3, 1) := by decide +kernel
theorem dX9_does_53 : decode cX9_does 53 = .ok (.invokevirtual 212, 3) := by decide +kernel
theorem dX9_does_56 : decode cX9_does 56 = .ok (.lstore 4, 2) := by decide +kernel
theorem dX9_does_58 : decode cX9_does 58 = .ok (.iconst 0, 1) := by decide +kernel
theorem dX9_does_59 : decode cX9_does 59 = .ok (.istore 6, 2) := by decide +kernel
theorem dX9_does_61 : decode cX9_does 61 = .ok (.iconst 0, 1) := by decide +kernel
theorem dX9_does_62 : decode cX9_does 62 = .ok (.istore 7, 2) := by decide +kernel
theorem dX9_does_64 : decode cX9_does 64 = .ok (.iload 7, 2) := by decide +kernel
theorem dX9_does_66 : decode cX9_does 66 = .ok (.aload_n 0, 1) := by decide +kernel
theorem dX9_does_67 : decode cX9_does 67 = .ok (.getfield 7, 3) := by decide +kernel
theorem dX9_does_70 : decode cX9_does 70 = .ok (.sipush 183, 3) := by decide +kernel
theorem dX9_does_73 : decode cX9_does 73 = .ok (.iaload, 1) := by decide +kernel
theorem dX9_does_74 : decode cX9_does 74 = .ok (.if_icmp .ge 39, 3) := by decide +kernel
theorem dX9_does_77 : decode cX9_does 77 = .ok (.aload_n 0, 1) := by decide +kernel
theorem dX9_does_78 : decode cX9_does 78 = .ok (.iload_n 2, 1) := by decide +kernel
theorem dX9_does_79 : decode cX9_does 79 = .ok (.iload_n 3, 1) := by decide +kernel
theorem dX9_does_80 : decode cX9_does 80 = .ok (.iload 7, 2) := by decide +kernel
theorem dX9_does_82 : decode cX9_does 82 = .ok (.invokevirtual 216, 3) := by decide +kernel
theorem dX9_does_85 : decode cX9_does 85 = .ok (.lload 4, 2) := by decide +kernel
theorem dX9_does_87 : decode cX9_does 87 = .ok (.lcmp, 1) := by decide +kernel
theorem dX9_does_88 : decode cX9_does 88 = .ok (.ifCond .le 19, 3) := by decide +kernel
theorem dX9_does_91 : decode cX9_does 91 = .ok (.aload_n 0, 1) := by decide +kernel
theorem dX9_does_92 : decode cX9_does 92 = .ok (.iload_n 2, 1) := by decide +kernel
theorem dX9_does_93 : decode cX9_does 93 = .ok (.iload_n 3, 1) := by decide +kernel
theorem dX9_does_94 : decode cX9_does 94 = .ok (.iload 7, 2) := by decide +kernel
theorem dX9_does_96 : decode cX9_does 96 = .ok (.invokevirtual 216, 3) := by decide +kernel
theorem dX9_does_99 : decode cX9_does 99 = .ok (.lstore 4, 2) := by decide +kernel
theorem dX9_does_101 : decode cX9_does 101 = .ok (.iconst 1, 1) := by decide +kernel
theorem dX9_does_102 : decode cX9_does 102 = .ok (.iload 7, 2) := by decide +kernel
theorem dX9_does_104 : decode cX9_does 104 = .ok (.iadd, 1) := by decide +kernel
theorem dX9_does_105 : decode cX9_does 105 = .ok (.istore 6, 2) := by decide +kernel
theorem dX9_does_107 : decode cX9_does 107 = .ok (.iinc 7 1, 3) := by decide +kernel
theorem dX9_does_110 : decode cX9_does 110 = .ok (.goto (-46), 3) := by decide +kernel
theorem dX9_does_113 : decode cX9_does 113 = .ok (.iload 6, 2) := by decide +kernel
theorem dX9_does_115 : decode cX9_does 115 = .ok (.ireturn, 1) := by decide +kernel
theorem dX9_betters_0 : decode cX9_betters 0 = .ok (.iload_n 2, 1) := by decide +kernel
theorem dX9_betters_1 : decode cX9_betters 1 = .ok (.ifCond .eq 7, 3) := by decide +kernel
theorem dX9_betters_4 : decode cX9_betters 4 = .ok (.iload_n 1, 1) := by decide +kernel
theorem dX9_betters_5 : decode cX9_betters 5 = .ok (.goto 4, 3) := by decide +kernel
theorem dX9_betters_8 : decode cX9_betters 8 = .ok (.iconst (-1), 1) := by decide +kernel
theorem dX9_betters_9 : decode cX9_betters 9 = .ok (.istore_n 3, 1) := by decide +kernel
theorem dX9_betters_10 : decode cX9_betters 10 = .ok (.aload_n 0, 1) := by decide +kernel
theorem dX9_betters_11 : decode cX9_betters 11 = .ok (.invokevirtual 170, 3) := by decide +kernel
theorem dX9_betters_14 : decode cX9_betters 14 = .ok (.aload_n 0, 1) := by decide +kernel
theorem dX9_betters_15 : decode cX9_betters 15 = .ok (.iconst 0, 1) := by decide +kernel
theorem dX9_betters_16 : decode cX9_betters 16 = .ok (.iload_n 3, 1) := by decide +kernel
theorem dX9_betters_17 : decode cX9_betters 17 = .ok (.invokevirtual 189, 3) := by decide +kernel
theorem dX9_betters_20 : decode cX9_betters 20 = .ok (.lstore 4, 2) := by decide +kernel
theorem dX9_betters_22 : decode cX9_betters 22 = .ok (.aload_n 0, 1) := by decide +kernel
theorem dX9_betters_23 : decode cX9_betters 23 = .ok (.getfield 22, 3) := by decide +kernel
theorem dX9_betters_26 : decode cX9_betters 26 = .ok (.iload_n 1, 1) := by decide +kernel
theorem dX9_betters_27 : decode cX9_betters 27 = .ok (.iaload, 1) := by decide +kernel
theorem dX9_betters_28 : decode cX9_betters 28 = .ok (.istore 6, 2) := by decide +kernel
theorem dX9_betters_30 : decode cX9_betters 30 = .ok (.aload_n 0, 1) := by decide +kernel
theorem dX9_betters_31 : decode cX9_betters 31 = .ok (.getfield 25, 3) := by decide +kernel
theorem dX9_betters_34 : decode cX9_betters 34 = .ok (.iload_n 1, 1) := by decide +kernel
theorem dX9_betters_35 : decode cX9_betters 35 = .ok (.iaload, 1) := by decide +kernel
theorem dX9_betters_36 : decode cX9_betters 36 = .ok (.istore 7, 2) := by decide +kernel
theorem dX9_betters_38 : decode cX9_betters 38 = .ok (.iconst 0, 1) := by decide +kernel
theorem dX9_betters_39 : decode cX9_betters 39 = .ok (.istore 8, 2) := by decide +kernel
theorem dX9_betters_41 : decode cX9_betters 41 = .ok (.iconst 0, 1) := by decide +kernel
theorem dX9_betters_42 : decode cX9_betters 42 = .ok (.istore 9, 2) := by decide +kernel
theorem dX9_betters_44 : decode cX9_betters 44 = .ok (.iload 9, 2) := by decide +kernel
theorem dX9_betters_46 : decode cX9_betters 46 = .ok (.bipush 25, 2) := by decide +kernel
theorem dX9_betters_48 : decode cX9_betters 48 = .ok (.if_icmp .ge 78, 3) := by decide +kernel
theorem dX9_betters_51 : decode cX9_betters 51 = .ok (.iconst 0, 1) := by decide +kernel
theorem dX9_betters_52 : decode cX9_betters 52 = .ok (.istore 10, 2) := by decide +kernel
theorem dX9_betters_54 : decode cX9_betters 54 = .ok (.iload 10, 2) := by decide +kernel
theorem dX9_betters_56 : decode cX9_betters 56 = .ok (.aload_n 0, 1) := by decide +kernel
theorem dX9_betters_57 : decode cX9_betters 57 = .ok (.getfield 7, 3) := by decide +kernel
theorem dX9_betters_60 : decode cX9_betters 60 = .ok (.sipush 183, 3) := by decide +kernel
theorem dX9_betters_63 : decode cX9_betters 63 = .ok (.iaload, 1) := by decide +kernel
theorem dX9_betters_64 : decode cX9_betters 64 = .ok (.if_icmp .ge 56, 3) := by decide +kernel
theorem dX9_betters_67 : decode cX9_betters 67 = .ok (.aload_n 0, 1) := by decide +kernel
theorem dX9_betters_68 : decode cX9_betters 68 = .ok (.getfield 22, 3) := by decide +kernel
theorem dX9_betters_71 : decode cX9_betters 71 = .ok (.iload_n 1, 1) := by decide +kernel
theorem dX9_betters_72 : decode cX9_betters 72 = .ok (.iload 9, 2) := by decide +kernel
theorem dX9_betters_74 : decode cX9_betters 74 = .ok (.iastore, 1) := by decide +kernel
theorem dX9_betters_75 : decode cX9_betters 75 = .ok (.aload_n 0, 1) := by decide +kernel
theorem dX9_betters_76 : decode cX9_betters 76 = .ok (.getfield 25, 3) := by decide +kernel
theorem dX9_betters_79 : decode cX9_betters 79 = .ok (.iload_n 1, 1) := by decide +kernel
theorem dX9_betters_80 : decode cX9_betters 80 = .ok (.iload 10, 2) := by decide +kernel
theorem dX9_betters_82 : decode cX9_betters 82 = .ok (.iastore, 1) := by decide +kernel
theorem dX9_betters_83 : decode cX9_betters 83 = .ok (.aload_n 0, 1) := by decide +kernel
theorem dX9_betters_84 : decode cX9_betters 84 = .ok (.iconst 0, 1) := by decide +kernel
theorem dX9_betters_85 : decode cX9_betters 85 = .ok (.iload_n 3, 1) := by decide +kernel
theorem dX9_betters_86 : decode cX9_betters 86 = .ok (.invokevirtual 189, 3) := by decide +kernel
theorem dX9_betters_89 : decode cX9_betters 89 = .ok (.lstore 11, 2) := by decide +kernel
theorem dX9_betters_91 : decode cX9_betters 91 = .ok (.lload 11, 2) := by decide +kernel
theorem dX9_betters_93 : decode cX9_betters 93 = .ok (.lload 4, 2) := by decide +kernel
theorem dX9_betters_95 : decode cX9_betters 95 = .ok (.lcmp, 1) := by decide +kernel
theorem dX9_betters_96 : decode cX9_betters 96 = .ok (.ifCond .le 18, 3) := by decide +kernel
theorem dX9_betters_99 : decode cX9_betters 99 = .ok (.lload 11, 2) := by decide +kernel
theorem dX9_betters_101 : decode cX9_betters 101 = .ok (.lstore 4, 2) := by decide +kernel
theorem dX9_betters_103 : decode cX9_betters 103 = .ok (.iload 9, 2) := by decide +kernel
theorem dX9_betters_105 : decode cX9_betters 105 = .ok (.istore 6, 2) := by decide +kernel
theorem dX9_betters_107 : decode cX9_betters 107 = .ok (.iload 10, 2) := by decide +kernel
theorem dX9_betters_109 : decode cX9_betters 109 = .ok (.istore 7, 2) := by decide +kernel
theorem dX9_betters_111 : decode cX9_betters 111 = .ok (.iconst 1, 1) := by decide +kernel
theorem dX9_betters_112 : decode cX9_betters 112 = .ok (.istore 8, 2) := by decide +kernel
theorem dX9_betters_114 : decode cX9_betters 114 = .ok (.iinc 10 1, 3) := by decide +kernel
theorem dX9_betters_117 : decode cX9_betters 117 = .ok (.goto (-63), 3) := by decide +kernel
theorem dX9_betters_120 : decode cX9_betters 120 = .ok (.iinc 9 1, 3) := by decide +kernel
theorem dX9_betters_123 : decode cX9_betters 123 = .ok (.goto (-79), 3) := by decide +kernel
theorem dX9_betters_126 : decode cX9_betters 126 = .ok (.aload_n 0, 1) := by decide +kernel
theorem dX9_betters_127 : decode cX9_betters 127 = .ok (.getfield 13, 3) := by decide +kernel
theorem dX9_betters_130 : decode cX9_betters 130 = .ok (.iconst 0, 1) := by decide +kernel
theorem dX9_betters_131 : decode cX9_betters 131 = .ok (.iconst 2, 1) := by decide +kernel
theorem dX9_betters_132 : decode cX9_betters 132 = .ok (.iload_n 1, 1) := by decide +kernel
theorem dX9_betters_133 : decode cX9_betters 133 = .ok (.imul, 1) := by decide +kernel
theorem dX9_betters_134 : decode cX9_betters 134 = .ok (.iadd, 1) := by decide +kernel
theorem dX9_betters_135 : decode cX9_betters 135 = .ok (.iload 6, 2) := by decide +kernel
theorem dX9_betters_137 : decode cX9_betters 137 = .ok (.iastore, 1) := by decide +kernel
theorem dX9_betters_138 : decode cX9_betters 138 = .ok (.aload_n 0, 1) := by decide +kernel
theorem dX9_betters_139 : decode cX9_betters 139 = .ok (.getfield 13, 3) := by decide +kernel
theorem dX9_betters_142 : decode cX9_betters 142 = .ok (.iconst 0, 1) := by decide +kernel
theorem dX9_betters_143 : decode cX9_betters 143 = .ok (.iconst 2, 1) := by decide +kernel
theorem dX9_betters_144 : decode cX9_betters 144 = .ok (.iload_n 1, 1) := by decide +kernel
theorem dX9_betters_145 : decode cX9_betters 145 = .ok (.imul, 1) := by decide +kernel
theorem dX9_betters_146 : decode cX9_betters 146 = .ok (.iadd, 1) := by decide +kernel
theorem dX9_betters_147 : decode cX9_betters 147 = .ok (.iconst 1, 1) := by decide +kernel
theorem dX9_betters_148 : decode cX9_betters 148 = .ok (.iadd, 1) := by decide +kernel
theorem dX9_betters_149 : decode cX9_betters 149 = .ok (.iload 7, 2) := by decide +kernel
theorem dX9_betters_151 : decode cX9_betters 151 = .ok (.iastore, 1) := by decide +kernel
theorem dX9_betters_152 : decode cX9_betters 152 = .ok (.iload 8, 2) := by decide +kernel
theorem dX9_betters_154 : decode cX9_betters 154 = .ok (.ireturn, 1) := by decide +kernel
theorem dX9_better_0 : decode cX9_better 0 = .ok (.aload_n 0, 1) := by decide +kernel
theorem dX9_better_1 : decode cX9_better 1 = .ok (.iconst 0, 1) := by decide +kernel
theorem dX9_better_2 : decode cX9_better 2 = .ok (.putfield 67, 3) := by decide +kernel
theorem dX9_better_5 : decode cX9_better 5 = .ok (.iconst 1, 1) := by decide +kernel
theorem dX9_better_6 : decode cX9_better 6 = .ok (.istore_n 2, 1) := by decide +kernel
theorem dX9_better_7 : decode cX9_better 7 = .ok (.iload_n 2, 1) := by decide +kernel
theorem dX9_better_8 : decode cX9_better 8 = .ok (.bipush 7, 2) := by decide +kernel
theorem dX9_better_10 : decode cX9_better 10 = .ok (.if_icmp .ge 49, 3) := by decide +kernel
theorem dX9_better_13 : decode cX9_better 13 = .ok (.iconst 0, 1) := by decide +kernel
theorem dX9_better_14 : decode cX9_better 14 = .ok (.istore_n 3, 1) := by decide +kernel
theorem dX9_better_15 : decode cX9_better 15 = .ok (.iconst 0, 1) := by decide +kernel
theorem dX9_better_16 : decode cX9_better 16 = .ok (.istore 4, 2) := by decide +kernel
theorem dX9_better_18 : decode cX9_better 18 = .ok (.iload 4, 2) := by decide +kernel
theorem dX9_better_20 : decode cX9_better 20 = .ok (.aload_n 0, 1) := by decide +kernel
theorem dX9_better_21 : decode cX9_better 21 = .ok (.getfield 7, 3) := by decide +kernel
theorem dX9_better_24 : decode cX9_better 24 = .ok (.sipush 184, 3) := by decide +kernel
theorem dX9_better_27 : decode cX9_better 27 = .ok (.iaload, 1) := by decide +kernel
theorem dX9_better_28 : decode cX9_better 28 = .ok (.if_icmp .ge 19, 3) := by decide +kernel
theorem dX9_better_31 : decode cX9_better 31 = .ok (.iload_n 3, 1) := by decide +kernel
theorem dX9_better_32 : decode cX9_better 32 = .ok (.aload_n 0, 1) := by decide +kernel
theorem dX9_better_33 : decode cX9_better 33 = .ok (.iload 4, 2) := by decide +kernel
theorem dX9_better_35 : decode cX9_better 35 = .ok (.iload_n 1, 1) := by decide +kernel
theorem dX9_better_36 : decode cX9_better 36 = .ok (.invokevirtual 226, 3) := by decide +kernel
theorem dX9_better_39 : decode cX9_better 39 = .ok (.ior, 1) := by decide +kernel
theorem dX9_better_40 : decode cX9_better 40 = .ok (.istore_n 3, 1) := by decide +kernel
theorem dX9_better_41 : decode cX9_better 41 = .ok (.iinc 4 1, 3) := by decide +kernel
theorem dX9_better_44 : decode cX9_better 44 = .ok (.goto (-26), 3) := by decide +kernel
theorem dX9_better_47 : decode cX9_better 47 = .ok (.iload_n 3, 1) := by decide +kernel
theorem dX9_better_48 : decode cX9_better 48 = .ok (.ifCond .ne 5, 3) := by decide +kernel
theorem dX9_better_51 : decode cX9_better 51 = .ok (.iload_n 2, 1) := by decide +kernel
theorem dX9_better_52 : decode cX9_better 52 = .ok (.ireturn, 1) := by decide +kernel
theorem dX9_better_53 : decode cX9_better 53 = .ok (.iinc 2 1, 3) := by decide +kernel
theorem dX9_better_56 : decode cX9_better 56 = .ok (.goto (-49), 3) := by decide +kernel
theorem dX9_better_59 : decode cX9_better 59 = .ok (.bipush (-4), 2) := by decide +kernel
theorem dX9_better_61 : decode cX9_better 61 = .ok (.ireturn, 1) := by decide +kernel
theorem dX9_gunAt_0 : decode cX9_gunAt 0 = .ok (.aload_n 0, 1) := by decide +kernel
theorem dX9_gunAt_1 : decode cX9_gunAt 1 = .ok (.invokevirtual 170, 3) := by decide +kernel
theorem dX9_gunAt_4 : decode cX9_gunAt 4 = .ok (.iconst 0, 1) := by decide +kernel
theorem dX9_gunAt_5 : decode cX9_gunAt 5 = .ok (.istore_n 2, 1) := by decide +kernel
theorem dX9_gunAt_6 : decode cX9_gunAt 6 = .ok (.iload_n 2, 1) := by decide +kernel
theorem dX9_gunAt_7 : decode cX9_gunAt 7 = .ok (.aload_n 0, 1) := by decide +kernel
theorem dX9_gunAt_8 : decode cX9_gunAt 8 = .ok (.getfield 7, 3) := by decide +kernel
theorem dX9_gunAt_11 : decode cX9_gunAt 11 = .ok (.sipush 184, 3) := by decide +kernel
theorem dX9_gunAt_14 : decode cX9_gunAt 14 = .ok (.iaload, 1) := by decide +kernel
theorem dX9_gunAt_15 : decode cX9_gunAt 15 = .ok (.if_icmp .ge 27, 3) := by decide +kernel
theorem dX9_gunAt_18 : decode cX9_gunAt 18 = .ok (.aload_n 0, 1) := by decide +kernel
theorem dX9_gunAt_19 : decode cX9_gunAt 19 = .ok (.getfield 22, 3) := by decide +kernel
theorem dX9_gunAt_22 : decode cX9_gunAt 22 = .ok (.iload_n 2, 1) := by decide +kernel
theorem dX9_gunAt_23 : decode cX9_gunAt 23 = .ok (.iload_n 1, 1) := by decide +kernel
theorem dX9_gunAt_24 : decode cX9_gunAt 24 = .ok (.iastore, 1) := by decide +kernel
theorem dX9_gunAt_25 : decode cX9_gunAt 25 = .ok (.aload_n 0, 1) := by decide +kernel
theorem dX9_gunAt_26 : decode cX9_gunAt 26 = .ok (.getfield 25, 3) := by decide +kernel
theorem dX9_gunAt_29 : decode cX9_gunAt 29 = .ok (.iload_n 2, 1) := by decide +kernel
theorem dX9_gunAt_30 : decode cX9_gunAt 30 = .ok (.aload_n 0, 1) := by decide +kernel
theorem dX9_gunAt_31 : decode cX9_gunAt 31 = .ok (.iload_n 2, 1) := by decide +kernel
theorem dX9_gunAt_32 : decode cX9_gunAt 32 = .ok (.invokevirtual 199, 3) := by decide +kernel
theorem dX9_gunAt_35 : decode cX9_gunAt 35 = .ok (.iastore, 1) := by decide +kernel
theorem dX9_gunAt_36 : decode cX9_gunAt 36 = .ok (.iinc 2 1, 3) := by decide +kernel
theorem dX9_gunAt_39 : decode cX9_gunAt 39 = .ok (.goto (-33), 3) := by decide +kernel
theorem dX9_gunAt_42 : decode cX9_gunAt 42 = .ok (.aload_n 0, 1) := by decide +kernel
theorem dX9_gunAt_43 : decode cX9_gunAt 43 = .ok (.iconst 0, 1) := by decide +kernel
theorem dX9_gunAt_44 : decode cX9_gunAt 44 = .ok (.iconst (-1), 1) := by decide +kernel
theorem dX9_gunAt_45 : decode cX9_gunAt 45 = .ok (.invokevirtual 189, 3) := by decide +kernel
theorem dX9_gunAt_48 : decode cX9_gunAt 48 = .ok (.lreturn, 1) := by decide +kernel
theorem dX9_gun_0 : decode cX9_gun 0 = .ok (.aload_n 0, 1) := by decide +kernel
theorem dX9_gun_1 : decode cX9_gun 1 = .ok (.iconst 0, 1) := by decide +kernel
theorem dX9_gun_2 : decode cX9_gun 2 = .ok (.putfield 67, 3) := by decide +kernel
theorem dX9_gun_5 : decode cX9_gun 5 = .ok (.iload_n 1, 1) := by decide +kernel
theorem dX9_gun_6 : decode cX9_gun 6 = .ok (.iconst 0, 1) := by decide +kernel
theorem dX9_gun_7 : decode cX9_gun 7 = .ok (.bipush 24, 2) := by decide +kernel
theorem dX9_gun_9 : decode cX9_gun 9 = .ok (.invokestatic 74, 3) := by decide +kernel
theorem dX9_gun_12 : decode cX9_gun 12 = .ok (.ifCond .eq 11, 3) := by decide +kernel
theorem dX9_gun_15 : decode cX9_gun 15 = .ok (.aload_n 0, 1) := by decide +kernel
theorem dX9_gun_16 : decode cX9_gun 16 = .ok (.iload_n 1, 1) := by decide +kernel
theorem dX9_gun_17 : decode cX9_gun 17 = .ok (.invokevirtual 230, 3) := by decide +kernel
theorem dX9_gun_20 : decode cX9_gun 20 = .ok (.goto 6, 3) := by decide +kernel
theorem dX9_gun_23 : decode cX9_gun 23 = .ok (.ldc2_w 168, 3) := by decide +kernel
theorem dX9_gun_26 : decode cX9_gun 26 = .ok (.lreturn, 1) := by decide +kernel
theorem dX9_bestGun_0 : decode cX9_bestGun 0 = .ok (.aload_n 0, 1) := by decide +kernel
theorem dX9_bestGun_1 : decode cX9_bestGun 1 = .ok (.iconst 0, 1) := by decide +kernel
theorem dX9_bestGun_2 : decode cX9_bestGun 2 = .ok (.putfield 67, 3) := by decide +kernel
theorem dX9_bestGun_5 : decode cX9_bestGun 5 = .ok (.iconst 0, 1) := by decide +kernel
theorem dX9_bestGun_6 : decode cX9_bestGun 6 = .ok (.istore_n 1, 1) := by decide +kernel
theorem dX9_bestGun_7 : decode cX9_bestGun 7 = .ok (.aload_n 0, 1) := by decide +kernel
theorem dX9_bestGun_8 : decode cX9_bestGun 8 = .ok (.iconst 0, 1) := by decide +kernel
theorem dX9_bestGun_9 : decode cX9_bestGun 9 = .ok (.invokevirtual 230, 3) := by decide +kernel
theorem dX9_bestGun_12 : decode cX9_bestGun 12 = .ok (.lstore_n 2, 1) := by decide +kernel
theorem dX9_bestGun_13 : decode cX9_bestGun 13 = .ok (.iconst 1, 1) := by decide +kernel
theorem dX9_bestGun_14 : decode cX9_bestGun 14 = .ok (.istore 4, 2) := by decide +kernel
theorem dX9_bestGun_16 : decode cX9_bestGun 16 = .ok (.iload 4, 2) := by decide +kernel
theorem dX9_bestGun_18 : decode cX9_bestGun 18 = .ok (.bipush 25, 2) := by decide +kernel
theorem dX9_bestGun_20 : decode cX9_bestGun 20 = .ok (.if_icmp .ge 45, 3) := by decide +kernel
theorem dX9_bestGun_23 : decode cX9_bestGun 23 = .ok (.aload_n 0, 1) := by decide +kernel
theorem dX9_bestGun_24 : decode cX9_bestGun 24 = .ok (.iload 4, 2) := by decide +kernel
theorem dX9_bestGun_26 : decode cX9_bestGun 26 = .ok (.invokevirtual 230, 3) := by decide +kernel
theorem dX9_bestGun_29 : decode cX9_bestGun 29 = .ok (.lstore 5, 2) := by decide +kernel
theorem dX9_bestGun_31 : decode cX9_bestGun 31 = .ok (.lload 5, 2) := by decide +kernel
theorem dX9_bestGun_33 : decode cX9_bestGun 33 = .ok (.lload_n 2, 1) := by decide +kernel
theorem dX9_bestGun_34 : decode cX9_bestGun 34 = .ok (.lcmp, 1) := by decide +kernel
theorem dX9_bestGun_35 : decode cX9_bestGun 35 = .ok (.ifCond .le 8, 3) := by decide +kernel
theorem dX9_bestGun_38 : decode cX9_bestGun 38 = .ok (.iload 4, 2) := by decide +kernel
theorem dX9_bestGun_40 : decode cX9_bestGun 40 = .ok (.goto 4, 3) := by decide +kernel
theorem dX9_bestGun_43 : decode cX9_bestGun 43 = .ok (.iload_n 1, 1) := by decide +kernel
theorem dX9_bestGun_44 : decode cX9_bestGun 44 = .ok (.istore_n 1, 1) := by decide +kernel
theorem dX9_bestGun_45 : decode cX9_bestGun 45 = .ok (.lload 5, 2) := by decide +kernel
theorem dX9_bestGun_47 : decode cX9_bestGun 47 = .ok (.lload_n 2, 1) := by decide +kernel
theorem dX9_bestGun_48 : decode cX9_bestGun 48 = .ok (.lcmp, 1) := by decide +kernel
theorem dX9_bestGun_49 : decode cX9_bestGun 49 = .ok (.ifCond .le 8, 3) := by decide +kernel
theorem dX9_bestGun_52 : decode cX9_bestGun 52 = .ok (.lload 5, 2) := by decide +kernel
theorem dX9_bestGun_54 : decode cX9_bestGun 54 = .ok (.goto 4, 3) := by decide +kernel
theorem dX9_bestGun_57 : decode cX9_bestGun 57 = .ok (.lload_n 2, 1) := by decide +kernel
theorem dX9_bestGun_58 : decode cX9_bestGun 58 = .ok (.lstore_n 2, 1) := by decide +kernel
theorem dX9_bestGun_59 : decode cX9_bestGun 59 = .ok (.iinc 4 1, 3) := by decide +kernel
theorem dX9_bestGun_62 : decode cX9_bestGun 62 = .ok (.goto (-46), 3) := by decide +kernel
theorem dX9_bestGun_65 : decode cX9_bestGun 65 = .ok (.iload_n 1, 1) := by decide +kernel
theorem dX9_bestGun_66 : decode cX9_bestGun 66 = .ok (.ireturn, 1) := by decide +kernel
theorem dX9_convoy_0 : decode cX9_convoy 0 = .ok (.aload_n 0, 1) := by decide +kernel
theorem dX9_convoy_1 : decode cX9_convoy 1 = .ok (.iconst 0, 1) := by decide +kernel
theorem dX9_convoy_2 : decode cX9_convoy 2 = .ok (.putfield 67, 3) := by decide +kernel
theorem dX9_convoy_5 : decode cX9_convoy 5 = .ok (.iload_n 1, 1) := by decide +kernel
theorem dX9_convoy_6 : decode cX9_convoy 6 = .ok (.iconst 1, 1) := by decide +kernel
theorem dX9_convoy_7 : decode cX9_convoy 7 = .ok (.iconst 1, 1) := by decide +kernel
theorem dX9_convoy_8 : decode cX9_convoy 8 = .ok (.aload_n 0, 1) := by decide +kernel
theorem dX9_convoy_9 : decode cX9_convoy 9 = .ok (.getfield 7, 3) := by decide +kernel
theorem dX9_convoy_12 : decode cX9_convoy 12 = .ok (.sipush 184, 3) := by decide +kernel
theorem dX9_convoy_15 : decode cX9_convoy 15 = .ok (.iaload, 1) := by decide +kernel
theorem dX9_convoy_16 : decode cX9_convoy 16 = .ok (.ishl, 1) := by decide +kernel
theorem dX9_convoy_17 : decode cX9_convoy 17 = .ok (.iconst 1, 1) := by decide +kernel
theorem dX9_convoy_18 : decode cX9_convoy 18 = .ok (.isub, 1) := by decide +kernel
theorem dX9_convoy_19 : decode cX9_convoy 19 = .ok (.invokestatic 74, 3) := by decide +kernel
theorem dX9_convoy_22 : decode cX9_convoy 22 = .ok (.ifCond .eq 21, 3) := by decide +kernel
theorem dX9_convoy_25 : decode cX9_convoy 25 = .ok (.iload_n 2, 1) := by decide +kernel
theorem dX9_convoy_26 : decode cX9_convoy 26 = .ok (.iconst 0, 1) := by decide +kernel
theorem dX9_convoy_27 : decode cX9_convoy 27 = .ok (.bipush 23, 2) := by decide +kernel
theorem dX9_convoy_29 : decode cX9_convoy 29 = .ok (.invokestatic 74, 3) := by decide +kernel
theorem dX9_convoy_32 : decode cX9_convoy 32 = .ok (.ifCond .eq 11, 3) := by decide +kernel
theorem dX9_convoy_35 : decode cX9_convoy 35 = .ok (.aload_n 0, 1) := by decide +kernel
theorem dX9_convoy_36 : decode cX9_convoy 36 = .ok (.iload_n 3, 1) := by decide +kernel
theorem dX9_convoy_37 : decode cX9_convoy 37 = .ok (.invokevirtual 132, 3) := by decide +kernel
theorem dX9_convoy_40 : decode cX9_convoy 40 = .ok (.ifCond .ne 7, 3) := by decide +kernel
theorem dX9_convoy_43 : decode cX9_convoy 43 = .ok (.ldc2_w 168, 3) := by decide +kernel
theorem dX9_convoy_46 : decode cX9_convoy 46 = .ok (.lreturn, 1) := by decide +kernel
theorem dX9_convoy_47 : decode cX9_convoy 47 = .ok (.aload_n 0, 1) := by decide +kernel
theorem dX9_convoy_48 : decode cX9_convoy 48 = .ok (.invokevirtual 170, 3) := by decide +kernel
theorem dX9_convoy_51 : decode cX9_convoy 51 = .ok (.bipush 9, 2) := by decide +kernel
theorem dX9_convoy_53 : decode cX9_convoy 53 = .ok (.istore 4, 2) := by decide +kernel
theorem dX9_convoy_55 : decode cX9_convoy 55 = .ok (.iconst 0, 1) := by decide +kernel
theorem dX9_convoy_56 : decode cX9_convoy 56 = .ok (.istore 5, 2) := by decide +kernel
theorem dX9_convoy_58 : decode cX9_convoy 58 = .ok (.iload 5, 2) := by decide +kernel
theorem dX9_convoy_60 : decode cX9_convoy 60 = .ok (.aload_n 0, 1) := by decide +kernel
theorem dX9_convoy_61 : decode cX9_convoy 61 = .ok (.getfield 7, 3) := by decide +kernel
theorem dX9_convoy_64 : decode cX9_convoy 64 = .ok (.sipush 184, 3) := by decide +kernel
theorem dX9_convoy_67 : decode cX9_convoy 67 = .ok (.iaload, 1) := by decide +kernel
theorem dX9_convoy_68 : decode cX9_convoy 68 = .ok (.if_icmp .ge 45, 3) := by decide +kernel
theorem dX9_convoy_71 : decode cX9_convoy 71 = .ok (.iload_n 1, 1) := by decide +kernel
theorem dX9_convoy_72 : decode cX9_convoy 72 = .ok (.iload 5, 2) := by decide +kernel
theorem dX9_convoy_74 : decode cX9_convoy 74 = .ok (.ishr, 1) := by decide +kernel
theorem dX9_convoy_75 : decode cX9_convoy 75 = .ok (.iconst 1, 1) := by decide +kernel
theorem dX9_convoy_76 : decode cX9_convoy 76 = .ok (.iand, 1) := by decide +kernel
theorem dX9_convoy_77 : decode cX9_convoy 77 = .ok (.iconst 1, 1) := by decide +kernel
theorem dX9_convoy_78 : decode cX9_convoy 78 = .ok (.if_icmp .ne 25, 3) := by decide +kernel
theorem dX9_convoy_81 : decode cX9_convoy 81 = .ok (.aload_n 0, 1) := by decide +kernel
theorem dX9_convoy_82 : decode cX9_convoy 82 = .ok (.getfield 28, 3) := by decide +kernel
theorem dX9_convoy_85 : decode cX9_convoy 85 = .ok (.iload 5, 2) := by decide +kernel
theorem dX9_convoy_87 : decode cX9_convoy 87 = .ok (.iaload, 1) := by decide +kernel
theorem dX9_convoy_88 : decode cX9_convoy 88 = .ok (.iload 4, 2) := by decide +kernel
theorem dX9_convoy_90 : decode cX9_convoy 90 = .ok (.if_icmp .ge 13, 3) := by decide +kernel
theorem dX9_convoy_93 : decode cX9_convoy 93 = .ok (.aload_n 0, 1) := by decide +kernel
theorem dX9_convoy_94 : decode cX9_convoy 94 = .ok (.getfield 28, 3) := by decide +kernel
theorem dX9_convoy_97 : decode cX9_convoy 97 = .ok (.iload 5, 2) := by decide +kernel
theorem dX9_convoy_99 : decode cX9_convoy 99 = .ok (.iaload, 1) := by decide +kernel
theorem dX9_convoy_100 : decode cX9_convoy 100 = .ok (.goto 5, 3) := by decide +kernel
theorem dX9_convoy_103 : decode cX9_convoy 103 = .ok (.iload 4, 2) := by decide +kernel
theorem dX9_convoy_105 : decode cX9_convoy 105 = .ok (.istore 4, 2) := by decide +kernel
theorem dX9_convoy_107 : decode cX9_convoy 107 = .ok (.iinc 5 1, 3) := by decide +kernel
theorem dX9_convoy_110 : decode cX9_convoy 110 = .ok (.goto (-52), 3) := by decide +kernel
theorem dX9_convoy_113 : decode cX9_convoy 113 = .ok (.iconst 0, 1) := by decide +kernel
theorem dX9_convoy_114 : decode cX9_convoy 114 = .ok (.istore 5, 2) := by decide +kernel
theorem dX9_convoy_116 : decode cX9_convoy 116 = .ok (.iload 5, 2) := by decide +kernel
theorem dX9_convoy_118 : decode cX9_convoy 118 = .ok (.aload_n 0, 1) := by decide +kernel
theorem dX9_convoy_119 : decode cX9_convoy 119 = .ok (.getfield 7, 3) := by decide +kernel
theorem dX9_convoy_122 : decode cX9_convoy 122 = .ok (.sipush 184, 3) := by decide +kernel
theorem dX9_convoy_125 : decode cX9_convoy 125 = .ok (.iaload, 1) := by decide +kernel
theorem dX9_convoy_126 : decode cX9_convoy 126 = .ok (.if_icmp .ge 96, 3) := by decide +kernel
theorem dX9_convoy_129 : decode cX9_convoy 129 = .ok (.iload_n 1, 1) := by decide +kernel
theorem dX9_convoy_130 : decode cX9_convoy 130 = .ok (.iload 5, 2) := by decide +kernel
theorem dX9_convoy_132 : decode cX9_convoy 132 = .ok (.ishr, 1) := by decide +kernel
theorem dX9_convoy_133 : decode cX9_convoy 133 = .ok (.iconst 1, 1) := by decide +kernel
theorem dX9_convoy_134 : decode cX9_convoy 134 = .ok (.iand, 1) := by decide +kernel
theorem dX9_convoy_135 : decode cX9_convoy 135 = .ok (.iconst 1, 1) := by decide +kernel
theorem dX9_convoy_136 : decode cX9_convoy 136 = .ok (.if_icmp .ne 7, 3) := by decide +kernel
theorem dX9_convoy_139 : decode cX9_convoy 139 = .ok (.iconst 1, 1) := by decide +kernel
theorem dX9_convoy_140 : decode cX9_convoy 140 = .ok (.goto 4, 3) := by decide +kernel
theorem dX9_convoy_143 : decode cX9_convoy 143 = .ok (.iconst 0, 1) := by decide +kernel
theorem dX9_convoy_144 : decode cX9_convoy 144 = .ok (.istore 6, 2) := by decide +kernel
theorem dX9_convoy_146 : decode cX9_convoy 146 = .ok (.aload_n 0, 1) := by decide +kernel
theorem dX9_convoy_147 : decode cX9_convoy 147 = .ok (.getfield 22, 3) := by decide +kernel
theorem dX9_convoy_150 : decode cX9_convoy 150 = .ok (.iload 5, 2) := by decide +kernel
theorem dX9_convoy_152 : decode cX9_convoy 152 = .ok (.iload 6, 2) := by decide +kernel
theorem dX9_convoy_154 : decode cX9_convoy 154 = .ok (.ifCond .eq 7, 3) := by decide +kernel
theorem dX9_convoy_157 : decode cX9_convoy 157 = .ok (.iload_n 2, 1) := by decide +kernel
theorem dX9_convoy_158 : decode cX9_convoy 158 = .ok (.goto 10, 3) := by decide +kernel
theorem dX9_convoy_161 : decode cX9_convoy 161 = .ok (.aload_n 0, 1) := by decide +kernel
theorem dX9_convoy_162 : decode cX9_convoy 162 = .ok (.getfield 22, 3) := by decide +kernel
theorem dX9_convoy_165 : decode cX9_convoy 165 = .ok (.iload 5, 2) := by decide +kernel
theorem dX9_convoy_167 : decode cX9_convoy 167 = .ok (.iaload, 1) := by decide +kernel
theorem dX9_convoy_168 : decode cX9_convoy 168 = .ok (.iastore, 1) := by decide +kernel
theorem dX9_convoy_169 : decode cX9_convoy 169 = .ok (.aload_n 0, 1) := by decide +kernel
theorem dX9_convoy_170 : decode cX9_convoy 170 = .ok (.getfield 25, 3) := by decide +kernel
theorem dX9_convoy_173 : decode cX9_convoy 173 = .ok (.iload 5, 2) := by decide +kernel
theorem dX9_convoy_175 : decode cX9_convoy 175 = .ok (.iload 6, 2) := by decide +kernel
theorem dX9_convoy_177 : decode cX9_convoy 177 = .ok (.ifCond .eq 7, 3) := by decide +kernel
theorem dX9_convoy_180 : decode cX9_convoy 180 = .ok (.iload_n 3, 1) := by decide +kernel
theorem dX9_convoy_181 : decode cX9_convoy 181 = .ok (.goto 10, 3) := by decide +kernel
theorem dX9_convoy_184 : decode cX9_convoy 184 = .ok (.aload_n 0, 1) := by decide +kernel
theorem dX9_convoy_185 : decode cX9_convoy 185 = .ok (.getfield 25, 3) := by decide +kernel
theorem dX9_convoy_188 : decode cX9_convoy 188 = .ok (.iload 5, 2) := by decide +kernel
theorem dX9_convoy_190 : decode cX9_convoy 190 = .ok (.iaload, 1) := by decide +kernel
theorem dX9_convoy_191 : decode cX9_convoy 191 = .ok (.iastore, 1) := by decide +kernel
theorem dX9_convoy_192 : decode cX9_convoy 192 = .ok (.aload_n 0, 1) := by decide +kernel
theorem dX9_convoy_193 : decode cX9_convoy 193 = .ok (.getfield 28, 3) := by decide +kernel
theorem dX9_convoy_196 : decode cX9_convoy 196 = .ok (.iload 5, 2) := by decide +kernel
theorem dX9_convoy_198 : decode cX9_convoy 198 = .ok (.iload 6, 2) := by decide +kernel
theorem dX9_convoy_200 : decode cX9_convoy 200 = .ok (.ifCond .eq 8, 3) := by decide +kernel
theorem dX9_convoy_203 : decode cX9_convoy 203 = .ok (.iload 4, 2) := by decide +kernel
theorem dX9_convoy_205 : decode cX9_convoy 205 = .ok (.goto 10, 3) := by decide +kernel
theorem dX9_convoy_208 : decode cX9_convoy 208 = .ok (.aload_n 0, 1) := by decide +kernel
theorem dX9_convoy_209 : decode cX9_convoy 209 = .ok (.getfield 28, 3) := by decide +kernel
theorem dX9_convoy_212 : decode cX9_convoy 212 = .ok (.iload 5, 2) := by decide +kernel
theorem dX9_convoy_214 : decode cX9_convoy 214 = .ok (.iaload, 1) := by decide +kernel
theorem dX9_convoy_215 : decode cX9_convoy 215 = .ok (.iastore, 1) := by decide +kernel
theorem dX9_convoy_216 : decode cX9_convoy 216 = .ok (.iinc 5 1, 3) := by decide +kernel
theorem dX9_convoy_219 : decode cX9_convoy 219 = .ok (.goto (-103), 3) := by decide +kernel
theorem dX9_convoy_222 : decode cX9_convoy 222 = .ok (.aload_n 0, 1) := by decide +kernel
theorem dX9_convoy_223 : decode cX9_convoy 223 = .ok (.iconst 0, 1) := by decide +kernel
theorem dX9_convoy_224 : decode cX9_convoy 224 = .ok (.iconst (-1), 1) := by decide +kernel
theorem dX9_convoy_225 : decode cX9_convoy 225 = .ok (.invokevirtual 189, 3) := by decide +kernel
theorem dX9_convoy_228 : decode cX9_convoy 228 = .ok (.lreturn, 1) := by decide +kernel
theorem dX9_first_0 : decode cX9_first 0 = .ok (.aload_n 0, 1) := by decide +kernel
theorem dX9_first_1 : decode cX9_first 1 = .ok (.iconst 0, 1) := by decide +kernel
theorem dX9_first_2 : decode cX9_first 2 = .ok (.putfield 67, 3) := by decide +kernel
theorem dX9_first_5 : decode cX9_first 5 = .ok (.aload_n 0, 1) := by decide +kernel
theorem dX9_first_6 : decode cX9_first 6 = .ok (.invokevirtual 170, 3) := by decide +kernel
theorem dX9_first_9 : decode cX9_first 9 = .ok (.aload_n 0, 1) := by decide +kernel
theorem dX9_first_10 : decode cX9_first 10 = .ok (.iconst 1, 1) := by decide +kernel
theorem dX9_first_11 : decode cX9_first 11 = .ok (.iconst (-1), 1) := by decide +kernel
theorem dX9_first_12 : decode cX9_first 12 = .ok (.invokevirtual 189, 3) := by decide +kernel
theorem dX9_first_15 : decode cX9_first 15 = .ok (.lreturn, 1) := by decide +kernel
theorem dX9_night_0 : decode cX9_night 0 = .ok (.aload_n 0, 1) := by decide +kernel
theorem dX9_night_1 : decode cX9_night 1 = .ok (.iconst 0, 1) := by decide +kernel
theorem dX9_night_2 : decode cX9_night 2 = .ok (.putfield 67, 3) := by decide +kernel
theorem dX9_night_5 : decode cX9_night 5 = .ok (.iload_n 1, 1) := by decide +kernel
theorem dX9_night_6 : decode cX9_night 6 = .ok (.iconst 0, 1) := by decide +kernel
theorem dX9_night_7 : decode cX9_night 7 = .ok (.sipush 9999, 3) := by decide +kernel
theorem dX9_night_10 : decode cX9_night 10 = .ok (.invokestatic 74, 3) := by decide +kernel
theorem dX9_night_13 : decode cX9_night 13 = .ok (.ifCond .eq 19, 3) := by decide +kernel
theorem dX9_night_16 : decode cX9_night 16 = .ok (.iload_n 2, 1) := by decide +kernel
theorem dX9_night_17 : decode cX9_night 17 = .ok (.invokestatic 202, 3) := by decide +kernel
theorem dX9_night_20 : decode cX9_night 20 = .ok (.ifCond .eq 12, 3) := by decide +kernel
theorem dX9_night_23 : decode cX9_night 23 = .ok (.iload_n 3, 1) := by decide +kernel
theorem dX9_night_24 : decode cX9_night 24 = .ok (.iconst 0, 1) := by decide +kernel
theorem dX9_night_25 : decode cX9_night 25 = .ok (.iconst 1, 1) := by decide +kernel
theorem dX9_night_26 : decode cX9_night 26 = .ok (.invokestatic 74, 3) := by decide +kernel
theorem dX9_night_29 : decode cX9_night 29 = .ok (.ifCond .ne 7, 3) := by decide +kernel
theorem dX9_night_32 : decode cX9_night 32 = .ok (.ldc2_w 168, 3) := by decide +kernel
theorem dX9_night_35 : decode cX9_night 35 = .ok (.lreturn, 1) := by decide +kernel
theorem dX9_night_36 : decode cX9_night 36 = .ok (.ldc2_w 234, 3) := by decide +kernel
theorem dX9_night_39 : decode cX9_night 39 = .ok (.iload_n 1, 1) := by decide +kernel
theorem dX9_night_40 : decode cX9_night 40 = .ok (.i2l, 1) := by decide +kernel
theorem dX9_night_41 : decode cX9_night 41 = .ok (.lmul, 1) := by decide +kernel
theorem dX9_night_42 : decode cX9_night 42 = .ok (.lconst 1, 1) := by decide +kernel
theorem dX9_night_43 : decode cX9_night 43 = .ok (.ladd, 1) := by decide +kernel
theorem dX9_night_44 : decode cX9_night 44 = .ok (.lstore 4, 2) := by decide +kernel
theorem dX9_night_46 : decode cX9_night 46 = .ok (.lload 4, 2) := by decide +kernel
theorem dX9_night_48 : decode cX9_night 48 = .ok (.lload 4, 2) := by decide +kernel
theorem dX9_night_50 : decode cX9_night 50 = .ok (.lmul, 1) := by decide +kernel
theorem dX9_night_51 : decode cX9_night 51 = .ok (.ldc2_w 236, 3) := by decide +kernel
theorem dX9_night_54 : decode cX9_night 54 = .ok (.lrem, 1) := by decide +kernel
theorem dX9_night_55 : decode cX9_night 55 = .ok (.ldc2_w 238, 3) := by decide +kernel
theorem dX9_night_58 : decode cX9_night 58 = .ok (.lrem, 1) := by decide +kernel
theorem dX9_night_59 : decode cX9_night 59 = .ok (.l2i, 1) := by decide +kernel
theorem dX9_night_60 : decode cX9_night 60 = .ok (.istore 6, 2) := by decide +kernel
theorem dX9_night_62 : decode cX9_night 62 = .ok (.iconst 0, 1) := by decide +kernel
theorem dX9_night_63 : decode cX9_night 63 = .ok (.istore 7, 2) := by decide +kernel
theorem dX9_night_65 : decode cX9_night 65 = .ok (.aload_n 0, 1) := by decide +kernel
theorem dX9_night_66 : decode cX9_night 66 = .ok (.iconst 0, 1) := by decide +kernel
theorem dX9_night_67 : decode cX9_night 67 = .ok (.invokevirtual 186, 3) := by decide +kernel
theorem dX9_night_70 : decode cX9_night 70 = .ok (.istore 8, 2) := by decide +kernel
theorem dX9_night_72 : decode cX9_night 72 = .ok (.iload 6, 2) := by decide +kernel
theorem dX9_night_74 : decode cX9_night 74 = .ok (.iload 8, 2) := by decide +kernel
theorem dX9_night_76 : decode cX9_night 76 = .ok (.if_icmp .lt 20, 3) := by decide +kernel
theorem dX9_night_79 : decode cX9_night 79 = .ok (.iinc 7 1, 3) := by decide +kernel
theorem dX9_night_82 : decode cX9_night 82 = .ok (.iload 8, 2) := by decide +kernel
theorem dX9_night_84 : decode cX9_night 84 = .ok (.aload_n 0, 1) := by decide +kernel
theorem dX9_night_85 : decode cX9_night 85 = .ok (.iload 7, 2) := by decide +kernel
theorem dX9_night_87 : decode cX9_night 87 = .ok (.invokevirtual 186, 3) := by decide +kernel
theorem dX9_night_90 : decode cX9_night 90 = .ok (.iadd, 1) := by decide +kernel
theorem dX9_night_91 : decode cX9_night 91 = .ok (.istore 8, 2) := by decide +kernel
theorem dX9_night_93 : decode cX9_night 93 = .ok (.goto (-21), 3) := by decide +kernel
theorem dX9_night_96 : decode cX9_night 96 = .ok (.iload_n 3, 1) := by decide +kernel
theorem dX9_night_97 : decode cX9_night 97 = .ok (.ifCond .ne 7, 3) := by decide +kernel
theorem dX9_night_100 : decode cX9_night 100 = .ok (.iload 7, 2) := by decide +kernel
theorem dX9_night_102 : decode cX9_night 102 = .ok (.i2l, 1) := by decide +kernel
theorem dX9_night_103 : decode cX9_night 103 = .ok (.lreturn, 1) := by decide +kernel
theorem dX9_night_104 : decode cX9_night 104 = .ok (.aload_n 0, 1) := by decide +kernel
theorem dX9_night_105 : decode cX9_night 105 = .ok (.iload_n 2, 1) := by decide +kernel
theorem dX9_night_106 : decode cX9_night 106 = .ok (.iload 7, 2) := by decide +kernel
theorem dX9_night_108 : decode cX9_night 108 = .ok (.invokevirtual 205, 3) := by decide +kernel
theorem dX9_night_111 : decode cX9_night 111 = .ok (.aload_n 0, 1) := by decide +kernel
theorem dX9_night_112 : decode cX9_night 112 = .ok (.iload 7, 2) := by decide +kernel
theorem dX9_night_114 : decode cX9_night 114 = .ok (.iconst 0, 1) := by decide +kernel
theorem dX9_night_115 : decode cX9_night 115 = .ok (.invokevirtual 173, 3) := by decide +kernel
theorem dX9_night_118 : decode cX9_night 118 = .ok (.lreturn, 1) := by decide +kernel
theorem dX9_keep_0 : decode cX9_keep 0 = .ok (.aload_n 0, 1) := by decide +kernel
theorem dX9_keep_1 : decode cX9_keep 1 = .ok (.iconst 0, 1) := by decide +kernel
theorem dX9_keep_2 : decode cX9_keep 2 = .ok (.putfield 67, 3) := by decide +kernel
theorem dX9_keep_5 : decode cX9_keep 5 = .ok (.aload_n 0, 1) := by decide +kernel
theorem dX9_keep_6 : decode cX9_keep 6 = .ok (.getfield 71, 3) := by decide +kernel
theorem dX9_keep_9 : decode cX9_keep 9 = .ok (.iconst 2, 1) := by decide +kernel
theorem dX9_keep_10 : decode cX9_keep 10 = .ok (.if_icmp .ne 6, 3) := by decide +kernel
theorem dX9_keep_13 : decode cX9_keep 13 = .ok (.bipush (-3), 2) := by decide +kernel
theorem dX9_keep_15 : decode cX9_keep 15 = .ok (.ireturn, 1) := by decide +kernel
theorem dX9_keep_16 : decode cX9_keep 16 = .ok (.iconst 0, 1) := by decide +kernel
theorem dX9_keep_17 : decode cX9_keep 17 = .ok (.istore_n 1, 1) := by decide +kernel
theorem dX9_keep_18 : decode cX9_keep 18 = .ok (.iload_n 1, 1) := by decide +kernel
theorem dX9_keep_19 : decode cX9_keep 19 = .ok (.bipush 12, 2) := by decide +kernel
theorem dX9_keep_21 : decode cX9_keep 21 = .ok (.if_icmp .ge 29, 3) := by decide +kernel
theorem dX9_keep_24 : decode cX9_keep 24 = .ok (.aload_n 0, 1) := by decide +kernel
theorem dX9_keep_25 : decode cX9_keep 25 = .ok (.getfield 16, 3) := by decide +kernel
theorem dX9_keep_28 : decode cX9_keep 28 = .ok (.bipush 12, 2) := by decide +kernel
theorem dX9_keep_30 : decode cX9_keep 30 = .ok (.aload_n 0, 1) := by decide +kernel
theorem dX9_keep_31 : decode cX9_keep 31 = .ok (.getfield 71, 3) := by decide +kernel
theorem dX9_keep_34 : decode cX9_keep 34 = .ok (.imul, 1) := by decide +kernel
theorem dX9_keep_35 : decode cX9_keep 35 = .ok (.iload_n 1, 1) := by decide +kernel
theorem dX9_keep_36 : decode cX9_keep 36 = .ok (.iadd, 1) := by decide +kernel
theorem dX9_keep_37 : decode cX9_keep 37 = .ok (.aload_n 0, 1) := by decide +kernel
theorem dX9_keep_38 : decode cX9_keep 38 = .ok (.getfield 13, 3) := by decide +kernel
theorem dX9_keep_41 : decode cX9_keep 41 = .ok (.iload_n 1, 1) := by decide +kernel
theorem dX9_keep_42 : decode cX9_keep 42 = .ok (.iaload, 1) := by decide +kernel
theorem dX9_keep_43 : decode cX9_keep 43 = .ok (.iastore, 1) := by decide +kernel
theorem dX9_keep_44 : decode cX9_keep 44 = .ok (.iinc 1 1, 3) := by decide +kernel
theorem dX9_keep_47 : decode cX9_keep 47 = .ok (.goto (-29), 3) := by decide +kernel
theorem dX9_keep_50 : decode cX9_keep 50 = .ok (.aload_n 0, 1) := by decide +kernel
theorem dX9_keep_51 : decode cX9_keep 51 = .ok (.dup, 1) := by decide +kernel
theorem dX9_keep_52 : decode cX9_keep 52 = .ok (.getfield 71, 3) := by decide +kernel
theorem dX9_keep_55 : decode cX9_keep 55 = .ok (.iconst 1, 1) := by decide +kernel
theorem dX9_keep_56 : decode cX9_keep 56 = .ok (.iadd, 1) := by decide +kernel
theorem dX9_keep_57 : decode cX9_keep 57 = .ok (.putfield 71, 3) := by decide +kernel
theorem dX9_keep_60 : decode cX9_keep 60 = .ok (.aload_n 0, 1) := by decide +kernel
theorem dX9_keep_61 : decode cX9_keep 61 = .ok (.getfield 71, 3) := by decide +kernel
theorem dX9_keep_64 : decode cX9_keep 64 = .ok (.ireturn, 1) := by decide +kernel
theorem dX9_back_0 : decode cX9_back 0 = .ok (.aload_n 0, 1) := by decide +kernel
theorem dX9_back_1 : decode cX9_back 1 = .ok (.iconst 0, 1) := by decide +kernel
theorem dX9_back_2 : decode cX9_back 2 = .ok (.putfield 67, 3) := by decide +kernel
theorem dX9_back_5 : decode cX9_back 5 = .ok (.aload_n 0, 1) := by decide +kernel
theorem dX9_back_6 : decode cX9_back 6 = .ok (.getfield 71, 3) := by decide +kernel
theorem dX9_back_9 : decode cX9_back 9 = .ok (.ifCond .ne 6, 3) := by decide +kernel
theorem dX9_back_12 : decode cX9_back 12 = .ok (.bipush (-2), 2) := by decide +kernel
theorem dX9_back_14 : decode cX9_back 14 = .ok (.ireturn, 1) := by decide +kernel
theorem dX9_back_15 : decode cX9_back 15 = .ok (.aload_n 0, 1) := by decide +kernel
theorem dX9_back_16 : decode cX9_back 16 = .ok (.dup, 1) := by decide +kernel
theorem dX9_back_17 : decode cX9_back 17 = .ok (.getfield 71, 3) := by decide +kernel
theorem dX9_back_20 : decode cX9_back 20 = .ok (.iconst 1, 1) := by decide +kernel
theorem dX9_back_21 : decode cX9_back 21 = .ok (.isub, 1) := by decide +kernel
theorem dX9_back_22 : decode cX9_back 22 = .ok (.putfield 71, 3) := by decide +kernel
theorem dX9_back_25 : decode cX9_back 25 = .ok (.iconst 0, 1) := by decide +kernel
theorem dX9_back_26 : decode cX9_back 26 = .ok (.istore_n 1, 1) := by decide +kernel
theorem dX9_back_27 : decode cX9_back 27 = .ok (.iload_n 1, 1) := by decide +kernel
theorem dX9_back_28 : decode cX9_back 28 = .ok (.bipush 12, 2) := by decide +kernel
theorem dX9_back_30 : decode cX9_back 30 = .ok (.if_icmp .ge 29, 3) := by decide +kernel
theorem dX9_back_33 : decode cX9_back 33 = .ok (.aload_n 0, 1) := by decide +kernel
theorem dX9_back_34 : decode cX9_back 34 = .ok (.getfield 13, 3) := by decide +kernel
theorem dX9_back_37 : decode cX9_back 37 = .ok (.iload_n 1, 1) := by decide +kernel
theorem dX9_back_38 : decode cX9_back 38 = .ok (.aload_n 0, 1) := by decide +kernel
theorem dX9_back_39 : decode cX9_back 39 = .ok (.getfield 16, 3) := by decide +kernel
theorem dX9_back_42 : decode cX9_back 42 = .ok (.bipush 12, 2) := by decide +kernel
theorem dX9_back_44 : decode cX9_back 44 = .ok (.aload_n 0, 1) := by decide +kernel
theorem dX9_back_45 : decode cX9_back 45 = .ok (.getfield 71, 3) := by decide +kernel
theorem dX9_back_48 : decode cX9_back 48 = .ok (.imul, 1) := by decide +kernel
theorem dX9_back_49 : decode cX9_back 49 = .ok (.iload_n 1, 1) := by decide +kernel
theorem dX9_back_50 : decode cX9_back 50 = .ok (.iadd, 1) := by decide +kernel
theorem dX9_back_51 : decode cX9_back 51 = .ok (.iaload, 1) := by decide +kernel
theorem dX9_back_52 : decode cX9_back 52 = .ok (.iastore, 1) := by decide +kernel
theorem dX9_back_53 : decode cX9_back 53 = .ok (.iinc 1 1, 3) := by decide +kernel
theorem dX9_back_56 : decode cX9_back 56 = .ok (.goto (-29), 3) := by decide +kernel
theorem dX9_back_59 : decode cX9_back 59 = .ok (.aload_n 0, 1) := by decide +kernel
theorem dX9_back_60 : decode cX9_back 60 = .ok (.getfield 71, 3) := by decide +kernel
theorem dX9_back_63 : decode cX9_back 63 = .ok (.ireturn, 1) := by decide +kernel
theorem dX9_count_0 : decode cX9_count 0 = .ok (.aload_n 0, 1) := by decide +kernel
theorem dX9_count_1 : decode cX9_count 1 = .ok (.iconst 0, 1) := by decide +kernel
theorem dX9_count_2 : decode cX9_count 2 = .ok (.putfield 67, 3) := by decide +kernel
theorem dX9_count_5 : decode cX9_count 5 = .ok (.iload_n 1, 1) := by decide +kernel
theorem dX9_count_6 : decode cX9_count 6 = .ok (.ifCond .ne 14, 3) := by decide +kernel
theorem dX9_count_9 : decode cX9_count 9 = .ok (.aload_n 0, 1) := by decide +kernel
theorem dX9_count_10 : decode cX9_count 10 = .ok (.getfield 7, 3) := by decide +kernel
theorem dX9_count_13 : decode cX9_count 13 = .ok (.sipush 183, 3) := by decide +kernel
theorem dX9_count_16 : decode cX9_count 16 = .ok (.iaload, 1) := by decide +kernel
theorem dX9_count_17 : decode cX9_count 17 = .ok (.goto 72, 3) := by decide +kernel
theorem dX9_count_20 : decode cX9_count 20 = .ok (.iload_n 1, 1) := by decide +kernel
theorem dX9_count_21 : decode cX9_count 21 = .ok (.iconst 1, 1) := by decide +kernel
theorem dX9_count_22 : decode cX9_count 22 = .ok (.if_icmp .ne 14, 3) := by decide +kernel
theorem dX9_count_25 : decode cX9_count 25 = .ok (.aload_n 0, 1) := by decide +kernel
theorem dX9_count_26 : decode cX9_count 26 = .ok (.getfield 7, 3) := by decide +kernel
theorem dX9_count_29 : decode cX9_count 29 = .ok (.sipush 184, 3) := by decide +kernel
theorem dX9_count_32 : decode cX9_count 32 = .ok (.iaload, 1) := by decide +kernel
theorem dX9_count_33 : decode cX9_count 33 = .ok (.goto 56, 3) := by decide +kernel
theorem dX9_count_36 : decode cX9_count 36 = .ok (.iload_n 1, 1) := by decide +kernel
theorem dX9_count_37 : decode cX9_count 37 = .ok (.iconst 2, 1) := by decide +kernel
theorem dX9_count_38 : decode cX9_count 38 = .ok (.if_icmp .ne 14, 3) := by decide +kernel
theorem dX9_count_41 : decode cX9_count 41 = .ok (.aload_n 0, 1) := by decide +kernel
theorem dX9_count_42 : decode cX9_count 42 = .ok (.getfield 7, 3) := by decide +kernel
theorem dX9_count_45 : decode cX9_count 45 = .ok (.sipush 185, 3) := by decide +kernel
theorem dX9_count_48 : decode cX9_count 48 = .ok (.iaload, 1) := by decide +kernel
theorem dX9_count_49 : decode cX9_count 49 = .ok (.goto 40, 3) := by decide +kernel
theorem dX9_count_52 : decode cX9_count 52 = .ok (.iload_n 1, 1) := by decide +kernel
theorem dX9_count_53 : decode cX9_count 53 = .ok (.iconst 3, 1) := by decide +kernel
theorem dX9_count_54 : decode cX9_count 54 = .ok (.if_icmp .ne 10, 3) := by decide +kernel
theorem dX9_count_57 : decode cX9_count 57 = .ok (.aload_n 0, 1) := by decide +kernel
theorem dX9_count_58 : decode cX9_count 58 = .ok (.invokevirtual 177, 3) := by decide +kernel
theorem dX9_count_61 : decode cX9_count 61 = .ok (.goto 28, 3) := by decide +kernel
theorem dX9_count_64 : decode cX9_count 64 = .ok (.iload_n 1, 1) := by decide +kernel
theorem dX9_count_65 : decode cX9_count 65 = .ok (.iconst 4, 1) := by decide +kernel
theorem dX9_count_66 : decode cX9_count 66 = .ok (.if_icmp .ne 10, 3) := by decide +kernel
theorem dX9_count_69 : decode cX9_count 69 = .ok (.aload_n 0, 1) := by decide +kernel
theorem dX9_count_70 : decode cX9_count 70 = .ok (.getfield 78, 3) := by decide +kernel
theorem dX9_count_73 : decode cX9_count 73 = .ok (.goto 16, 3) := by decide +kernel
theorem dX9_count_76 : decode cX9_count 76 = .ok (.iload_n 1, 1) := by decide +kernel
theorem dX9_count_77 : decode cX9_count 77 = .ok (.iconst 5, 1) := by decide +kernel
theorem dX9_count_78 : decode cX9_count 78 = .ok (.if_icmp .ne 10, 3) := by decide +kernel
theorem dX9_count_81 : decode cX9_count 81 = .ok (.aload_n 0, 1) := by decide +kernel
theorem dX9_count_82 : decode cX9_count 82 = .ok (.getfield 71, 3) := by decide +kernel
theorem dX9_count_85 : decode cX9_count 85 = .ok (.goto 4, 3) := by decide +kernel
theorem dX9_count_88 : decode cX9_count 88 = .ok (.iconst (-1), 1) := by decide +kernel
theorem dX9_count_89 : decode cX9_count 89 = .ok (.ireturn, 1) := by decide +kernel
theorem dJ9_max_7cf53_0 : decode cJ9_max_7cf53 0 = .ok (.iload_n 0, 1) := by decide +kernel
theorem dJ9_max_7cf53_1 : decode cJ9_max_7cf53 1 = .ok (.iload_n 1, 1) := by decide +kernel
theorem dJ9_max_7cf53_2 : decode cJ9_max_7cf53 2 = .ok (.if_icmp .lt 7, 3) := by decide +kernel
theorem dJ9_max_7cf53_5 : decode cJ9_max_7cf53 5 = .ok (.iload_n 0, 1) := by decide +kernel
theorem dJ9_max_7cf53_6 : decode cJ9_max_7cf53 6 = .ok (.goto 4, 3) := by decide +kernel
theorem dJ9_max_7cf53_9 : decode cJ9_max_7cf53 9 = .ok (.iload_n 1, 1) := by decide +kernel
theorem dJ9_max_7cf53_10 : decode cJ9_max_7cf53 10 = .ok (.ireturn, 1) := by decide +kernel
theorem dJ9_max_f86c9_0 : decode cJ9_max_f86c9 0 = .ok (.lload_n 0, 1) := by decide +kernel
theorem dJ9_max_f86c9_1 : decode cJ9_max_f86c9 1 = .ok (.lload_n 2, 1) := by decide +kernel
theorem dJ9_max_f86c9_2 : decode cJ9_max_f86c9 2 = .ok (.lcmp, 1) := by decide +kernel
theorem dJ9_max_f86c9_3 : decode cJ9_max_f86c9 3 = .ok (.ifCond .lt 7, 3) := by decide +kernel
theorem dJ9_max_f86c9_6 : decode cJ9_max_f86c9 6 = .ok (.lload_n 0, 1) := by decide +kernel
theorem dJ9_max_f86c9_7 : decode cJ9_max_f86c9 7 = .ok (.goto 4, 3) := by decide +kernel
theorem dJ9_max_f86c9_10 : decode cJ9_max_f86c9 10 = .ok (.lload_n 2, 1) := by decide +kernel
theorem dJ9_max_f86c9_11 : decode cJ9_max_f86c9 11 = .ok (.lreturn, 1) := by decide +kernel
theorem dJ9_min_7cf53_0 : decode cJ9_min_7cf53 0 = .ok (.iload_n 0, 1) := by decide +kernel
theorem dJ9_min_7cf53_1 : decode cJ9_min_7cf53 1 = .ok (.iload_n 1, 1) := by decide +kernel
theorem dJ9_min_7cf53_2 : decode cJ9_min_7cf53 2 = .ok (.if_icmp .gt 7, 3) := by decide +kernel
theorem dJ9_min_7cf53_5 : decode cJ9_min_7cf53 5 = .ok (.iload_n 0, 1) := by decide +kernel
theorem dJ9_min_7cf53_6 : decode cJ9_min_7cf53 6 = .ok (.goto 4, 3) := by decide +kernel
theorem dJ9_min_7cf53_9 : decode cJ9_min_7cf53 9 = .ok (.iload_n 1, 1) := by decide +kernel
theorem dJ9_min_7cf53_10 : decode cJ9_min_7cf53 10 = .ok (.ireturn, 1) := by decide +kernel
theorem dJ0_length_8abf5_0 : decode cJ0_length_8abf5 0 = .ok (.aload_n 0, 1) := by decide +kernel
theorem dJ0_length_8abf5_1 : decode cJ0_length_8abf5 1 = .ok (.getfield 9, 3) := by decide +kernel
theorem dJ0_length_8abf5_4 : decode cJ0_length_8abf5 4 = .ok (.arraylength, 1) := by decide +kernel
theorem dJ0_length_8abf5_5 : decode cJ0_length_8abf5 5 = .ok (.aload_n 0, 1) := by decide +kernel
theorem dJ0_length_8abf5_6 : decode cJ0_length_8abf5 6 = .ok (.invokevirtual 335, 3) := by decide +kernel
theorem dJ0_length_8abf5_9 : decode cJ0_length_8abf5 9 = .ok (.ishr, 1) := by decide +kernel
theorem dJ0_length_8abf5_10 : decode cJ0_length_8abf5 10 = .ok (.ireturn, 1) := by decide +kernel
theorem dJ0_charAt_5068e_0 : decode cJ0_charAt_5068e 0 = .ok (.aload_n 0, 1) := by decide +kernel
theorem dJ0_charAt_5068e_1 : decode cJ0_charAt_5068e 1 = .ok (.invokevirtual 492, 3) := by decide +kernel
theorem dJ0_charAt_5068e_4 : decode cJ0_charAt_5068e 4 = .ok (.ifCond .eq 12, 3) := by decide +kernel
theorem dJ0_charAt_5068e_7 : decode cJ0_charAt_5068e 7 = .ok (.aload_n 0, 1) := by decide +kernel
theorem dJ0_charAt_5068e_8 : decode cJ0_charAt_5068e 8 = .ok (.getfield 9, 3) := by decide +kernel
theorem dJ0_charAt_5068e_11 : decode cJ0_charAt_5068e 11 = .ok (.iload_n 1, 1) := by decide +kernel
theorem dJ0_charAt_5068e_12 : decode cJ0_charAt_5068e 12 = .ok (.invokestatic 495, 3) := by decide +kernel
theorem dJ0_charAt_5068e_15 : decode cJ0_charAt_5068e 15 = .ok (.ireturn, 1) := by decide +kernel
theorem dJ0_charAt_5068e_16 : decode cJ0_charAt_5068e 16 = .ok (.aload_n 0, 1) := by decide +kernel
theorem dJ0_charAt_5068e_17 : decode cJ0_charAt_5068e 17 = .ok (.getfield 9, 3) := by decide +kernel
theorem dJ0_charAt_5068e_20 : decode cJ0_charAt_5068e 20 = .ok (.iload_n 1, 1) := by decide +kernel
theorem dJ0_charAt_5068e_21 : decode cJ0_charAt_5068e 21 = .ok (.invokestatic 498, 3) := by decide +kernel
theorem dJ0_charAt_5068e_24 : decode cJ0_charAt_5068e 24 = .ok (.ireturn, 1) := by decide +kernel
theorem dJ0_coder_7d493_0 : decode cJ0_coder_7d493 0 = .ok (.getstatic 38, 3) := by decide +kernel
theorem dJ0_coder_7d493_3 : decode cJ0_coder_7d493 3 = .ok (.ifCond .eq 10, 3) := by decide +kernel
theorem dJ0_coder_7d493_6 : decode cJ0_coder_7d493 6 = .ok (.aload_n 0, 1) := by decide +kernel
theorem dJ0_coder_7d493_7 : decode cJ0_coder_7d493 7 = .ok (.getfield 15, 3) := by decide +kernel
theorem dJ0_coder_7d493_10 : decode cJ0_coder_7d493 10 = .ok (.goto 4, 3) := by decide +kernel
theorem dJ0_coder_7d493_13 : decode cJ0_coder_7d493 13 = .ok (.iconst 1, 1) := by decide +kernel
theorem dJ0_coder_7d493_14 : decode cJ0_coder_7d493 14 = .ok (.ireturn, 1) := by decide +kernel
theorem dJ0_isLatin1_aae02_0 : decode cJ0_isLatin1_aae02 0 = .ok (.getstatic 38, 3) := by decide +kernel
theorem dJ0_isLatin1_aae02_3 : decode cJ0_isLatin1_aae02 3 = .ok (.ifCond .eq 14, 3) := by decide +kernel
theorem dJ0_isLatin1_aae02_6 : decode cJ0_isLatin1_aae02 6 = .ok (.aload_n 0, 1) := by decide +kernel
theorem dJ0_isLatin1_aae02_7 : decode cJ0_isLatin1_aae02 7 = .ok (.getfield 15, 3) := by decide +kernel
theorem dJ0_isLatin1_aae02_10 : decode cJ0_isLatin1_aae02 10 = .ok (.ifCond .ne 7, 3) := by decide +kernel
theorem dJ0_isLatin1_aae02_13 : decode cJ0_isLatin1_aae02 13 = .ok (.iconst 1, 1) := by decide +kernel
theorem dJ0_isLatin1_aae02_14 : decode cJ0_isLatin1_aae02 14 = .ok (.goto 4, 3) := by decide +kernel
theorem dJ0_isLatin1_aae02_17 : decode cJ0_isLatin1_aae02 17 = .ok (.iconst 0, 1) := by decide +kernel
theorem dJ0_isLatin1_aae02_18 : decode cJ0_isLatin1_aae02 18 = .ok (.ireturn, 1) := by decide +kernel
theorem dJ0_checkIndex_df160_0 : decode cJ0_checkIndex_df160 0 = .ok (.iload_n 0, 1) := by decide +kernel
theorem dJ0_checkIndex_df160_1 : decode cJ0_checkIndex_df160 1 = .ok (.iload_n 1, 1) := by decide +kernel
theorem dJ0_checkIndex_df160_2 : decode cJ0_checkIndex_df160 2 = .ok (.getstatic 1053, 3) := by decide +kernel
theorem dJ0_checkIndex_df160_5 : decode cJ0_checkIndex_df160 5 = .ok (.invokestatic 1059, 3) := by decide +kernel
theorem dJ0_checkIndex_df160_8 : decode cJ0_checkIndex_df160 8 = .ok (.pop, 1) := by decide +kernel
theorem dJ0_checkIndex_df160_9 : decode cJ0_checkIndex_df160 9 = .ok (.return_, 1) := by decide +kernel
theorem dJ1_charAt_3b067_0 : decode cJ1_charAt_3b067 0 = .ok (.iload_n 1, 1) := by decide +kernel
theorem dJ1_charAt_3b067_1 : decode cJ1_charAt_3b067 1 = .ok (.aload_n 0, 1) := by decide +kernel
theorem dJ1_charAt_3b067_2 : decode cJ1_charAt_3b067 2 = .ok (.arraylength, 1) := by decide +kernel
theorem dJ1_charAt_3b067_3 : decode cJ1_charAt_3b067 3 = .ok (.invokestatic 9, 3) := by decide +kernel
theorem dJ1_charAt_3b067_6 : decode cJ1_charAt_3b067 6 = .ok (.aload_n 0, 1) := by decide +kernel
theorem dJ1_charAt_3b067_7 : decode cJ1_charAt_3b067 7 = .ok (.iload_n 1, 1) := by decide +kernel
theorem dJ1_charAt_3b067_8 : decode cJ1_charAt_3b067 8 = .ok (.baload, 1) := by decide +kernel
theorem dJ1_charAt_3b067_9 : decode cJ1_charAt_3b067 9 = .ok (.sipush 255, 3) := by decide +kernel
theorem dJ1_charAt_3b067_12 : decode cJ1_charAt_3b067 12 = .ok (.iand, 1) := by decide +kernel
theorem dJ1_charAt_3b067_13 : decode cJ1_charAt_3b067 13 = .ok (.i2c, 1) := by decide +kernel
theorem dJ1_charAt_3b067_14 : decode cJ1_charAt_3b067 14 = .ok (.ireturn, 1) := by decide +kernel
theorem dJ2_getChar_3b067_0 : decode cJ2_getChar_3b067 0 = .ok (.getstatic 44, 3) := by decide +kernel
theorem dJ2_getChar_3b067_3 : decode cJ2_getChar_3b067 3 = .ok (.ifCond .ne 25, 3) := by decide +kernel
theorem dJ2_getChar_3b067_6 : decode cJ2_getChar_3b067 6 = .ok (.iload_n 1, 1) := by decide +kernel
theorem dJ2_getChar_3b067_7 : decode cJ2_getChar_3b067 7 = .ok (.ifCond .lt 11, 3) := by decide +kernel
theorem dJ2_getChar_3b067_10 : decode cJ2_getChar_3b067 10 = .ok (.iload_n 1, 1) := by decide +kernel
theorem dJ2_getChar_3b067_11 : decode cJ2_getChar_3b067 11 = .ok (.aload_n 0, 1) := by decide +kernel
theorem dJ2_getChar_3b067_12 : decode cJ2_getChar_3b067 12 = .ok (.invokestatic 48, 3) := by decide +kernel
theorem dJ2_getChar_3b067_15 : decode cJ2_getChar_3b067 15 = .ok (.if_icmp .lt 13, 3) := by decide +kernel
theorem dJ2_getChar_3b067_18 : decode cJ2_getChar_3b067 18 = .ok (.new 52, 3) := by decide +kernel
theorem dJ2_getChar_3b067_21 : decode cJ2_getChar_3b067 21 = .ok (.dup, 1) := by decide +kernel
theorem dJ2_getChar_3b067_22 : decode cJ2_getChar_3b067 22 = .ok (.ldc 54, 2) := by decide +kernel
theorem dJ2_getChar_3b067_24 : decode cJ2_getChar_3b067 24 = .ok (.invokespecial 56, 3) := by decide +kernel
theorem dJ2_getChar_3b067_27 : decode cJ2_getChar_3b067 27 = .ok (.athrow, 1) := by decide +kernel
theorem dJ2_getChar_3b067_28 : decode cJ2_getChar_3b067 28 = .ok (.iload_n 1, 1) := by decide +kernel
theorem dJ2_getChar_3b067_29 : decode cJ2_getChar_3b067 29 = .ok (.iconst 1, 1) := by decide +kernel
theorem dJ2_getChar_3b067_30 : decode cJ2_getChar_3b067 30 = .ok (.ishl, 1) := by decide +kernel
theorem dJ2_getChar_3b067_31 : decode cJ2_getChar_3b067 31 = .ok (.istore_n 1, 1) := by decide +kernel
theorem dJ2_getChar_3b067_32 : decode cJ2_getChar_3b067 32 = .ok (.aload_n 0, 1) := by decide +kernel
theorem dJ2_getChar_3b067_33 : decode cJ2_getChar_3b067 33 = .ok (.iload_n 1, 1) := by decide +kernel
theorem dJ2_getChar_3b067_34 : decode cJ2_getChar_3b067 34 = .ok (.iinc 1 1, 3) := by decide +kernel
theorem dJ2_getChar_3b067_37 : decode cJ2_getChar_3b067 37 = .ok (.baload, 1) := by decide +kernel
theorem dJ2_getChar_3b067_38 : decode cJ2_getChar_3b067 38 = .ok (.sipush 255, 3) := by decide +kernel
theorem dJ2_getChar_3b067_41 : decode cJ2_getChar_3b067 41 = .ok (.iand, 1) := by decide +kernel
theorem dJ2_getChar_3b067_42 : decode cJ2_getChar_3b067 42 = .ok (.getstatic 59, 3) := by decide +kernel
theorem dJ2_getChar_3b067_45 : decode cJ2_getChar_3b067 45 = .ok (.ishl, 1) := by decide +kernel
theorem dJ2_getChar_3b067_46 : decode cJ2_getChar_3b067 46 = .ok (.aload_n 0, 1) := by decide +kernel
theorem dJ2_getChar_3b067_47 : decode cJ2_getChar_3b067 47 = .ok (.iload_n 1, 1) := by decide +kernel
theorem dJ2_getChar_3b067_48 : decode cJ2_getChar_3b067 48 = .ok (.baload, 1) := by decide +kernel
theorem dJ2_getChar_3b067_49 : decode cJ2_getChar_3b067 49 = .ok (.sipush 255, 3) := by decide +kernel
theorem dJ2_getChar_3b067_52 : decode cJ2_getChar_3b067 52 = .ok (.iand, 1) := by decide +kernel
theorem dJ2_getChar_3b067_53 : decode cJ2_getChar_3b067 53 = .ok (.getstatic 63, 3) := by decide +kernel
theorem dJ2_getChar_3b067_56 : decode cJ2_getChar_3b067 56 = .ok (.ishl, 1) := by decide +kernel
theorem dJ2_getChar_3b067_57 : decode cJ2_getChar_3b067 57 = .ok (.ior, 1) := by decide +kernel
theorem dJ2_getChar_3b067_58 : decode cJ2_getChar_3b067 58 = .ok (.i2c, 1) := by decide +kernel
theorem dJ2_getChar_3b067_59 : decode cJ2_getChar_3b067 59 = .ok (.ireturn, 1) := by decide +kernel
theorem dJ2_length_9d52b_0 : decode cJ2_length_9d52b 0 = .ok (.aload_n 0, 1) := by decide +kernel
theorem dJ2_length_9d52b_1 : decode cJ2_length_9d52b 1 = .ok (.arraylength, 1) := by decide +kernel
theorem dJ2_length_9d52b_2 : decode cJ2_length_9d52b 2 = .ok (.iconst 1, 1) := by decide +kernel
theorem dJ2_length_9d52b_3 : decode cJ2_length_9d52b 3 = .ok (.ishr, 1) := by decide +kernel
theorem dJ2_length_9d52b_4 : decode cJ2_length_9d52b 4 = .ok (.ireturn, 1) := by decide +kernel
theorem dJ2_charAt_3b067_0 : decode cJ2_charAt_3b067 0 = .ok (.iload_n 1, 1) := by decide +kernel
theorem dJ2_charAt_3b067_1 : decode cJ2_charAt_3b067 1 = .ok (.aload_n 0, 1) := by decide +kernel
theorem dJ2_charAt_3b067_2 : decode cJ2_charAt_3b067 2 = .ok (.invokestatic 67, 3) := by decide +kernel
theorem dJ2_charAt_3b067_5 : decode cJ2_charAt_3b067 5 = .ok (.aload_n 0, 1) := by decide +kernel
theorem dJ2_charAt_3b067_6 : decode cJ2_charAt_3b067 6 = .ok (.iload_n 1, 1) := by decide +kernel
theorem dJ2_charAt_3b067_7 : decode cJ2_charAt_3b067 7 = .ok (.invokestatic 71, 3) := by decide +kernel
theorem dJ2_charAt_3b067_10 : decode cJ2_charAt_3b067 10 = .ok (.ireturn, 1) := by decide +kernel
theorem dJ2_checkIndex_2214a_0 : decode cJ2_checkIndex_2214a 0 = .ok (.iload_n 0, 1) := by decide +kernel
theorem dJ2_checkIndex_2214a_1 : decode cJ2_checkIndex_2214a 1 = .ok (.aload_n 1, 1) := by decide +kernel
theorem dJ2_checkIndex_2214a_2 : decode cJ2_checkIndex_2214a 2 = .ok (.invokestatic 48, 3) := by decide +kernel
theorem dJ2_checkIndex_2214a_5 : decode cJ2_checkIndex_2214a 5 = .ok (.invokestatic 414, 3) := by decide +kernel
theorem dJ2_checkIndex_2214a_8 : decode cJ2_checkIndex_2214a 8 = .ok (.return_, 1) := by decide +kernel
theorem dJ3_checkIndex_8e157_0 : decode cJ3_checkIndex_8e157 0 = .ok (.iload_n 0, 1) := by decide +kernel
theorem dJ3_checkIndex_8e157_1 : decode cJ3_checkIndex_8e157 1 = .ok (.ifCond .lt 8, 3) := by decide +kernel
theorem dJ3_checkIndex_8e157_4 : decode cJ3_checkIndex_8e157 4 = .ok (.iload_n 0, 1) := by decide +kernel
theorem dJ3_checkIndex_8e157_5 : decode cJ3_checkIndex_8e157 5 = .ok (.iload_n 1, 1) := by decide +kernel
theorem dJ3_checkIndex_8e157_6 : decode cJ3_checkIndex_8e157 6 = .ok (.if_icmp .lt 10, 3) := by decide +kernel
theorem dJ3_checkIndex_8e157_9 : decode cJ3_checkIndex_8e157 9 = .ok (.aload_n 2, 1) := by decide +kernel
theorem dJ3_checkIndex_8e157_10 : decode cJ3_checkIndex_8e157 10 = .ok (.iload_n 0, 1) := by decide +kernel
theorem dJ3_checkIndex_8e157_11 : decode cJ3_checkIndex_8e157 11 = .ok (.iload_n 1, 1) := by decide +kernel
theorem dJ3_checkIndex_8e157_12 : decode cJ3_checkIndex_8e157 12 = .ok (.invokestatic 95, 3) := by decide +kernel
theorem dJ3_checkIndex_8e157_15 : decode cJ3_checkIndex_8e157 15 = .ok (.athrow, 1) := by decide +kernel
theorem dJ3_checkIndex_8e157_16 : decode cJ3_checkIndex_8e157 16 = .ok (.iload_n 0, 1) := by decide +kernel
theorem dJ3_checkIndex_8e157_17 : decode cJ3_checkIndex_8e157 17 = .ok (.ireturn, 1) := by decide +kernel
theorem dL_law_0 : decode cL_law 0 = .ok (.new 7, 3) := by decide +kernel
theorem dL_law_3 : decode cL_law 3 = .ok (.dup, 1) := by decide +kernel
theorem dL_law_4 : decode cL_law 4 = .ok (.invokespecial 9, 3) := by decide +kernel
theorem dL_law_7 : decode cL_law 7 = .ok (.astore_n 1, 1) := by decide +kernel
theorem dL_law_8 : decode cL_law 8 = .ok (.new 10, 3) := by decide +kernel
theorem dL_law_11 : decode cL_law 11 = .ok (.dup, 1) := by decide +kernel
theorem dL_law_12 : decode cL_law 12 = .ok (.invokespecial 12, 3) := by decide +kernel
theorem dL_law_15 : decode cL_law 15 = .ok (.astore_n 2, 1) := by decide +kernel
theorem dL_law_16 : decode cL_law 16 = .ok (.iconst 0, 1) := by decide +kernel
theorem dL_law_17 : decode cL_law 17 = .ok (.istore_n 3, 1) := by decide +kernel
theorem dL_law_18 : decode cL_law 18 = .ok (.iload_n 3, 1) := by decide +kernel
theorem dL_law_19 : decode cL_law 19 = .ok (.aload_n 0, 1) := by decide +kernel
theorem dL_law_20 : decode cL_law 20 = .ok (.arraylength, 1) := by decide +kernel
theorem dL_law_21 : decode cL_law 21 = .ok (.iconst 5, 1) := by decide +kernel
theorem dL_law_22 : decode cL_law 22 = .ok (.isub, 1) := by decide +kernel
theorem dL_law_23 : decode cL_law 23 = .ok (.if_icmp .gt 1055, 3) := by decide +kernel
theorem dL_law_26 : decode cL_law 26 = .ok (.aload_n 0, 1) := by decide +kernel
theorem dL_law_27 : decode cL_law 27 = .ok (.iload_n 3, 1) := by decide +kernel
theorem dL_law_28 : decode cL_law 28 = .ok (.iaload, 1) := by decide +kernel
theorem dL_law_29 : decode cL_law 29 = .ok (.bipush 31, 2) := by decide +kernel
theorem dL_law_31 : decode cL_law 31 = .ok (.iand, 1) := by decide +kernel
theorem dL_law_32 : decode cL_law 32 = .ok (.tableswitch 1040 0 29 #[136, 199, 212, 225, 238, 281, 324, 367, 420, 463, 487, 520, 563, 577, 600, 623, 646, 679, 703, 746, 770, 813, 852, 876, 889, 933, 947, 991, 1004, 1017], 136) := by decide +kernel
theorem dL_law_168 : decode cL_law 168 = .ok (.aload_n 1, 1) := by decide +kernel
theorem dL_law_169 : decode cL_law 169 = .ok (.aload_n 0, 1) := by decide +kernel
theorem dL_law_170 : decode cL_law 170 = .ok (.iload_n 3, 1) := by decide +kernel
theorem dL_law_171 : decode cL_law 171 = .ok (.iconst 1, 1) := by decide +kernel
theorem dL_law_172 : decode cL_law 172 = .ok (.iadd, 1) := by decide +kernel
theorem dL_law_173 : decode cL_law 173 = .ok (.iaload, 1) := by decide +kernel
theorem dL_law_174 : decode cL_law 174 = .ok (.aload_n 0, 1) := by decide +kernel
theorem dL_law_175 : decode cL_law 175 = .ok (.iload_n 3, 1) := by decide +kernel
theorem dL_law_176 : decode cL_law 176 = .ok (.iconst 2, 1) := by decide +kernel
theorem dL_law_177 : decode cL_law 177 = .ok (.iadd, 1) := by decide +kernel
theorem dL_law_178 : decode cL_law 178 = .ok (.iaload, 1) := by decide +kernel
theorem dL_law_179 : decode cL_law 179 = .ok (.i2l, 1) := by decide +kernel
theorem dL_law_180 : decode cL_law 180 = .ok (.bipush 32, 2) := by decide +kernel
theorem dL_law_182 : decode cL_law 182 = .ok (.lshl, 1) := by decide +kernel
theorem dL_law_183 : decode cL_law 183 = .ok (.aload_n 0, 1) := by decide +kernel
theorem dL_law_184 : decode cL_law 184 = .ok (.iload_n 3, 1) := by decide +kernel
theorem dL_law_185 : decode cL_law 185 = .ok (.iconst 3, 1) := by decide +kernel
theorem dL_law_186 : decode cL_law 186 = .ok (.iadd, 1) := by decide +kernel
theorem dL_law_187 : decode cL_law 187 = .ok (.iaload, 1) := by decide +kernel
theorem dL_law_188 : decode cL_law 188 = .ok (.i2l, 1) := by decide +kernel
theorem dL_law_189 : decode cL_law 189 = .ok (.ldc2_w 13, 3) := by decide +kernel
theorem dL_law_192 : decode cL_law 192 = .ok (.land, 1) := by decide +kernel
theorem dL_law_193 : decode cL_law 193 = .ok (.lor, 1) := by decide +kernel
theorem dL_law_194 : decode cL_law 194 = .ok (.invokevirtual 15, 3) := by decide +kernel
theorem dL_law_197 : decode cL_law 197 = .ok (.aload_n 2, 1) := by decide +kernel
theorem dL_law_198 : decode cL_law 198 = .ok (.aload_n 0, 1) := by decide +kernel
theorem dL_law_199 : decode cL_law 199 = .ok (.iload_n 3, 1) := by decide +kernel
theorem dL_law_200 : decode cL_law 200 = .ok (.iconst 1, 1) := by decide +kernel
theorem dL_law_201 : decode cL_law 201 = .ok (.iadd, 1) := by decide +kernel
theorem dL_law_202 : decode cL_law 202 = .ok (.iaload, 1) := by decide +kernel
theorem dL_law_203 : decode cL_law 203 = .ok (.aload_n 0, 1) := by decide +kernel
theorem dL_law_204 : decode cL_law 204 = .ok (.iload_n 3, 1) := by decide +kernel
theorem dL_law_205 : decode cL_law 205 = .ok (.iconst 2, 1) := by decide +kernel
theorem dL_law_206 : decode cL_law 206 = .ok (.iadd, 1) := by decide +kernel
theorem dL_law_207 : decode cL_law 207 = .ok (.iaload, 1) := by decide +kernel
theorem dL_law_208 : decode cL_law 208 = .ok (.i2l, 1) := by decide +kernel
theorem dL_law_209 : decode cL_law 209 = .ok (.bipush 32, 2) := by decide +kernel
theorem dL_law_211 : decode cL_law 211 = .ok (.lshl, 1) := by decide +kernel
theorem dL_law_212 : decode cL_law 212 = .ok (.aload_n 0, 1) := by decide +kernel
theorem dL_law_213 : decode cL_law 213 = .ok (.iload_n 3, 1) := by decide +kernel
theorem dL_law_214 : decode cL_law 214 = .ok (.iconst 3, 1) := by decide +kernel
theorem dL_law_215 : decode cL_law 215 = .ok (.iadd, 1) := by decide +kernel
theorem dL_law_216 : decode cL_law 216 = .ok (.iaload, 1) := by decide +kernel
theorem dL_law_217 : decode cL_law 217 = .ok (.i2l, 1) := by decide +kernel
theorem dL_law_218 : decode cL_law 218 = .ok (.ldc2_w 13, 3) := by decide +kernel
theorem dL_law_221 : decode cL_law 221 = .ok (.land, 1) := by decide +kernel
theorem dL_law_222 : decode cL_law 222 = .ok (.lor, 1) := by decide +kernel
theorem dL_law_223 : decode cL_law 223 = .ok (.invokevirtual 19, 3) := by decide +kernel
theorem dL_law_226 : decode cL_law 226 = .ok (.if_icmp .eq 846, 3) := by decide +kernel
theorem dL_law_229 : decode cL_law 229 = .ok (.iconst 0, 1) := by decide +kernel
theorem dL_law_230 : decode cL_law 230 = .ok (.ireturn, 1) := by decide +kernel
theorem dL_law_231 : decode cL_law 231 = .ok (.aload_n 1, 1) := by decide +kernel
theorem dL_law_232 : decode cL_law 232 = .ok (.invokevirtual 20, 3) := by decide +kernel
theorem dL_law_235 : decode cL_law 235 = .ok (.aload_n 2, 1) := by decide +kernel
theorem dL_law_236 : decode cL_law 236 = .ok (.invokevirtual 24, 3) := by decide +kernel
theorem dL_law_239 : decode cL_law 239 = .ok (.if_icmp .eq 833, 3) := by decide +kernel
theorem dL_law_242 : decode cL_law 242 = .ok (.iconst 0, 1) := by decide +kernel
theorem dL_law_243 : decode cL_law 243 = .ok (.ireturn, 1) := by decide +kernel
theorem dL_law_244 : decode cL_law 244 = .ok (.aload_n 1, 1) := by decide +kernel
theorem dL_law_245 : decode cL_law 245 = .ok (.invokevirtual 25, 3) := by decide +kernel
theorem dL_law_248 : decode cL_law 248 = .ok (.aload_n 2, 1) := by decide +kernel
theorem dL_law_249 : decode cL_law 249 = .ok (.invokevirtual 28, 3) := by decide +kernel
theorem dL_law_252 : decode cL_law 252 = .ok (.if_icmp .eq 820, 3) := by decide +kernel
theorem dL_law_255 : decode cL_law 255 = .ok (.iconst 0, 1) := by decide +kernel
theorem dL_law_256 : decode cL_law 256 = .ok (.ireturn, 1) := by decide +kernel
theorem dL_law_257 : decode cL_law 257 = .ok (.aload_n 1, 1) := by decide +kernel
theorem dL_law_258 : decode cL_law 258 = .ok (.invokevirtual 29, 3) := by decide +kernel
theorem dL_law_261 : decode cL_law 261 = .ok (.aload_n 2, 1) := by decide +kernel
theorem dL_law_262 : decode cL_law 262 = .ok (.invokevirtual 32, 3) := by decide +kernel
theorem dL_law_265 : decode cL_law 265 = .ok (.if_icmp .eq 807, 3) := by decide +kernel
theorem dL_law_268 : decode cL_law 268 = .ok (.iconst 0, 1) := by decide +kernel
theorem dL_law_269 : decode cL_law 269 = .ok (.ireturn, 1) := by decide +kernel
theorem dL_law_270 : decode cL_law 270 = .ok (.aload_n 1, 1) := by decide +kernel
theorem dL_law_271 : decode cL_law 271 = .ok (.aload_n 0, 1) := by decide +kernel
theorem dL_law_272 : decode cL_law 272 = .ok (.iload_n 3, 1) := by decide +kernel
theorem dL_law_273 : decode cL_law 273 = .ok (.iconst 1, 1) := by decide +kernel
theorem dL_law_274 : decode cL_law 274 = .ok (.iadd, 1) := by decide +kernel
theorem dL_law_275 : decode cL_law 275 = .ok (.iaload, 1) := by decide +kernel
theorem dL_law_276 : decode cL_law 276 = .ok (.aload_n 0, 1) := by decide +kernel
theorem dL_law_277 : decode cL_law 277 = .ok (.iload_n 3, 1) := by decide +kernel
theorem dL_law_278 : decode cL_law 278 = .ok (.iconst 2, 1) := by decide +kernel
theorem dL_law_279 : decode cL_law 279 = .ok (.iadd, 1) := by decide +kernel
theorem dL_law_280 : decode cL_law 280 = .ok (.iaload, 1) := by decide +kernel
theorem dL_law_281 : decode cL_law 281 = .ok (.aload_n 0, 1) := by decide +kernel
theorem dL_law_282 : decode cL_law 282 = .ok (.iload_n 3, 1) := by decide +kernel
theorem dL_law_283 : decode cL_law 283 = .ok (.iconst 3, 1) := by decide +kernel
theorem dL_law_284 : decode cL_law 284 = .ok (.iadd, 1) := by decide +kernel
theorem dL_law_285 : decode cL_law 285 = .ok (.iaload, 1) := by decide +kernel
theorem dL_law_286 : decode cL_law 286 = .ok (.invokevirtual 33, 3) := by decide +kernel
theorem dL_law_289 : decode cL_law 289 = .ok (.aload_n 2, 1) := by decide +kernel
theorem dL_law_290 : decode cL_law 290 = .ok (.aload_n 0, 1) := by decide +kernel
theorem dL_law_291 : decode cL_law 291 = .ok (.iload_n 3, 1) := by decide +kernel
theorem dL_law_292 : decode cL_law 292 = .ok (.iconst 1, 1) := by decide +kernel
theorem dL_law_293 : decode cL_law 293 = .ok (.iadd, 1) := by decide +kernel
theorem dL_law_294 : decode cL_law 294 = .ok (.iaload, 1) := by decide +kernel
theorem dL_law_295 : decode cL_law 295 = .ok (.aload_n 0, 1) := by decide +kernel
theorem dL_law_296 : decode cL_law 296 = .ok (.iload_n 3, 1) := by decide +kernel
theorem dL_law_297 : decode cL_law 297 = .ok (.iconst 2, 1) := by decide +kernel
theorem dL_law_298 : decode cL_law 298 = .ok (.iadd, 1) := by decide +kernel
theorem dL_law_299 : decode cL_law 299 = .ok (.iaload, 1) := by decide +kernel
theorem dL_law_300 : decode cL_law 300 = .ok (.aload_n 0, 1) := by decide +kernel
theorem dL_law_301 : decode cL_law 301 = .ok (.iload_n 3, 1) := by decide +kernel
theorem dL_law_302 : decode cL_law 302 = .ok (.iconst 3, 1) := by decide +kernel
theorem dL_law_303 : decode cL_law 303 = .ok (.iadd, 1) := by decide +kernel
theorem dL_law_304 : decode cL_law 304 = .ok (.iaload, 1) := by decide +kernel
theorem dL_law_305 : decode cL_law 305 = .ok (.invokevirtual 37, 3) := by decide +kernel
theorem dL_law_308 : decode cL_law 308 = .ok (.if_icmp .eq 764, 3) := by decide +kernel
theorem dL_law_311 : decode cL_law 311 = .ok (.iconst 0, 1) := by decide +kernel
theorem dL_law_312 : decode cL_law 312 = .ok (.ireturn, 1) := by decide +kernel
theorem dL_law_313 : decode cL_law 313 = .ok (.aload_n 1, 1) := by decide +kernel
theorem dL_law_314 : decode cL_law 314 = .ok (.aload_n 0, 1) := by decide +kernel
theorem dL_law_315 : decode cL_law 315 = .ok (.iload_n 3, 1) := by decide +kernel
theorem dL_law_316 : decode cL_law 316 = .ok (.iconst 1, 1) := by decide +kernel
theorem dL_law_317 : decode cL_law 317 = .ok (.iadd, 1) := by decide +kernel
theorem dL_law_318 : decode cL_law 318 = .ok (.iaload, 1) := by decide +kernel
theorem dL_law_319 : decode cL_law 319 = .ok (.aload_n 0, 1) := by decide +kernel
theorem dL_law_320 : decode cL_law 320 = .ok (.iload_n 3, 1) := by decide +kernel
theorem dL_law_321 : decode cL_law 321 = .ok (.iconst 2, 1) := by decide +kernel
theorem dL_law_322 : decode cL_law 322 = .ok (.iadd, 1) := by decide +kernel
theorem dL_law_323 : decode cL_law 323 = .ok (.iaload, 1) := by decide +kernel
theorem dL_law_324 : decode cL_law 324 = .ok (.aload_n 0, 1) := by decide +kernel
theorem dL_law_325 : decode cL_law 325 = .ok (.iload_n 3, 1) := by decide +kernel
theorem dL_law_326 : decode cL_law 326 = .ok (.iconst 3, 1) := by decide +kernel
theorem dL_law_327 : decode cL_law 327 = .ok (.iadd, 1) := by decide +kernel
theorem dL_law_328 : decode cL_law 328 = .ok (.iaload, 1) := by decide +kernel
theorem dL_law_329 : decode cL_law 329 = .ok (.invokevirtual 38, 3) := by decide +kernel
theorem dL_law_332 : decode cL_law 332 = .ok (.aload_n 2, 1) := by decide +kernel
theorem dL_law_333 : decode cL_law 333 = .ok (.aload_n 0, 1) := by decide +kernel
theorem dL_law_334 : decode cL_law 334 = .ok (.iload_n 3, 1) := by decide +kernel
theorem dL_law_335 : decode cL_law 335 = .ok (.iconst 1, 1) := by decide +kernel
theorem dL_law_336 : decode cL_law 336 = .ok (.iadd, 1) := by decide +kernel
theorem dL_law_337 : decode cL_law 337 = .ok (.iaload, 1) := by decide +kernel
theorem dL_law_338 : decode cL_law 338 = .ok (.aload_n 0, 1) := by decide +kernel
theorem dL_law_339 : decode cL_law 339 = .ok (.iload_n 3, 1) := by decide +kernel
theorem dL_law_340 : decode cL_law 340 = .ok (.iconst 2, 1) := by decide +kernel
theorem dL_law_341 : decode cL_law 341 = .ok (.iadd, 1) := by decide +kernel
theorem dL_law_342 : decode cL_law 342 = .ok (.iaload, 1) := by decide +kernel
theorem dL_law_343 : decode cL_law 343 = .ok (.aload_n 0, 1) := by decide +kernel
theorem dL_law_344 : decode cL_law 344 = .ok (.iload_n 3, 1) := by decide +kernel
theorem dL_law_345 : decode cL_law 345 = .ok (.iconst 3, 1) := by decide +kernel
theorem dL_law_346 : decode cL_law 346 = .ok (.iadd, 1) := by decide +kernel
theorem dL_law_347 : decode cL_law 347 = .ok (.iaload, 1) := by decide +kernel
theorem dL_law_348 : decode cL_law 348 = .ok (.invokevirtual 41, 3) := by decide +kernel
theorem dL_law_351 : decode cL_law 351 = .ok (.if_icmp .eq 721, 3) := by decide +kernel
theorem dL_law_354 : decode cL_law 354 = .ok (.iconst 0, 1) := by decide +kernel
theorem dL_law_355 : decode cL_law 355 = .ok (.ireturn, 1) := by decide +kernel
theorem dL_law_356 : decode cL_law 356 = .ok (.aload_n 1, 1) := by decide +kernel
theorem dL_law_357 : decode cL_law 357 = .ok (.aload_n 0, 1) := by decide +kernel
theorem dL_law_358 : decode cL_law 358 = .ok (.iload_n 3, 1) := by decide +kernel
theorem dL_law_359 : decode cL_law 359 = .ok (.iconst 1, 1) := by decide +kernel
theorem dL_law_360 : decode cL_law 360 = .ok (.iadd, 1) := by decide +kernel
theorem dL_law_361 : decode cL_law 361 = .ok (.iaload, 1) := by decide +kernel
theorem dL_law_362 : decode cL_law 362 = .ok (.aload_n 0, 1) := by decide +kernel
theorem dL_law_363 : decode cL_law 363 = .ok (.iload_n 3, 1) := by decide +kernel
theorem dL_law_364 : decode cL_law 364 = .ok (.iconst 2, 1) := by decide +kernel
theorem dL_law_365 : decode cL_law 365 = .ok (.iadd, 1) := by decide +kernel
theorem dL_law_366 : decode cL_law 366 = .ok (.iaload, 1) := by decide +kernel
theorem dL_law_367 : decode cL_law 367 = .ok (.aload_n 0, 1) := by decide +kernel
theorem dL_law_368 : decode cL_law 368 = .ok (.iload_n 3, 1) := by decide +kernel
theorem dL_law_369 : decode cL_law 369 = .ok (.iconst 3, 1) := by decide +kernel
theorem dL_law_370 : decode cL_law 370 = .ok (.iadd, 1) := by decide +kernel
theorem dL_law_371 : decode cL_law 371 = .ok (.iaload, 1) := by decide +kernel
theorem dL_law_372 : decode cL_law 372 = .ok (.invokevirtual 42, 3) := by decide +kernel
theorem dL_law_375 : decode cL_law 375 = .ok (.aload_n 2, 1) := by decide +kernel
theorem dL_law_376 : decode cL_law 376 = .ok (.aload_n 0, 1) := by decide +kernel
theorem dL_law_377 : decode cL_law 377 = .ok (.iload_n 3, 1) := by decide +kernel
theorem dL_law_378 : decode cL_law 378 = .ok (.iconst 1, 1) := by decide +kernel
theorem dL_law_379 : decode cL_law 379 = .ok (.iadd, 1) := by decide +kernel
theorem dL_law_380 : decode cL_law 380 = .ok (.iaload, 1) := by decide +kernel
theorem dL_law_381 : decode cL_law 381 = .ok (.aload_n 0, 1) := by decide +kernel
theorem dL_law_382 : decode cL_law 382 = .ok (.iload_n 3, 1) := by decide +kernel
theorem dL_law_383 : decode cL_law 383 = .ok (.iconst 2, 1) := by decide +kernel
theorem dL_law_384 : decode cL_law 384 = .ok (.iadd, 1) := by decide +kernel
theorem dL_law_385 : decode cL_law 385 = .ok (.iaload, 1) := by decide +kernel
theorem dL_law_386 : decode cL_law 386 = .ok (.aload_n 0, 1) := by decide +kernel
theorem dL_law_387 : decode cL_law 387 = .ok (.iload_n 3, 1) := by decide +kernel
theorem dL_law_388 : decode cL_law 388 = .ok (.iconst 3, 1) := by decide +kernel
theorem dL_law_389 : decode cL_law 389 = .ok (.iadd, 1) := by decide +kernel
theorem dL_law_390 : decode cL_law 390 = .ok (.iaload, 1) := by decide +kernel
theorem dL_law_391 : decode cL_law 391 = .ok (.invokevirtual 45, 3) := by decide +kernel
theorem dL_law_394 : decode cL_law 394 = .ok (.if_icmp .eq 678, 3) := by decide +kernel
theorem dL_law_397 : decode cL_law 397 = .ok (.iconst 0, 1) := by decide +kernel
theorem dL_law_398 : decode cL_law 398 = .ok (.ireturn, 1) := by decide +kernel
theorem dL_law_399 : decode cL_law 399 = .ok (.aload_n 1, 1) := by decide +kernel
theorem dL_law_400 : decode cL_law 400 = .ok (.aload_n 0, 1) := by decide +kernel
theorem dL_law_401 : decode cL_law 401 = .ok (.iload_n 3, 1) := by decide +kernel
theorem dL_law_402 : decode cL_law 402 = .ok (.iconst 1, 1) := by decide +kernel
theorem dL_law_403 : decode cL_law 403 = .ok (.iadd, 1) := by decide +kernel
theorem dL_law_404 : decode cL_law 404 = .ok (.iaload, 1) := by decide +kernel
theorem dL_law_405 : decode cL_law 405 = .ok (.aload_n 0, 1) := by decide +kernel
theorem dL_law_406 : decode cL_law 406 = .ok (.iload_n 3, 1) := by decide +kernel
theorem dL_law_407 : decode cL_law 407 = .ok (.iconst 2, 1) := by decide +kernel
theorem dL_law_408 : decode cL_law 408 = .ok (.iadd, 1) := by decide +kernel
theorem dL_law_409 : decode cL_law 409 = .ok (.iaload, 1) := by decide +kernel
theorem dL_law_410 : decode cL_law 410 = .ok (.aload_n 0, 1) := by decide +kernel
theorem dL_law_411 : decode cL_law 411 = .ok (.iload_n 3, 1) := by decide +kernel
theorem dL_law_412 : decode cL_law 412 = .ok (.iconst 3, 1) := by decide +kernel
theorem dL_law_413 : decode cL_law 413 = .ok (.iadd, 1) := by decide +kernel
theorem dL_law_414 : decode cL_law 414 = .ok (.iaload, 1) := by decide +kernel
theorem dL_law_415 : decode cL_law 415 = .ok (.aload_n 0, 1) := by decide +kernel
theorem dL_law_416 : decode cL_law 416 = .ok (.iload_n 3, 1) := by decide +kernel
theorem dL_law_417 : decode cL_law 417 = .ok (.iconst 4, 1) := by decide +kernel
theorem dL_law_418 : decode cL_law 418 = .ok (.iadd, 1) := by decide +kernel
theorem dL_law_419 : decode cL_law 419 = .ok (.iaload, 1) := by decide +kernel
theorem dL_law_420 : decode cL_law 420 = .ok (.invokevirtual 46, 3) := by decide +kernel
theorem dL_law_423 : decode cL_law 423 = .ok (.aload_n 2, 1) := by decide +kernel
theorem dL_law_424 : decode cL_law 424 = .ok (.aload_n 0, 1) := by decide +kernel
theorem dL_law_425 : decode cL_law 425 = .ok (.iload_n 3, 1) := by decide +kernel
theorem dL_law_426 : decode cL_law 426 = .ok (.iconst 1, 1) := by decide +kernel
theorem dL_law_427 : decode cL_law 427 = .ok (.iadd, 1) := by decide +kernel
theorem dL_law_428 : decode cL_law 428 = .ok (.iaload, 1) := by decide +kernel
theorem dL_law_429 : decode cL_law 429 = .ok (.aload_n 0, 1) := by decide +kernel
theorem dL_law_430 : decode cL_law 430 = .ok (.iload_n 3, 1) := by decide +kernel
theorem dL_law_431 : decode cL_law 431 = .ok (.iconst 2, 1) := by decide +kernel
theorem dL_law_432 : decode cL_law 432 = .ok (.iadd, 1) := by decide +kernel
theorem dL_law_433 : decode cL_law 433 = .ok (.iaload, 1) := by decide +kernel
theorem dL_law_434 : decode cL_law 434 = .ok (.aload_n 0, 1) := by decide +kernel
theorem dL_law_435 : decode cL_law 435 = .ok (.iload_n 3, 1) := by decide +kernel
theorem dL_law_436 : decode cL_law 436 = .ok (.iconst 3, 1) := by decide +kernel
theorem dL_law_437 : decode cL_law 437 = .ok (.iadd, 1) := by decide +kernel
theorem dL_law_438 : decode cL_law 438 = .ok (.iaload, 1) := by decide +kernel
theorem dL_law_439 : decode cL_law 439 = .ok (.aload_n 0, 1) := by decide +kernel
theorem dL_law_440 : decode cL_law 440 = .ok (.iload_n 3, 1) := by decide +kernel
theorem dL_law_441 : decode cL_law 441 = .ok (.iconst 4, 1) := by decide +kernel
theorem dL_law_442 : decode cL_law 442 = .ok (.iadd, 1) := by decide +kernel
theorem dL_law_443 : decode cL_law 443 = .ok (.iaload, 1) := by decide +kernel
theorem dL_law_444 : decode cL_law 444 = .ok (.invokevirtual 50, 3) := by decide +kernel
theorem dL_law_447 : decode cL_law 447 = .ok (.if_icmp .eq 625, 3) := by decide +kernel
theorem dL_law_450 : decode cL_law 450 = .ok (.iconst 0, 1) := by decide +kernel
theorem dL_law_451 : decode cL_law 451 = .ok (.ireturn, 1) := by decide +kernel
theorem dL_law_452 : decode cL_law 452 = .ok (.aload_n 1, 1) := by decide +kernel
theorem dL_law_453 : decode cL_law 453 = .ok (.aload_n 0, 1) := by decide +kernel
theorem dL_law_454 : decode cL_law 454 = .ok (.iload_n 3, 1) := by decide +kernel
theorem dL_law_455 : decode cL_law 455 = .ok (.iconst 1, 1) := by decide +kernel
theorem dL_law_456 : decode cL_law 456 = .ok (.iadd, 1) := by decide +kernel
theorem dL_law_457 : decode cL_law 457 = .ok (.iaload, 1) := by decide +kernel
theorem dL_law_458 : decode cL_law 458 = .ok (.aload_n 0, 1) := by decide +kernel
theorem dL_law_459 : decode cL_law 459 = .ok (.iload_n 3, 1) := by decide +kernel
theorem dL_law_460 : decode cL_law 460 = .ok (.iconst 2, 1) := by decide +kernel
theorem dL_law_461 : decode cL_law 461 = .ok (.iadd, 1) := by decide +kernel
theorem dL_law_462 : decode cL_law 462 = .ok (.iaload, 1) := by decide +kernel
theorem dL_law_463 : decode cL_law 463 = .ok (.aload_n 0, 1) := by decide +kernel
theorem dL_law_464 : decode cL_law 464 = .ok (.iload_n 3, 1) := by decide +kernel
theorem dL_law_465 : decode cL_law 465 = .ok (.iconst 3, 1) := by decide +kernel
theorem dL_law_466 : decode cL_law 466 = .ok (.iadd, 1) := by decide +kernel
theorem dL_law_467 : decode cL_law 467 = .ok (.iaload, 1) := by decide +kernel
theorem dL_law_468 : decode cL_law 468 = .ok (.invokevirtual 51, 3) := by decide +kernel
theorem dL_law_471 : decode cL_law 471 = .ok (.aload_n 2, 1) := by decide +kernel
theorem dL_law_472 : decode cL_law 472 = .ok (.aload_n 0, 1) := by decide +kernel
theorem dL_law_473 : decode cL_law 473 = .ok (.iload_n 3, 1) := by decide +kernel
theorem dL_law_474 : decode cL_law 474 = .ok (.iconst 1, 1) := by decide +kernel
theorem dL_law_475 : decode cL_law 475 = .ok (.iadd, 1) := by decide +kernel
theorem dL_law_476 : decode cL_law 476 = .ok (.iaload, 1) := by decide +kernel
theorem dL_law_477 : decode cL_law 477 = .ok (.aload_n 0, 1) := by decide +kernel
theorem dL_law_478 : decode cL_law 478 = .ok (.iload_n 3, 1) := by decide +kernel
theorem dL_law_479 : decode cL_law 479 = .ok (.iconst 2, 1) := by decide +kernel
theorem dL_law_480 : decode cL_law 480 = .ok (.iadd, 1) := by decide +kernel
theorem dL_law_481 : decode cL_law 481 = .ok (.iaload, 1) := by decide +kernel
theorem dL_law_482 : decode cL_law 482 = .ok (.aload_n 0, 1) := by decide +kernel
theorem dL_law_483 : decode cL_law 483 = .ok (.iload_n 3, 1) := by decide +kernel
theorem dL_law_484 : decode cL_law 484 = .ok (.iconst 3, 1) := by decide +kernel
theorem dL_law_485 : decode cL_law 485 = .ok (.iadd, 1) := by decide +kernel
theorem dL_law_486 : decode cL_law 486 = .ok (.iaload, 1) := by decide +kernel
theorem dL_law_487 : decode cL_law 487 = .ok (.invokevirtual 54, 3) := by decide +kernel
theorem dL_law_490 : decode cL_law 490 = .ok (.if_icmp .eq 582, 3) := by decide +kernel
theorem dL_law_493 : decode cL_law 493 = .ok (.iconst 0, 1) := by decide +kernel
theorem dL_law_494 : decode cL_law 494 = .ok (.ireturn, 1) := by decide +kernel
theorem dL_law_495 : decode cL_law 495 = .ok (.aload_n 1, 1) := by decide +kernel
theorem dL_law_496 : decode cL_law 496 = .ok (.aload_n 0, 1) := by decide +kernel
theorem dL_law_497 : decode cL_law 497 = .ok (.iload_n 3, 1) := by decide +kernel
theorem dL_law_498 : decode cL_law 498 = .ok (.iconst 1, 1) := by decide +kernel
theorem dL_law_499 : decode cL_law 499 = .ok (.iadd, 1) := by decide +kernel
theorem dL_law_500 : decode cL_law 500 = .ok (.iaload, 1) := by decide +kernel
theorem dL_law_501 : decode cL_law 501 = .ok (.invokevirtual 55, 3) := by decide +kernel
theorem dL_law_504 : decode cL_law 504 = .ok (.aload_n 2, 1) := by decide +kernel
theorem dL_law_505 : decode cL_law 505 = .ok (.aload_n 0, 1) := by decide +kernel
theorem dL_law_506 : decode cL_law 506 = .ok (.iload_n 3, 1) := by decide +kernel
theorem dL_law_507 : decode cL_law 507 = .ok (.iconst 1, 1) := by decide +kernel
theorem dL_law_508 : decode cL_law 508 = .ok (.iadd, 1) := by decide +kernel
theorem dL_law_509 : decode cL_law 509 = .ok (.iaload, 1) := by decide +kernel
theorem dL_law_510 : decode cL_law 510 = .ok (.invokevirtual 59, 3) := by decide +kernel
theorem dL_law_513 : decode cL_law 513 = .ok (.lcmp, 1) := by decide +kernel
theorem dL_law_514 : decode cL_law 514 = .ok (.ifCond .eq 558, 3) := by decide +kernel
theorem dL_law_517 : decode cL_law 517 = .ok (.iconst 0, 1) := by decide +kernel
theorem dL_law_518 : decode cL_law 518 = .ok (.ireturn, 1) := by decide +kernel
theorem dL_law_519 : decode cL_law 519 = .ok (.aload_n 1, 1) := by decide +kernel
theorem dL_law_520 : decode cL_law 520 = .ok (.aload_n 0, 1) := by decide +kernel
theorem dL_law_521 : decode cL_law 521 = .ok (.iload_n 3, 1) := by decide +kernel
theorem dL_law_522 : decode cL_law 522 = .ok (.iconst 1, 1) := by decide +kernel
theorem dL_law_523 : decode cL_law 523 = .ok (.iadd, 1) := by decide +kernel
theorem dL_law_524 : decode cL_law 524 = .ok (.iaload, 1) := by decide +kernel
theorem dL_law_525 : decode cL_law 525 = .ok (.aload_n 0, 1) := by decide +kernel
theorem dL_law_526 : decode cL_law 526 = .ok (.iload_n 3, 1) := by decide +kernel
theorem dL_law_527 : decode cL_law 527 = .ok (.iconst 2, 1) := by decide +kernel
theorem dL_law_528 : decode cL_law 528 = .ok (.iadd, 1) := by decide +kernel
theorem dL_law_529 : decode cL_law 529 = .ok (.iaload, 1) := by decide +kernel
theorem dL_law_530 : decode cL_law 530 = .ok (.invokevirtual 60, 3) := by decide +kernel
theorem dL_law_533 : decode cL_law 533 = .ok (.aload_n 2, 1) := by decide +kernel
theorem dL_law_534 : decode cL_law 534 = .ok (.aload_n 0, 1) := by decide +kernel
theorem dL_law_535 : decode cL_law 535 = .ok (.iload_n 3, 1) := by decide +kernel
theorem dL_law_536 : decode cL_law 536 = .ok (.iconst 1, 1) := by decide +kernel
theorem dL_law_537 : decode cL_law 537 = .ok (.iadd, 1) := by decide +kernel
theorem dL_law_538 : decode cL_law 538 = .ok (.iaload, 1) := by decide +kernel
theorem dL_law_539 : decode cL_law 539 = .ok (.aload_n 0, 1) := by decide +kernel
theorem dL_law_540 : decode cL_law 540 = .ok (.iload_n 3, 1) := by decide +kernel
theorem dL_law_541 : decode cL_law 541 = .ok (.iconst 2, 1) := by decide +kernel
theorem dL_law_542 : decode cL_law 542 = .ok (.iadd, 1) := by decide +kernel
theorem dL_law_543 : decode cL_law 543 = .ok (.iaload, 1) := by decide +kernel
theorem dL_law_544 : decode cL_law 544 = .ok (.invokevirtual 64, 3) := by decide +kernel
theorem dL_law_547 : decode cL_law 547 = .ok (.if_icmp .eq 525, 3) := by decide +kernel
theorem dL_law_550 : decode cL_law 550 = .ok (.iconst 0, 1) := by decide +kernel
theorem dL_law_551 : decode cL_law 551 = .ok (.ireturn, 1) := by decide +kernel
theorem dL_law_552 : decode cL_law 552 = .ok (.aload_n 1, 1) := by decide +kernel
theorem dL_law_553 : decode cL_law 553 = .ok (.aload_n 0, 1) := by decide +kernel
theorem dL_law_554 : decode cL_law 554 = .ok (.iload_n 3, 1) := by decide +kernel
theorem dL_law_555 : decode cL_law 555 = .ok (.iconst 1, 1) := by decide +kernel
theorem dL_law_556 : decode cL_law 556 = .ok (.iadd, 1) := by decide +kernel
theorem dL_law_557 : decode cL_law 557 = .ok (.iaload, 1) := by decide +kernel
theorem dL_law_558 : decode cL_law 558 = .ok (.aload_n 0, 1) := by decide +kernel
theorem dL_law_559 : decode cL_law 559 = .ok (.iload_n 3, 1) := by decide +kernel
theorem dL_law_560 : decode cL_law 560 = .ok (.iconst 2, 1) := by decide +kernel
theorem dL_law_561 : decode cL_law 561 = .ok (.iadd, 1) := by decide +kernel
theorem dL_law_562 : decode cL_law 562 = .ok (.iaload, 1) := by decide +kernel
theorem dL_law_563 : decode cL_law 563 = .ok (.aload_n 0, 1) := by decide +kernel
theorem dL_law_564 : decode cL_law 564 = .ok (.iload_n 3, 1) := by decide +kernel
theorem dL_law_565 : decode cL_law 565 = .ok (.iconst 3, 1) := by decide +kernel
theorem dL_law_566 : decode cL_law 566 = .ok (.iadd, 1) := by decide +kernel
theorem dL_law_567 : decode cL_law 567 = .ok (.iaload, 1) := by decide +kernel
theorem dL_law_568 : decode cL_law 568 = .ok (.invokevirtual 65, 3) := by decide +kernel
theorem dL_law_571 : decode cL_law 571 = .ok (.aload_n 2, 1) := by decide +kernel
theorem dL_law_572 : decode cL_law 572 = .ok (.aload_n 0, 1) := by decide +kernel
theorem dL_law_573 : decode cL_law 573 = .ok (.iload_n 3, 1) := by decide +kernel
theorem dL_law_574 : decode cL_law 574 = .ok (.iconst 1, 1) := by decide +kernel
theorem dL_law_575 : decode cL_law 575 = .ok (.iadd, 1) := by decide +kernel
theorem dL_law_576 : decode cL_law 576 = .ok (.iaload, 1) := by decide +kernel
theorem dL_law_577 : decode cL_law 577 = .ok (.aload_n 0, 1) := by decide +kernel
theorem dL_law_578 : decode cL_law 578 = .ok (.iload_n 3, 1) := by decide +kernel
theorem dL_law_579 : decode cL_law 579 = .ok (.iconst 2, 1) := by decide +kernel
theorem dL_law_580 : decode cL_law 580 = .ok (.iadd, 1) := by decide +kernel
theorem dL_law_581 : decode cL_law 581 = .ok (.iaload, 1) := by decide +kernel
theorem dL_law_582 : decode cL_law 582 = .ok (.aload_n 0, 1) := by decide +kernel
theorem dL_law_583 : decode cL_law 583 = .ok (.iload_n 3, 1) := by decide +kernel
theorem dL_law_584 : decode cL_law 584 = .ok (.iconst 3, 1) := by decide +kernel
theorem dL_law_585 : decode cL_law 585 = .ok (.iadd, 1) := by decide +kernel
theorem dL_law_586 : decode cL_law 586 = .ok (.iaload, 1) := by decide +kernel
theorem dL_law_587 : decode cL_law 587 = .ok (.invokevirtual 68, 3) := by decide +kernel
theorem dL_law_590 : decode cL_law 590 = .ok (.if_icmp .eq 482, 3) := by decide +kernel
theorem dL_law_593 : decode cL_law 593 = .ok (.iconst 0, 1) := by decide +kernel
theorem dL_law_594 : decode cL_law 594 = .ok (.ireturn, 1) := by decide +kernel
theorem dL_law_595 : decode cL_law 595 = .ok (.aload_n 1, 1) := by decide +kernel
theorem dL_law_596 : decode cL_law 596 = .ok (.invokevirtual 69, 3) := by decide +kernel
theorem dL_law_599 : decode cL_law 599 = .ok (.aload_n 2, 1) := by decide +kernel
theorem dL_law_600 : decode cL_law 600 = .ok (.invokevirtual 73, 3) := by decide +kernel
theorem dL_law_603 : decode cL_law 603 = .ok (.lcmp, 1) := by decide +kernel
theorem dL_law_604 : decode cL_law 604 = .ok (.ifCond .eq 468, 3) := by decide +kernel
theorem dL_law_607 : decode cL_law 607 = .ok (.iconst 0, 1) := by decide +kernel
theorem dL_law_608 : decode cL_law 608 = .ok (.ireturn, 1) := by decide +kernel
theorem dL_law_609 : decode cL_law 609 = .ok (.aload_n 1, 1) := by decide +kernel
theorem dL_law_610 : decode cL_law 610 = .ok (.aload_n 0, 1) := by decide +kernel
theorem dL_law_611 : decode cL_law 611 = .ok (.iload_n 3, 1) := by decide +kernel
theorem dL_law_612 : decode cL_law 612 = .ok (.iconst 1, 1) := by decide +kernel
theorem dL_law_613 : decode cL_law 613 = .ok (.iadd, 1) := by decide +kernel
theorem dL_law_614 : decode cL_law 614 = .ok (.iaload, 1) := by decide +kernel
theorem dL_law_615 : decode cL_law 615 = .ok (.invokevirtual 74, 3) := by decide +kernel
theorem dL_law_618 : decode cL_law 618 = .ok (.aload_n 2, 1) := by decide +kernel
theorem dL_law_619 : decode cL_law 619 = .ok (.aload_n 0, 1) := by decide +kernel
theorem dL_law_620 : decode cL_law 620 = .ok (.iload_n 3, 1) := by decide +kernel
theorem dL_law_621 : decode cL_law 621 = .ok (.iconst 1, 1) := by decide +kernel
theorem dL_law_622 : decode cL_law 622 = .ok (.iadd, 1) := by decide +kernel
theorem dL_law_623 : decode cL_law 623 = .ok (.iaload, 1) := by decide +kernel
theorem dL_law_624 : decode cL_law 624 = .ok (.invokevirtual 78, 3) := by decide +kernel
theorem dL_law_627 : decode cL_law 627 = .ok (.if_icmp .eq 445, 3) := by decide +kernel
theorem dL_law_630 : decode cL_law 630 = .ok (.iconst 0, 1) := by decide +kernel
theorem dL_law_631 : decode cL_law 631 = .ok (.ireturn, 1) := by decide +kernel
theorem dL_law_632 : decode cL_law 632 = .ok (.aload_n 1, 1) := by decide +kernel
theorem dL_law_633 : decode cL_law 633 = .ok (.aload_n 0, 1) := by decide +kernel
theorem dL_law_634 : decode cL_law 634 = .ok (.iload_n 3, 1) := by decide +kernel
theorem dL_law_635 : decode cL_law 635 = .ok (.iconst 1, 1) := by decide +kernel
theorem dL_law_636 : decode cL_law 636 = .ok (.iadd, 1) := by decide +kernel
theorem dL_law_637 : decode cL_law 637 = .ok (.iaload, 1) := by decide +kernel
theorem dL_law_638 : decode cL_law 638 = .ok (.invokevirtual 79, 3) := by decide +kernel
theorem dL_law_641 : decode cL_law 641 = .ok (.aload_n 2, 1) := by decide +kernel
theorem dL_law_642 : decode cL_law 642 = .ok (.aload_n 0, 1) := by decide +kernel
theorem dL_law_643 : decode cL_law 643 = .ok (.iload_n 3, 1) := by decide +kernel
theorem dL_law_644 : decode cL_law 644 = .ok (.iconst 1, 1) := by decide +kernel
theorem dL_law_645 : decode cL_law 645 = .ok (.iadd, 1) := by decide +kernel
theorem dL_law_646 : decode cL_law 646 = .ok (.iaload, 1) := by decide +kernel
theorem dL_law_647 : decode cL_law 647 = .ok (.invokevirtual 82, 3) := by decide +kernel
theorem dL_law_650 : decode cL_law 650 = .ok (.if_icmp .eq 422, 3) := by decide +kernel
theorem dL_law_653 : decode cL_law 653 = .ok (.iconst 0, 1) := by decide +kernel
theorem dL_law_654 : decode cL_law 654 = .ok (.ireturn, 1) := by decide +kernel
theorem dL_law_655 : decode cL_law 655 = .ok (.aload_n 1, 1) := by decide +kernel
theorem dL_law_656 : decode cL_law 656 = .ok (.aload_n 0, 1) := by decide +kernel
theorem dL_law_657 : decode cL_law 657 = .ok (.iload_n 3, 1) := by decide +kernel
theorem dL_law_658 : decode cL_law 658 = .ok (.iconst 1, 1) := by decide +kernel
theorem dL_law_659 : decode cL_law 659 = .ok (.iadd, 1) := by decide +kernel
theorem dL_law_660 : decode cL_law 660 = .ok (.iaload, 1) := by decide +kernel
theorem dL_law_661 : decode cL_law 661 = .ok (.invokevirtual 83, 3) := by decide +kernel
theorem dL_law_664 : decode cL_law 664 = .ok (.aload_n 2, 1) := by decide +kernel
theorem dL_law_665 : decode cL_law 665 = .ok (.aload_n 0, 1) := by decide +kernel
theorem dL_law_666 : decode cL_law 666 = .ok (.iload_n 3, 1) := by decide +kernel
theorem dL_law_667 : decode cL_law 667 = .ok (.iconst 1, 1) := by decide +kernel
theorem dL_law_668 : decode cL_law 668 = .ok (.iadd, 1) := by decide +kernel
theorem dL_law_669 : decode cL_law 669 = .ok (.iaload, 1) := by decide +kernel
theorem dL_law_670 : decode cL_law 670 = .ok (.invokevirtual 86, 3) := by decide +kernel
theorem dL_law_673 : decode cL_law 673 = .ok (.if_icmp .eq 399, 3) := by decide +kernel
theorem dL_law_676 : decode cL_law 676 = .ok (.iconst 0, 1) := by decide +kernel
theorem dL_law_677 : decode cL_law 677 = .ok (.ireturn, 1) := by decide +kernel
theorem dL_law_678 : decode cL_law 678 = .ok (.aload_n 1, 1) := by decide +kernel
theorem dL_law_679 : decode cL_law 679 = .ok (.aload_n 0, 1) := by decide +kernel
theorem dL_law_680 : decode cL_law 680 = .ok (.iload_n 3, 1) := by decide +kernel
theorem dL_law_681 : decode cL_law 681 = .ok (.iconst 1, 1) := by decide +kernel
theorem dL_law_682 : decode cL_law 682 = .ok (.iadd, 1) := by decide +kernel
theorem dL_law_683 : decode cL_law 683 = .ok (.iaload, 1) := by decide +kernel
theorem dL_law_684 : decode cL_law 684 = .ok (.aload_n 0, 1) := by decide +kernel
theorem dL_law_685 : decode cL_law 685 = .ok (.iload_n 3, 1) := by decide +kernel
theorem dL_law_686 : decode cL_law 686 = .ok (.iconst 2, 1) := by decide +kernel
theorem dL_law_687 : decode cL_law 687 = .ok (.iadd, 1) := by decide +kernel
theorem dL_law_688 : decode cL_law 688 = .ok (.iaload, 1) := by decide +kernel
theorem dL_law_689 : decode cL_law 689 = .ok (.invokevirtual 87, 3) := by decide +kernel
theorem dL_law_692 : decode cL_law 692 = .ok (.aload_n 2, 1) := by decide +kernel
theorem dL_law_693 : decode cL_law 693 = .ok (.aload_n 0, 1) := by decide +kernel
theorem dL_law_694 : decode cL_law 694 = .ok (.iload_n 3, 1) := by decide +kernel
theorem dL_law_695 : decode cL_law 695 = .ok (.iconst 1, 1) := by decide +kernel
theorem dL_law_696 : decode cL_law 696 = .ok (.iadd, 1) := by decide +kernel
theorem dL_law_697 : decode cL_law 697 = .ok (.iaload, 1) := by decide +kernel
theorem dL_law_698 : decode cL_law 698 = .ok (.aload_n 0, 1) := by decide +kernel
theorem dL_law_699 : decode cL_law 699 = .ok (.iload_n 3, 1) := by decide +kernel
theorem dL_law_700 : decode cL_law 700 = .ok (.iconst 2, 1) := by decide +kernel
theorem dL_law_701 : decode cL_law 701 = .ok (.iadd, 1) := by decide +kernel
theorem dL_law_702 : decode cL_law 702 = .ok (.iaload, 1) := by decide +kernel
theorem dL_law_703 : decode cL_law 703 = .ok (.invokevirtual 90, 3) := by decide +kernel
theorem dL_law_706 : decode cL_law 706 = .ok (.if_icmp .eq 366, 3) := by decide +kernel
theorem dL_law_709 : decode cL_law 709 = .ok (.iconst 0, 1) := by decide +kernel
theorem dL_law_710 : decode cL_law 710 = .ok (.ireturn, 1) := by decide +kernel
theorem dL_law_711 : decode cL_law 711 = .ok (.aload_n 1, 1) := by decide +kernel
theorem dL_law_712 : decode cL_law 712 = .ok (.aload_n 0, 1) := by decide +kernel
theorem dL_law_713 : decode cL_law 713 = .ok (.iload_n 3, 1) := by decide +kernel
theorem dL_law_714 : decode cL_law 714 = .ok (.iconst 1, 1) := by decide +kernel
theorem dL_law_715 : decode cL_law 715 = .ok (.iadd, 1) := by decide +kernel
theorem dL_law_716 : decode cL_law 716 = .ok (.iaload, 1) := by decide +kernel
theorem dL_law_717 : decode cL_law 717 = .ok (.invokevirtual 91, 3) := by decide +kernel
theorem dL_law_720 : decode cL_law 720 = .ok (.aload_n 2, 1) := by decide +kernel
theorem dL_law_721 : decode cL_law 721 = .ok (.aload_n 0, 1) := by decide +kernel
theorem dL_law_722 : decode cL_law 722 = .ok (.iload_n 3, 1) := by decide +kernel
theorem dL_law_723 : decode cL_law 723 = .ok (.iconst 1, 1) := by decide +kernel
theorem dL_law_724 : decode cL_law 724 = .ok (.iadd, 1) := by decide +kernel
theorem dL_law_725 : decode cL_law 725 = .ok (.iaload, 1) := by decide +kernel
theorem dL_law_726 : decode cL_law 726 = .ok (.invokevirtual 94, 3) := by decide +kernel
theorem dL_law_729 : decode cL_law 729 = .ok (.lcmp, 1) := by decide +kernel
theorem dL_law_730 : decode cL_law 730 = .ok (.ifCond .eq 342, 3) := by decide +kernel
theorem dL_law_733 : decode cL_law 733 = .ok (.iconst 0, 1) := by decide +kernel
theorem dL_law_734 : decode cL_law 734 = .ok (.ireturn, 1) := by decide +kernel
theorem dL_law_735 : decode cL_law 735 = .ok (.aload_n 1, 1) := by decide +kernel
theorem dL_law_736 : decode cL_law 736 = .ok (.aload_n 0, 1) := by decide +kernel
theorem dL_law_737 : decode cL_law 737 = .ok (.iload_n 3, 1) := by decide +kernel
theorem dL_law_738 : decode cL_law 738 = .ok (.iconst 1, 1) := by decide +kernel
theorem dL_law_739 : decode cL_law 739 = .ok (.iadd, 1) := by decide +kernel
theorem dL_law_740 : decode cL_law 740 = .ok (.iaload, 1) := by decide +kernel
theorem dL_law_741 : decode cL_law 741 = .ok (.aload_n 0, 1) := by decide +kernel
theorem dL_law_742 : decode cL_law 742 = .ok (.iload_n 3, 1) := by decide +kernel
theorem dL_law_743 : decode cL_law 743 = .ok (.iconst 2, 1) := by decide +kernel
theorem dL_law_744 : decode cL_law 744 = .ok (.iadd, 1) := by decide +kernel
theorem dL_law_745 : decode cL_law 745 = .ok (.iaload, 1) := by decide +kernel
theorem dL_law_746 : decode cL_law 746 = .ok (.aload_n 0, 1) := by decide +kernel
theorem dL_law_747 : decode cL_law 747 = .ok (.iload_n 3, 1) := by decide +kernel
theorem dL_law_748 : decode cL_law 748 = .ok (.iconst 3, 1) := by decide +kernel
theorem dL_law_749 : decode cL_law 749 = .ok (.iadd, 1) := by decide +kernel
theorem dL_law_750 : decode cL_law 750 = .ok (.iaload, 1) := by decide +kernel
theorem dL_law_751 : decode cL_law 751 = .ok (.invokevirtual 95, 3) := by decide +kernel
theorem dL_law_754 : decode cL_law 754 = .ok (.aload_n 2, 1) := by decide +kernel
theorem dL_law_755 : decode cL_law 755 = .ok (.aload_n 0, 1) := by decide +kernel
theorem dL_law_756 : decode cL_law 756 = .ok (.iload_n 3, 1) := by decide +kernel
theorem dL_law_757 : decode cL_law 757 = .ok (.iconst 1, 1) := by decide +kernel
theorem dL_law_758 : decode cL_law 758 = .ok (.iadd, 1) := by decide +kernel
theorem dL_law_759 : decode cL_law 759 = .ok (.iaload, 1) := by decide +kernel
theorem dL_law_760 : decode cL_law 760 = .ok (.aload_n 0, 1) := by decide +kernel
theorem dL_law_761 : decode cL_law 761 = .ok (.iload_n 3, 1) := by decide +kernel
theorem dL_law_762 : decode cL_law 762 = .ok (.iconst 2, 1) := by decide +kernel
theorem dL_law_763 : decode cL_law 763 = .ok (.iadd, 1) := by decide +kernel
theorem dL_law_764 : decode cL_law 764 = .ok (.iaload, 1) := by decide +kernel
theorem dL_law_765 : decode cL_law 765 = .ok (.aload_n 0, 1) := by decide +kernel
theorem dL_law_766 : decode cL_law 766 = .ok (.iload_n 3, 1) := by decide +kernel
theorem dL_law_767 : decode cL_law 767 = .ok (.iconst 3, 1) := by decide +kernel
theorem dL_law_768 : decode cL_law 768 = .ok (.iadd, 1) := by decide +kernel
theorem dL_law_769 : decode cL_law 769 = .ok (.iaload, 1) := by decide +kernel
theorem dL_law_770 : decode cL_law 770 = .ok (.invokevirtual 98, 3) := by decide +kernel
theorem dL_law_773 : decode cL_law 773 = .ok (.if_icmp .eq 299, 3) := by decide +kernel
theorem dL_law_776 : decode cL_law 776 = .ok (.iconst 0, 1) := by decide +kernel
theorem dL_law_777 : decode cL_law 777 = .ok (.ireturn, 1) := by decide +kernel
theorem dL_law_778 : decode cL_law 778 = .ok (.aload_n 1, 1) := by decide +kernel
theorem dL_law_779 : decode cL_law 779 = .ok (.aload_n 0, 1) := by decide +kernel
theorem dL_law_780 : decode cL_law 780 = .ok (.iload_n 3, 1) := by decide +kernel
theorem dL_law_781 : decode cL_law 781 = .ok (.iconst 1, 1) := by decide +kernel
theorem dL_law_782 : decode cL_law 782 = .ok (.iadd, 1) := by decide +kernel
theorem dL_law_783 : decode cL_law 783 = .ok (.iaload, 1) := by decide +kernel
theorem dL_law_784 : decode cL_law 784 = .ok (.invokevirtual 99, 3) := by decide +kernel
theorem dL_law_787 : decode cL_law 787 = .ok (.aload_n 2, 1) := by decide +kernel
theorem dL_law_788 : decode cL_law 788 = .ok (.aload_n 0, 1) := by decide +kernel
theorem dL_law_789 : decode cL_law 789 = .ok (.iload_n 3, 1) := by decide +kernel
theorem dL_law_790 : decode cL_law 790 = .ok (.iconst 1, 1) := by decide +kernel
theorem dL_law_791 : decode cL_law 791 = .ok (.iadd, 1) := by decide +kernel
theorem dL_law_792 : decode cL_law 792 = .ok (.iaload, 1) := by decide +kernel
theorem dL_law_793 : decode cL_law 793 = .ok (.invokevirtual 102, 3) := by decide +kernel
theorem dL_law_796 : decode cL_law 796 = .ok (.lcmp, 1) := by decide +kernel
theorem dL_law_797 : decode cL_law 797 = .ok (.ifCond .eq 275, 3) := by decide +kernel
theorem dL_law_800 : decode cL_law 800 = .ok (.iconst 0, 1) := by decide +kernel
theorem dL_law_801 : decode cL_law 801 = .ok (.ireturn, 1) := by decide +kernel
theorem dL_law_802 : decode cL_law 802 = .ok (.aload_n 1, 1) := by decide +kernel
theorem dL_law_803 : decode cL_law 803 = .ok (.aload_n 0, 1) := by decide +kernel
theorem dL_law_804 : decode cL_law 804 = .ok (.iload_n 3, 1) := by decide +kernel
theorem dL_law_805 : decode cL_law 805 = .ok (.iconst 1, 1) := by decide +kernel
theorem dL_law_806 : decode cL_law 806 = .ok (.iadd, 1) := by decide +kernel
theorem dL_law_807 : decode cL_law 807 = .ok (.iaload, 1) := by decide +kernel
theorem dL_law_808 : decode cL_law 808 = .ok (.aload_n 0, 1) := by decide +kernel
theorem dL_law_809 : decode cL_law 809 = .ok (.iload_n 3, 1) := by decide +kernel
theorem dL_law_810 : decode cL_law 810 = .ok (.iconst 2, 1) := by decide +kernel
theorem dL_law_811 : decode cL_law 811 = .ok (.iadd, 1) := by decide +kernel
theorem dL_law_812 : decode cL_law 812 = .ok (.iaload, 1) := by decide +kernel
theorem dL_law_813 : decode cL_law 813 = .ok (.aload_n 0, 1) := by decide +kernel
theorem dL_law_814 : decode cL_law 814 = .ok (.iload_n 3, 1) := by decide +kernel
theorem dL_law_815 : decode cL_law 815 = .ok (.iconst 3, 1) := by decide +kernel
theorem dL_law_816 : decode cL_law 816 = .ok (.iadd, 1) := by decide +kernel
theorem dL_law_817 : decode cL_law 817 = .ok (.iaload, 1) := by decide +kernel
theorem dL_law_818 : decode cL_law 818 = .ok (.invokevirtual 103, 3) := by decide +kernel
theorem dL_law_821 : decode cL_law 821 = .ok (.aload_n 2, 1) := by decide +kernel
theorem dL_law_822 : decode cL_law 822 = .ok (.aload_n 0, 1) := by decide +kernel
theorem dL_law_823 : decode cL_law 823 = .ok (.iload_n 3, 1) := by decide +kernel
theorem dL_law_824 : decode cL_law 824 = .ok (.iconst 1, 1) := by decide +kernel
theorem dL_law_825 : decode cL_law 825 = .ok (.iadd, 1) := by decide +kernel
theorem dL_law_826 : decode cL_law 826 = .ok (.iaload, 1) := by decide +kernel
theorem dL_law_827 : decode cL_law 827 = .ok (.aload_n 0, 1) := by decide +kernel
theorem dL_law_828 : decode cL_law 828 = .ok (.iload_n 3, 1) := by decide +kernel
theorem dL_law_829 : decode cL_law 829 = .ok (.iconst 2, 1) := by decide +kernel
theorem dL_law_830 : decode cL_law 830 = .ok (.iadd, 1) := by decide +kernel
theorem dL_law_831 : decode cL_law 831 = .ok (.iaload, 1) := by decide +kernel
theorem dL_law_832 : decode cL_law 832 = .ok (.aload_n 0, 1) := by decide +kernel
theorem dL_law_833 : decode cL_law 833 = .ok (.iload_n 3, 1) := by decide +kernel
theorem dL_law_834 : decode cL_law 834 = .ok (.iconst 3, 1) := by decide +kernel
theorem dL_law_835 : decode cL_law 835 = .ok (.iadd, 1) := by decide +kernel
theorem dL_law_836 : decode cL_law 836 = .ok (.iaload, 1) := by decide +kernel
theorem dL_law_837 : decode cL_law 837 = .ok (.invokevirtual 106, 3) := by decide +kernel
theorem dL_law_840 : decode cL_law 840 = .ok (.if_icmp .eq 232, 3) := by decide +kernel
theorem dL_law_843 : decode cL_law 843 = .ok (.iconst 0, 1) := by decide +kernel
theorem dL_law_844 : decode cL_law 844 = .ok (.ireturn, 1) := by decide +kernel
theorem dL_law_845 : decode cL_law 845 = .ok (.aload_n 1, 1) := by decide +kernel
theorem dL_law_846 : decode cL_law 846 = .ok (.aload_n 0, 1) := by decide +kernel
theorem dL_law_847 : decode cL_law 847 = .ok (.iload_n 3, 1) := by decide +kernel
theorem dL_law_848 : decode cL_law 848 = .ok (.iconst 1, 1) := by decide +kernel
theorem dL_law_849 : decode cL_law 849 = .ok (.iadd, 1) := by decide +kernel
theorem dL_law_850 : decode cL_law 850 = .ok (.iaload, 1) := by decide +kernel
theorem dL_law_851 : decode cL_law 851 = .ok (.ifCond .eq 7, 3) := by decide +kernel
theorem dL_law_854 : decode cL_law 854 = .ok (.iconst 1, 1) := by decide +kernel
theorem dL_law_855 : decode cL_law 855 = .ok (.goto 4, 3) := by decide +kernel
theorem dL_law_858 : decode cL_law 858 = .ok (.iconst 0, 1) := by decide +kernel
theorem dL_law_859 : decode cL_law 859 = .ok (.invokevirtual 107, 3) := by decide +kernel
theorem dL_law_862 : decode cL_law 862 = .ok (.aload_n 2, 1) := by decide +kernel
theorem dL_law_863 : decode cL_law 863 = .ok (.aload_n 0, 1) := by decide +kernel
theorem dL_law_864 : decode cL_law 864 = .ok (.iload_n 3, 1) := by decide +kernel
theorem dL_law_865 : decode cL_law 865 = .ok (.iconst 1, 1) := by decide +kernel
theorem dL_law_866 : decode cL_law 866 = .ok (.iadd, 1) := by decide +kernel
theorem dL_law_867 : decode cL_law 867 = .ok (.iaload, 1) := by decide +kernel
theorem dL_law_868 : decode cL_law 868 = .ok (.ifCond .eq 7, 3) := by decide +kernel
theorem dL_law_871 : decode cL_law 871 = .ok (.iconst 1, 1) := by decide +kernel
theorem dL_law_872 : decode cL_law 872 = .ok (.goto 4, 3) := by decide +kernel
theorem dL_law_875 : decode cL_law 875 = .ok (.iconst 0, 1) := by decide +kernel
theorem dL_law_876 : decode cL_law 876 = .ok (.invokevirtual 111, 3) := by decide +kernel
theorem dL_law_879 : decode cL_law 879 = .ok (.if_icmp .eq 193, 3) := by decide +kernel
theorem dL_law_882 : decode cL_law 882 = .ok (.iconst 0, 1) := by decide +kernel
theorem dL_law_883 : decode cL_law 883 = .ok (.ireturn, 1) := by decide +kernel
theorem dL_law_884 : decode cL_law 884 = .ok (.aload_n 1, 1) := by decide +kernel
theorem dL_law_885 : decode cL_law 885 = .ok (.aload_n 0, 1) := by decide +kernel
theorem dL_law_886 : decode cL_law 886 = .ok (.iload_n 3, 1) := by decide +kernel
theorem dL_law_887 : decode cL_law 887 = .ok (.iconst 1, 1) := by decide +kernel
theorem dL_law_888 : decode cL_law 888 = .ok (.iadd, 1) := by decide +kernel
theorem dL_law_889 : decode cL_law 889 = .ok (.iaload, 1) := by decide +kernel
theorem dL_law_890 : decode cL_law 890 = .ok (.invokevirtual 112, 3) := by decide +kernel
theorem dL_law_893 : decode cL_law 893 = .ok (.aload_n 2, 1) := by decide +kernel
theorem dL_law_894 : decode cL_law 894 = .ok (.aload_n 0, 1) := by decide +kernel
theorem dL_law_895 : decode cL_law 895 = .ok (.iload_n 3, 1) := by decide +kernel
theorem dL_law_896 : decode cL_law 896 = .ok (.iconst 1, 1) := by decide +kernel
theorem dL_law_897 : decode cL_law 897 = .ok (.iadd, 1) := by decide +kernel
theorem dL_law_898 : decode cL_law 898 = .ok (.iaload, 1) := by decide +kernel
theorem dL_law_899 : decode cL_law 899 = .ok (.invokevirtual 115, 3) := by decide +kernel
theorem dL_law_902 : decode cL_law 902 = .ok (.lcmp, 1) := by decide +kernel
theorem dL_law_903 : decode cL_law 903 = .ok (.ifCond .eq 169, 3) := by decide +kernel
theorem dL_law_906 : decode cL_law 906 = .ok (.iconst 0, 1) := by decide +kernel
theorem dL_law_907 : decode cL_law 907 = .ok (.ireturn, 1) := by decide +kernel
theorem dL_law_908 : decode cL_law 908 = .ok (.aload_n 1, 1) := by decide +kernel
theorem dL_law_909 : decode cL_law 909 = .ok (.invokevirtual 116, 3) := by decide +kernel
theorem dL_law_912 : decode cL_law 912 = .ok (.aload_n 2, 1) := by decide +kernel
theorem dL_law_913 : decode cL_law 913 = .ok (.invokevirtual 119, 3) := by decide +kernel
theorem dL_law_916 : decode cL_law 916 = .ok (.if_icmp .eq 156, 3) := by decide +kernel
theorem dL_law_919 : decode cL_law 919 = .ok (.iconst 0, 1) := by decide +kernel
theorem dL_law_920 : decode cL_law 920 = .ok (.ireturn, 1) := by decide +kernel
theorem dL_law_921 : decode cL_law 921 = .ok (.aload_n 1, 1) := by decide +kernel
theorem dL_law_922 : decode cL_law 922 = .ok (.aload_n 0, 1) := by decide +kernel
theorem dL_law_923 : decode cL_law 923 = .ok (.iload_n 3, 1) := by decide +kernel
theorem dL_law_924 : decode cL_law 924 = .ok (.iconst 1, 1) := by decide +kernel
theorem dL_law_925 : decode cL_law 925 = .ok (.iadd, 1) := by decide +kernel
theorem dL_law_926 : decode cL_law 926 = .ok (.iaload, 1) := by decide +kernel
theorem dL_law_927 : decode cL_law 927 = .ok (.aload_n 0, 1) := by decide +kernel
theorem dL_law_928 : decode cL_law 928 = .ok (.iload_n 3, 1) := by decide +kernel
theorem dL_law_929 : decode cL_law 929 = .ok (.iconst 2, 1) := by decide +kernel
theorem dL_law_930 : decode cL_law 930 = .ok (.iadd, 1) := by decide +kernel
theorem dL_law_931 : decode cL_law 931 = .ok (.iaload, 1) := by decide +kernel
theorem dL_law_932 : decode cL_law 932 = .ok (.aload_n 0, 1) := by decide +kernel
theorem dL_law_933 : decode cL_law 933 = .ok (.iload_n 3, 1) := by decide +kernel
theorem dL_law_934 : decode cL_law 934 = .ok (.iconst 3, 1) := by decide +kernel
theorem dL_law_935 : decode cL_law 935 = .ok (.iadd, 1) := by decide +kernel
theorem dL_law_936 : decode cL_law 936 = .ok (.iaload, 1) := by decide +kernel
theorem dL_law_937 : decode cL_law 937 = .ok (.invokevirtual 120, 3) := by decide +kernel
theorem dL_law_940 : decode cL_law 940 = .ok (.aload_n 2, 1) := by decide +kernel
theorem dL_law_941 : decode cL_law 941 = .ok (.aload_n 0, 1) := by decide +kernel
theorem dL_law_942 : decode cL_law 942 = .ok (.iload_n 3, 1) := by decide +kernel
theorem dL_law_943 : decode cL_law 943 = .ok (.iconst 1, 1) := by decide +kernel
theorem dL_law_944 : decode cL_law 944 = .ok (.iadd, 1) := by decide +kernel
theorem dL_law_945 : decode cL_law 945 = .ok (.iaload, 1) := by decide +kernel
theorem dL_law_946 : decode cL_law 946 = .ok (.aload_n 0, 1) := by decide +kernel
theorem dL_law_947 : decode cL_law 947 = .ok (.iload_n 3, 1) := by decide +kernel
theorem dL_law_948 : decode cL_law 948 = .ok (.iconst 2, 1) := by decide +kernel
theorem dL_law_949 : decode cL_law 949 = .ok (.iadd, 1) := by decide +kernel
theorem dL_law_950 : decode cL_law 950 = .ok (.iaload, 1) := by decide +kernel
theorem dL_law_951 : decode cL_law 951 = .ok (.aload_n 0, 1) := by decide +kernel
theorem dL_law_952 : decode cL_law 952 = .ok (.iload_n 3, 1) := by decide +kernel
theorem dL_law_953 : decode cL_law 953 = .ok (.iconst 3, 1) := by decide +kernel
theorem dL_law_954 : decode cL_law 954 = .ok (.iadd, 1) := by decide +kernel
theorem dL_law_955 : decode cL_law 955 = .ok (.iaload, 1) := by decide +kernel
theorem dL_law_956 : decode cL_law 956 = .ok (.invokevirtual 124, 3) := by decide +kernel
theorem dL_law_959 : decode cL_law 959 = .ok (.lcmp, 1) := by decide +kernel
theorem dL_law_960 : decode cL_law 960 = .ok (.ifCond .eq 112, 3) := by decide +kernel
theorem dL_law_963 : decode cL_law 963 = .ok (.iconst 0, 1) := by decide +kernel
theorem dL_law_964 : decode cL_law 964 = .ok (.ireturn, 1) := by decide +kernel
theorem dL_law_965 : decode cL_law 965 = .ok (.aload_n 1, 1) := by decide +kernel
theorem dL_law_966 : decode cL_law 966 = .ok (.invokevirtual 125, 3) := by decide +kernel
theorem dL_law_969 : decode cL_law 969 = .ok (.aload_n 2, 1) := by decide +kernel
theorem dL_law_970 : decode cL_law 970 = .ok (.invokevirtual 128, 3) := by decide +kernel
theorem dL_law_973 : decode cL_law 973 = .ok (.lcmp, 1) := by decide +kernel
theorem dL_law_974 : decode cL_law 974 = .ok (.ifCond .eq 98, 3) := by decide +kernel
theorem dL_law_977 : decode cL_law 977 = .ok (.iconst 0, 1) := by decide +kernel
theorem dL_law_978 : decode cL_law 978 = .ok (.ireturn, 1) := by decide +kernel
theorem dL_law_979 : decode cL_law 979 = .ok (.aload_n 1, 1) := by decide +kernel
theorem dL_law_980 : decode cL_law 980 = .ok (.aload_n 0, 1) := by decide +kernel
theorem dL_law_981 : decode cL_law 981 = .ok (.iload_n 3, 1) := by decide +kernel
theorem dL_law_982 : decode cL_law 982 = .ok (.iconst 1, 1) := by decide +kernel
theorem dL_law_983 : decode cL_law 983 = .ok (.iadd, 1) := by decide +kernel
theorem dL_law_984 : decode cL_law 984 = .ok (.iaload, 1) := by decide +kernel
theorem dL_law_985 : decode cL_law 985 = .ok (.aload_n 0, 1) := by decide +kernel
theorem dL_law_986 : decode cL_law 986 = .ok (.iload_n 3, 1) := by decide +kernel
theorem dL_law_987 : decode cL_law 987 = .ok (.iconst 2, 1) := by decide +kernel
theorem dL_law_988 : decode cL_law 988 = .ok (.iadd, 1) := by decide +kernel
theorem dL_law_989 : decode cL_law 989 = .ok (.iaload, 1) := by decide +kernel
theorem dL_law_990 : decode cL_law 990 = .ok (.aload_n 0, 1) := by decide +kernel
theorem dL_law_991 : decode cL_law 991 = .ok (.iload_n 3, 1) := by decide +kernel
theorem dL_law_992 : decode cL_law 992 = .ok (.iconst 3, 1) := by decide +kernel
theorem dL_law_993 : decode cL_law 993 = .ok (.iadd, 1) := by decide +kernel
theorem dL_law_994 : decode cL_law 994 = .ok (.iaload, 1) := by decide +kernel
theorem dL_law_995 : decode cL_law 995 = .ok (.invokevirtual 129, 3) := by decide +kernel
theorem dL_law_998 : decode cL_law 998 = .ok (.aload_n 2, 1) := by decide +kernel
theorem dL_law_999 : decode cL_law 999 = .ok (.aload_n 0, 1) := by decide +kernel
theorem dL_law_1000 : decode cL_law 1000 = .ok (.iload_n 3, 1) := by decide +kernel
theorem dL_law_1001 : decode cL_law 1001 = .ok (.iconst 1, 1) := by decide +kernel
theorem dL_law_1002 : decode cL_law 1002 = .ok (.iadd, 1) := by decide +kernel
theorem dL_law_1003 : decode cL_law 1003 = .ok (.iaload, 1) := by decide +kernel
theorem dL_law_1004 : decode cL_law 1004 = .ok (.aload_n 0, 1) := by decide +kernel
theorem dL_law_1005 : decode cL_law 1005 = .ok (.iload_n 3, 1) := by decide +kernel
theorem dL_law_1006 : decode cL_law 1006 = .ok (.iconst 2, 1) := by decide +kernel
theorem dL_law_1007 : decode cL_law 1007 = .ok (.iadd, 1) := by decide +kernel
theorem dL_law_1008 : decode cL_law 1008 = .ok (.iaload, 1) := by decide +kernel
theorem dL_law_1009 : decode cL_law 1009 = .ok (.aload_n 0, 1) := by decide +kernel
theorem dL_law_1010 : decode cL_law 1010 = .ok (.iload_n 3, 1) := by decide +kernel
theorem dL_law_1011 : decode cL_law 1011 = .ok (.iconst 3, 1) := by decide +kernel
theorem dL_law_1012 : decode cL_law 1012 = .ok (.iadd, 1) := by decide +kernel
theorem dL_law_1013 : decode cL_law 1013 = .ok (.iaload, 1) := by decide +kernel
theorem dL_law_1014 : decode cL_law 1014 = .ok (.invokevirtual 132, 3) := by decide +kernel
theorem dL_law_1017 : decode cL_law 1017 = .ok (.lcmp, 1) := by decide +kernel
theorem dL_law_1018 : decode cL_law 1018 = .ok (.ifCond .eq 54, 3) := by decide +kernel
theorem dL_law_1021 : decode cL_law 1021 = .ok (.iconst 0, 1) := by decide +kernel
theorem dL_law_1022 : decode cL_law 1022 = .ok (.ireturn, 1) := by decide +kernel
theorem dL_law_1023 : decode cL_law 1023 = .ok (.aload_n 1, 1) := by decide +kernel
theorem dL_law_1024 : decode cL_law 1024 = .ok (.invokevirtual 133, 3) := by decide +kernel
theorem dL_law_1027 : decode cL_law 1027 = .ok (.aload_n 2, 1) := by decide +kernel
theorem dL_law_1028 : decode cL_law 1028 = .ok (.invokevirtual 136, 3) := by decide +kernel
theorem dL_law_1031 : decode cL_law 1031 = .ok (.if_icmp .eq 41, 3) := by decide +kernel
theorem dL_law_1034 : decode cL_law 1034 = .ok (.iconst 0, 1) := by decide +kernel
theorem dL_law_1035 : decode cL_law 1035 = .ok (.ireturn, 1) := by decide +kernel
theorem dL_law_1036 : decode cL_law 1036 = .ok (.aload_n 1, 1) := by decide +kernel
theorem dL_law_1037 : decode cL_law 1037 = .ok (.invokevirtual 137, 3) := by decide +kernel
theorem dL_law_1040 : decode cL_law 1040 = .ok (.aload_n 2, 1) := by decide +kernel
theorem dL_law_1041 : decode cL_law 1041 = .ok (.invokevirtual 140, 3) := by decide +kernel
theorem dL_law_1044 : decode cL_law 1044 = .ok (.if_icmp .eq 28, 3) := by decide +kernel
theorem dL_law_1047 : decode cL_law 1047 = .ok (.iconst 0, 1) := by decide +kernel
theorem dL_law_1048 : decode cL_law 1048 = .ok (.ireturn, 1) := by decide +kernel
theorem dL_law_1049 : decode cL_law 1049 = .ok (.aload_n 1, 1) := by decide +kernel
theorem dL_law_1050 : decode cL_law 1050 = .ok (.aload_n 0, 1) := by decide +kernel
theorem dL_law_1051 : decode cL_law 1051 = .ok (.iload_n 3, 1) := by decide +kernel
theorem dL_law_1052 : decode cL_law 1052 = .ok (.iconst 1, 1) := by decide +kernel
theorem dL_law_1053 : decode cL_law 1053 = .ok (.iadd, 1) := by decide +kernel
theorem dL_law_1054 : decode cL_law 1054 = .ok (.iaload, 1) := by decide +kernel
theorem dL_law_1055 : decode cL_law 1055 = .ok (.invokevirtual 141, 3) := by decide +kernel
theorem dL_law_1058 : decode cL_law 1058 = .ok (.aload_n 2, 1) := by decide +kernel
theorem dL_law_1059 : decode cL_law 1059 = .ok (.aload_n 0, 1) := by decide +kernel
theorem dL_law_1060 : decode cL_law 1060 = .ok (.iload_n 3, 1) := by decide +kernel
theorem dL_law_1061 : decode cL_law 1061 = .ok (.iconst 1, 1) := by decide +kernel
theorem dL_law_1062 : decode cL_law 1062 = .ok (.iadd, 1) := by decide +kernel
theorem dL_law_1063 : decode cL_law 1063 = .ok (.iaload, 1) := by decide +kernel
theorem dL_law_1064 : decode cL_law 1064 = .ok (.invokevirtual 144, 3) := by decide +kernel
theorem dL_law_1067 : decode cL_law 1067 = .ok (.if_icmp .eq 5, 3) := by decide +kernel
theorem dL_law_1070 : decode cL_law 1070 = .ok (.iconst 0, 1) := by decide +kernel
theorem dL_law_1071 : decode cL_law 1071 = .ok (.ireturn, 1) := by decide +kernel
theorem dL_law_1072 : decode cL_law 1072 = .ok (.iinc 3 5, 3) := by decide +kernel
theorem dL_law_1075 : decode cL_law 1075 = .ok (.goto (-1057), 3) := by decide +kernel
theorem dL_law_1078 : decode cL_law 1078 = .ok (.iconst 1, 1) := by decide +kernel
theorem dL_law_1079 : decode cL_law 1079 = .ok (.ireturn, 1) := by decide +kernel
end
section
/-! ===== abstract numbers: an int and a long as an Int within its range ===== -/
def w32 (x : Int) : Int := (x + 2147483648) % 4294967296 - 2147483648
def w64 (x : Int) : Int := (x + 9223372036854775808) % 18446744073709551616 - 9223372036854775808
def w8 (x : Int) : Int := (x + 128) % 256 - 128
def r32 (x : Int) : Prop := -2147483648 ≤ x ∧ x < 2147483648
def r64 (x : Int) : Prop := -9223372036854775808 ≤ x ∧ x < 9223372036854775808
theorem r32_w (x : Int) : r32 (w32 x) := by unfold r32 w32; omega
theorem r64_w (x : Int) : r64 (w64 x) := by unfold r64 w64; omega
theorem w32_id {x : Int} (h1 : -2147483648 ≤ x) (h2 : x < 2147483648) : w32 x = x := by unfold w32; omega
theorem w64_id {x : Int} (h1 : -9223372036854775808 ≤ x) (h2 : x < 9223372036854775808) : w64 x = x := by unfold w64; omega
theorem w32_r {x : Int} (h : r32 x) : w32 x = x := w32_id h.1 h.2
theorem w64_r {x : Int} (h : r64 x) : w64 x = x := w64_id h.1 h.2
theorem r64_of {x : Int} (h : r32 x) : r64 x := by unfold r32 r64 at *; omega
theorem bm32 (x : Int) : x.bmod (2 ^ 32) = w32 x := by
  rw [show (2 ^ 32 : Nat) = 4294967296 by decide]
  unfold w32 Int.bmod; dsimp only; split <;> omega
theorem bm64 (x : Int) : x.bmod (2 ^ 64) = w64 x := by
  rw [show (2 ^ 64 : Nat) = 18446744073709551616 by decide]
  unfold w64 Int.bmod; dsimp only; split <;> omega
theorem bm8 (x : Int) : x.bmod (2 ^ 8) = w8 x := by
  rw [show (2 ^ 8 : Nat) = 256 by decide]
  unfold w8 Int.bmod; dsimp only; split <;> omega
theorem oi_t (x : Int) : (Int32.ofInt x).toInt = w32 x := by rw [Int32.toInt_ofInt]; exact bm32 x
theorem ol_t (x : Int) : (Int64.ofInt x).toInt = w64 x := by rw [Int64.toInt_ofInt]; exact bm64 x
theorem oi_tr {x : Int} (h : r32 x) : (Int32.ofInt x).toInt = x := (oi_t x).trans (w32_r h)
theorem ol_tr {x : Int} (h : r64 x) : (Int64.ofInt x).toInt = x := (ol_t x).trans (w64_r h)
theorem oi_rt (x : Int32) : r32 x.toInt := by
  have h := oi_t x.toInt
  rw [Int32.ofInt_toInt] at h
  rw [h]; exact r32_w _
theorem ol_rt (x : Int64) : r64 x.toInt := by
  have h := ol_t x.toInt
  rw [Int64.ofInt_toInt] at h
  rw [h]; exact r64_w _
theorem oi_w (x : Int) : Int32.ofInt (w32 x) = Int32.ofInt x := by
  rw [← Int32.toInt_inj, oi_tr (r32_w x), oi_t]
theorem ol_w (x : Int) : Int64.ofInt (w64 x) = Int64.ofInt x := by
  rw [← Int64.toInt_inj, ol_tr (r64_w x), ol_t]
theorem oi_of (x : Int32) {y : Int} (h : x.toInt = y) : x = Int32.ofInt y := by rw [← h, Int32.ofInt_toInt]
theorem ol_of (x : Int64) {y : Int} (h : x.toInt = y) : x = Int64.ofInt y := by rw [← h, Int64.ofInt_toInt]
theorem oi_add (x y : Int) : Int32.ofInt x + Int32.ofInt y = Int32.ofInt (w32 (x + y)) := by rw [oi_w, Int32.ofInt_add]
theorem oi_sub (x y : Int) : Int32.ofInt x - Int32.ofInt y = Int32.ofInt (w32 (x - y)) := by rw [oi_w, Int32.ofInt_sub]
theorem oi_mul (x y : Int) : Int32.ofInt x * Int32.ofInt y = Int32.ofInt (w32 (x * y)) := by rw [oi_w, Int32.ofInt_mul]
theorem ol_add (x y : Int) : Int64.ofInt x + Int64.ofInt y = Int64.ofInt (w64 (x + y)) := by rw [ol_w, Int64.ofInt_add]
theorem ol_sub (x y : Int) : Int64.ofInt x - Int64.ofInt y = Int64.ofInt (w64 (x - y)) := by rw [ol_w, Int64.ofInt_sub]
theorem ol_mul (x y : Int) : Int64.ofInt x * Int64.ofInt y = Int64.ofInt (w64 (x * y)) := by rw [ol_w, Int64.ofInt_mul]
theorem oi_lt {x y : Int} (hx : r32 x) (hy : r32 y) : Int32.ofInt x < Int32.ofInt y ↔ x < y := by rw [Int32.lt_iff_toInt_lt, oi_tr hx, oi_tr hy]
theorem oi_le {x y : Int} (hx : r32 x) (hy : r32 y) : Int32.ofInt x ≤ Int32.ofInt y ↔ x ≤ y := by rw [Int32.le_iff_toInt_le, oi_tr hx, oi_tr hy]
theorem oi_eq {x y : Int} (hx : r32 x) (hy : r32 y) : Int32.ofInt x = Int32.ofInt y ↔ x = y := by rw [← Int32.toInt_inj, oi_tr hx, oi_tr hy]
theorem ol_lt {x y : Int} (hx : r64 x) (hy : r64 y) : Int64.ofInt x < Int64.ofInt y ↔ x < y := by rw [Int64.lt_iff_toInt_lt, ol_tr hx, ol_tr hy]
theorem ol_le {x y : Int} (hx : r64 x) (hy : r64 y) : Int64.ofInt x ≤ Int64.ofInt y ↔ x ≤ y := by rw [Int64.le_iff_toInt_le, ol_tr hx, ol_tr hy]
theorem ol_eq {x y : Int} (hx : r64 x) (hy : r64 y) : Int64.ofInt x = Int64.ofInt y ↔ x = y := by rw [← Int64.toInt_inj, ol_tr hx, ol_tr hy]
theorem oi_0 : (0 : Int32) = Int32.ofInt 0 := by decide
theorem oi_div {x y : Int} (hx : r32 x) (hy : r32 y) : Int32.ofInt x / Int32.ofInt y = Int32.ofInt (w32 (x.tdiv y)) := oi_of _ (by rw [Int32.toInt_div, oi_tr hx, oi_tr hy]; exact bm32 _)
theorem ol_div {x y : Int} (hx : r64 x) (hy : r64 y) : Int64.ofInt x / Int64.ofInt y = Int64.ofInt (w64 (x.tdiv y)) := ol_of _ (by rw [Int64.toInt_div, ol_tr hx, ol_tr hy]; exact bm64 _)
theorem ol_rem {x y : Int} (hx : r64 x) (hy : r64 y) : Int64.ofInt x - Int64.ofInt x / Int64.ofInt y * Int64.ofInt y = Int64.ofInt (w64 (x - w64 (w64 (x.tdiv y) * y))) := by
  rw [ol_div hx hy, ol_mul, ol_sub]
def andI (x y : Int) : Int := (Int32.ofInt x &&& Int32.ofInt y).toInt
def orI (x y : Int) : Int := (Int32.ofInt x ||| Int32.ofInt y).toInt
def shlI (x y : Int) : Int := (Int32.ofInt x <<< (Int32.ofInt y &&& 31)).toInt
def shrI (x y : Int) : Int := (Int32.ofInt x >>> (Int32.ofInt y &&& 31)).toInt
def andL (x y : Int) : Int := (Int64.ofInt x &&& Int64.ofInt y).toInt
def orL (x y : Int) : Int := (Int64.ofInt x ||| Int64.ofInt y).toInt
def shlL (x y : Int) : Int := (Int64.ofInt x <<< ((Int32.ofInt y).toInt64 &&& 63)).toInt
def shrL (x y : Int) : Int := (Int64.ofInt x >>> ((Int32.ofInt y).toInt64 &&& 63)).toInt
def ushrL (x y : Int) : Int := ((Int64.ofInt x).toUInt64 >>> ((Int32.ofInt y).toInt64.toUInt64 &&& Int64.toUInt64 63)).toInt64.toInt
theorem oi_i2l {x : Int} (hx : r32 x) : (Int32.ofInt x).toInt64 = Int64.ofInt x := ol_of _ (by rw [Int32.toInt_toInt64, oi_tr hx])
theorem ol_l2i (x : Int) : (Int64.ofInt x).toInt32 = Int32.ofInt (w32 x) := oi_of _ (by rw [Int64.toInt_toInt32, bm32, ol_t]; unfold w32 w64; omega)
theorem oi_i2b (x : Int) : (Int32.ofInt x).toInt8.toInt32 = Int32.ofInt (w8 x) := oi_of _ (by rw [Int8.toInt_toInt32, Int32.toInt_toInt8, bm8, oi_t]; unfold w8 w32; omega)
theorem oi_clamp {x : Int} (hx : r32 x) (h0 : 0 ≤ x) : (Int32.ofInt x).toNatClampNeg = x.toNat := by
  show (Int32.ofInt x).toInt.toNat = _
  rw [oi_tr hx]
theorem oi_in {x : Int} {n : Nat} (hx : r32 x) (h0 : 0 ≤ x) (h1 : x < n) : vp_in (Int32.ofInt x) n := by
  rw [vp_in_iff, oi_tr hx]; exact ⟨h0, h1⟩
/-! ===== memory ===== -/
abbrev AV : Type := Int ⊕ (Int ⊕ Nat)
abbrev vI (x : Int) : AV := Sum.inl x
abbrev vL (x : Int) : AV := Sum.inr (Sum.inl x)
abbrev vR (k : Nat) : AV := Sum.inr (Sum.inr k)
abbrev Mem : Type := Nat → Nat → Int
def fu (f : Nat → Int) (j : Nat) (x : Int) : Nat → Int := fun b => if b = j then x else f b
def mu (s : Mem) (k j : Nat) (x : Int) : Mem := fun a => if a = k then fu (s k) j x else s a
theorem fu_same (f : Nat → Int) (j : Nat) (x : Int) : fu f j x j = x := if_pos rfl
theorem fu_ne (f : Nat → Int) {j b : Nat} (x : Int) (h : b ≠ j) : fu f j x b = f b := if_neg h
theorem mu_same (s : Mem) (k j : Nat) (x : Int) : mu s k j x k = fu (s k) j x := if_pos rfl
theorem mu_ne (s : Mem) {k a : Nat} (j : Nat) (x : Int) (h : a ≠ k) : mu s k j x a = s a := if_neg h
end
section
/-! ===== the words: one list for all methods ===== -/
def ab_nest : Cond → Bool
  | .methodLinkNest .. => true
  | .fieldLinkNest .. => true
  | _ => false
def ab_good (w : Cond) : Bool := w.onTables && (w.keeps || ab_nest w)
def ab_TW : List Cond := lw_tbl.filter ab_good
theorem ab_in (i : Nat) {w : Cond} (h : lw_tbl[i]? = some w) (hg : ab_good w = true) : w ∈ ab_TW := List.mem_filter.mpr ⟨List.mem_of_getElem? h, hg⟩
theorem ab_ins {ws : List Cond} (ps : List Nat) (hp : ws = ps.filterMap (fun i => lw_tbl[i]?)) (hg : ws.all ab_good = true) : ∀ w ∈ ws, w ∈ ab_TW := by
  intro w hw
  have h1 := List.all_eq_true.mp hg w hw
  rw [hp] at hw
  obtain ⟨i, -, hi⟩ := List.mem_filterMap.mp hw
  exact ab_in i hi h1
/-- the words hold at a state, whatever the arguments -/
def ab_Ws (U : State) : Prop := ∀ w ∈ ab_TW, va_Nw w U
theorem ab_onT {w : Cond} (h : w ∈ ab_TW) : w.onTables = true := by
  have h1 := (List.mem_filter.mp h).2
  simp only [ab_good, Bool.and_eq_true] at h1
  exact h1.1
theorem ab_Ws.use {U : State} (h : ab_Ws U) (args : Array Value) : ∀ w ∈ ab_TW, w.before args U = true := fun w hw => va_Nw.use (ab_onT hw) (h w hw)
theorem ab_Ws.same {u U : State} (h : ab_Ws u) (e : u.vm = U.vm) : ab_Ws U := fun w hw => va_Nw.same (ab_onT hw) e (h w hw)
theorem ab_Ws.warm {s U : State} (h : ab_Ws s) (hW : s.WarmedH U.vm) : ab_Ws U := by
  intro w hw
  have h1 := (List.mem_filter.mp hw).2
  simp only [ab_good, Bool.and_eq_true, Bool.or_eq_true] at h1
  rcases h1.2 with hk | hn
  · exact word_at hW (Or.inl (by rw [h1.1, hk]; rfl)) (h w hw)
  · cases w <;> first | exact va_Nw.warmF hW (h _ hw) | exact va_Nw.warmM hW (h _ hw) | exact absurd hn (by intro q; cases q)
theorem wd_0 : Cond.selects RX6 yX6_toBegin yX6_toBegin ∈ ab_TW := ab_in 0 (by decide +kernel) (by decide +kernel)
theorem wd_1 : Cond.selects RX6 yX6_readItem yX6_readItem ∈ ab_TW := ab_in 1 (by decide +kernel) (by decide +kernel)
theorem wd_2 : Cond.selects RX6 yX6_readNumber yX6_readNumber ∈ ab_TW := ab_in 2 (by decide +kernel) (by decide +kernel)
theorem wd_3 : Cond.selects RX6 yX6_isSound yX6_isSound ∈ ab_TW := ab_in 3 (by decide +kernel) (by decide +kernel)
theorem wd_4 : Cond.selects RX6 yX6_tally yX6_tally ∈ ab_TW := ab_in 4 (by decide +kernel) (by decide +kernel)
theorem wd_5 : Cond.selects RX5 yX5_openHoursOf yX5_openHoursOf ∈ ab_TW := ab_in 5 (by decide +kernel) (by decide +kernel)
theorem wd_6 : Cond.selects RX5 yX5_reckonBank yX5_reckonBank ∈ ab_TW := ab_in 6 (by decide +kernel) (by decide +kernel)
theorem wd_7 : Cond.selects RX5 yX5_reckonArrivals yX5_reckonArrivals ∈ ab_TW := ab_in 7 (by decide +kernel) (by decide +kernel)
theorem wd_8 : Cond.selects RX2 yX2_arrivalOf yX2_arrivalOf ∈ ab_TW := ab_in 8 (by decide +kernel) (by decide +kernel)
theorem wd_9 : Cond.selects RX2 yX2_putInOrder yX2_putInOrder ∈ ab_TW := ab_in 9 (by decide +kernel) (by decide +kernel)
theorem wd_10 : Cond.selects RX2 yX2_goesAhead yX2_goesAhead ∈ ab_TW := ab_in 10 (by decide +kernel) (by decide +kernel)
theorem wd_11 : Cond.selects RX2 yX2_letIn yX2_letIn ∈ ab_TW := ab_in 11 (by decide +kernel) (by decide +kernel)
theorem wd_12 : Cond.selects RX2 yX2_letInAt yX2_letInAt ∈ ab_TW := ab_in 12 (by decide +kernel) (by decide +kernel)
theorem wd_13 : Cond.selects RX2 yX2_worthOfSort yX2_worthOfSort ∈ ab_TW := ab_in 13 (by decide +kernel) (by decide +kernel)
theorem wd_14 : Cond.selects RX8 yX8_worthByRule yX8_worthByRule ∈ ab_TW := ab_in 14 (by decide +kernel) (by decide +kernel)
theorem wd_15 : Cond.selects RX4 yX4_runs yX4_runs ∈ ab_TW := ab_in 15 (by decide +kernel) (by decide +kernel)
theorem wd_16 : Cond.selects RX4 yX4_boatsGone yX4_boatsGone ∈ ab_TW := ab_in 16 (by decide +kernel) (by decide +kernel)
theorem wd_17 : Cond.selects RX4 yX4_likeliest yX4_likeliest ∈ ab_TW := ab_in 17 (by decide +kernel) (by decide +kernel)
theorem wd_18 : Cond.selects RX1 yX1_bestOfGroups yX1_bestOfGroups ∈ ab_TW := ab_in 18 (by decide +kernel) (by decide +kernel)
theorem wd_19 : Cond.selects RX1 yX1_bestFrom yX1_bestFrom ∈ ab_TW := ab_in 19 (by decide +kernel) (by decide +kernel)
theorem wd_20 : Cond.selects RX1 yX1_sumOfStaying yX1_sumOfStaying ∈ ab_TW := ab_in 20 (by decide +kernel) (by decide +kernel)
theorem wd_21 : Cond.selects RX1 yX1_sumOfRunning yX1_sumOfRunning ∈ ab_TW := ab_in 21 (by decide +kernel) (by decide +kernel)
theorem wd_22 : Cond.selects RX8 yX8_meanOfGun yX8_meanOfGun ∈ ab_TW := ab_in 22 (by decide +kernel) (by decide +kernel)
theorem wd_23 : Cond.selects RX9 yX9_begins yX9_begins ∈ ab_TW := ab_in 23 (by decide +kernel) (by decide +kernel)
theorem wd_24 : Cond.selects RX9 yX9_anew yX9_anew ∈ ab_TW := ab_in 24 (by decide +kernel) (by decide +kernel)
theorem wd_25 : Cond.selects RX9 yX9_reads yX9_reads ∈ ab_TW := ab_in 25 (by decide +kernel) (by decide +kernel)
theorem wd_26 : Cond.selects RX9 yX9_byteAt yX9_byteAt ∈ ab_TW := ab_in 26 (by decide +kernel) (by decide +kernel)
theorem wd_27 : Cond.selects RX9 yX9_readsItem yX9_readsItem ∈ ab_TW := ab_in 27 (by decide +kernel) (by decide +kernel)
theorem wd_28 : Cond.selects RX9 yX9_readsHarbour yX9_readsHarbour ∈ ab_TW := ab_in 28 (by decide +kernel) (by decide +kernel)
theorem wd_29 : Cond.selects RX9 yX9_draft yX9_draft ∈ ab_TW := ab_in 29 (by decide +kernel) (by decide +kernel)
theorem wd_30 : Cond.selects RX9 yX9_number yX9_number ∈ ab_TW := ab_in 30 (by decide +kernel) (by decide +kernel)
theorem wd_31 : Cond.selects RX9 yX9_puts yX9_puts ∈ ab_TW := ab_in 31 (by decide +kernel) (by decide +kernel)
theorem wd_32 : Cond.selects RX9 yX9_readsSort yX9_readsSort ∈ ab_TW := ab_in 32 (by decide +kernel) (by decide +kernel)
theorem wd_33 : Cond.selects RX9 yX9_readsStorm yX9_readsStorm ∈ ab_TW := ab_in 33 (by decide +kernel) (by decide +kernel)
theorem wd_34 : Cond.selects RX9 yX9_isStorm yX9_isStorm ∈ ab_TW := ab_in 34 (by decide +kernel) (by decide +kernel)
theorem wd_35 : Cond.selects RX9 yX9_strength yX9_strength ∈ ab_TW := ab_in 35 (by decide +kernel) (by decide +kernel)
theorem wd_36 : Cond.selects RX9 yX9_glass yX9_glass ∈ ab_TW := ab_in 36 (by decide +kernel) (by decide +kernel)
theorem wd_37 : Cond.selects RX9 yX9_isHarbour yX9_isHarbour ∈ ab_TW := ab_in 37 (by decide +kernel) (by decide +kernel)
theorem wd_38 : Cond.selects RX9 yX9_isOpen yX9_isOpen ∈ ab_TW := ab_in 38 (by decide +kernel) (by decide +kernel)
theorem wd_39 : Cond.selects RX9 yX9_isSort yX9_isSort ∈ ab_TW := ab_in 39 (by decide +kernel) (by decide +kernel)
theorem wd_40 : Cond.selects RX9 yX9_riskOf yX9_riskOf ∈ ab_TW := ab_in 40 (by decide +kernel) (by decide +kernel)
theorem wd_41 : Cond.selects RX9 yX9_reachOf yX9_reachOf ∈ ab_TW := ab_in 41 (by decide +kernel) (by decide +kernel)
theorem wd_42 : Cond.selects RX9 yX9_away yX9_away ∈ ab_TW := ab_in 42 (by decide +kernel) (by decide +kernel)
theorem wd_43 : Cond.selects RX9 yX9_madeBy yX9_madeBy ∈ ab_TW := ab_in 43 (by decide +kernel) (by decide +kernel)
theorem wd_44 : Cond.selects RX9 yX9_asPlanned yX9_asPlanned ∈ ab_TW := ab_in 44 (by decide +kernel) (by decide +kernel)
theorem wd_45 : Cond.selects RX9 yX9_goesBy yX9_goesBy ∈ ab_TW := ab_in 45 (by decide +kernel) (by decide +kernel)
theorem wd_46 : Cond.selects RX9 yX9_nextIn yX9_nextIn ∈ ab_TW := ab_in 46 (by decide +kernel) (by decide +kernel)
theorem wd_47 : Cond.selects RX9 yX9_weightOf yX9_weightOf ∈ ab_TW := ab_in 47 (by decide +kernel) (by decide +kernel)
theorem wd_48 : Cond.selects RX9 yX9_hour yX9_hour ∈ ab_TW := ab_in 48 (by decide +kernel) (by decide +kernel)
theorem wd_49 : Cond.selects RX9 yX9_boats yX9_boats ∈ ab_TW := ab_in 49 (by decide +kernel) (by decide +kernel)
theorem wd_50 : Cond.selects RX9 yX9_firstOf yX9_firstOf ∈ ab_TW := ab_in 50 (by decide +kernel) (by decide +kernel)
theorem wd_51 : Cond.selects RX9 yX9_meanOf yX9_meanOf ∈ ab_TW := ab_in 51 (by decide +kernel) (by decide +kernel)
theorem wd_52 : Cond.selects RX9 yX9_isThought yX9_isThought ∈ ab_TW := ab_in 52 (by decide +kernel) (by decide +kernel)
theorem wd_53 : Cond.selects RX9 yX9_tenths yX9_tenths ∈ ab_TW := ab_in 53 (by decide +kernel) (by decide +kernel)
theorem wd_54 : Cond.selects RX9 yX9_ruled yX9_ruled ∈ ab_TW := ab_in 54 (by decide +kernel) (by decide +kernel)
theorem wd_55 : Cond.selects RX9 yX9_openest yX9_openest ∈ ab_TW := ab_in 55 (by decide +kernel) (by decide +kernel)
theorem wd_56 : Cond.selects RX9 yX9_getsIn yX9_getsIn ∈ ab_TW := ab_in 56 (by decide +kernel) (by decide +kernel)
theorem wd_57 : Cond.selects RX9 yX9_nearest yX9_nearest ∈ ab_TW := ab_in 57 (by decide +kernel) (by decide +kernel)
theorem wd_58 : Cond.selects RX9 yX9_laysAlone yX9_laysAlone ∈ ab_TW := ab_in 58 (by decide +kernel) (by decide +kernel)
theorem wd_59 : Cond.selects RX9 yX9_wayOf yX9_wayOf ∈ ab_TW := ab_in 59 (by decide +kernel) (by decide +kernel)
theorem wd_60 : Cond.selects RX9 yX9_staying yX9_staying ∈ ab_TW := ab_in 60 (by decide +kernel) (by decide +kernel)
theorem wd_61 : Cond.selects RX9 yX9_running yX9_running ∈ ab_TW := ab_in 61 (by decide +kernel) (by decide +kernel)
theorem wd_62 : Cond.selects RX9 yX9_seeing yX9_seeing ∈ ab_TW := ab_in 62 (by decide +kernel) (by decide +kernel)
theorem wd_63 : Cond.selects RX9 yX9_betters yX9_betters ∈ ab_TW := ab_in 63 (by decide +kernel) (by decide +kernel)
theorem wd_64 : Cond.selects RX9 yX9_gunAt yX9_gunAt ∈ ab_TW := ab_in 64 (by decide +kernel) (by decide +kernel)
theorem wd_65 : Cond.initialized RL ∈ ab_TW := ab_in 65 (by decide +kernel) (by decide +kernel)
theorem wd_66 : Cond.initialized RX8 ∈ ab_TW := ab_in 66 (by decide +kernel) (by decide +kernel)
theorem wd_67 : Cond.initialized RX6 ∈ ab_TW := ab_in 67 (by decide +kernel) (by decide +kernel)
theorem wd_68 : Cond.initialized RX5 ∈ ab_TW := ab_in 68 (by decide +kernel) (by decide +kernel)
theorem wd_69 : Cond.initialized RX7 ∈ ab_TW := ab_in 69 (by decide +kernel) (by decide +kernel)
theorem wd_70 : Cond.initialized RX3 ∈ ab_TW := ab_in 70 (by decide +kernel) (by decide +kernel)
theorem wd_71 : Cond.initialized RX2 ∈ ab_TW := ab_in 71 (by decide +kernel) (by decide +kernel)
theorem wd_72 : Cond.initialized RX4 ∈ ab_TW := ab_in 72 (by decide +kernel) (by decide +kernel)
theorem wd_73 : Cond.initialized RX1 ∈ ab_TW := ab_in 73 (by decide +kernel) (by decide +kernel)
theorem wd_74 : Cond.initialized RX0 ∈ ab_TW := ab_in 74 (by decide +kernel) (by decide +kernel)
theorem wd_75 : Cond.initialized RJ0 ∈ ab_TW := ab_in 75 (by decide +kernel) (by decide +kernel)
theorem wd_76 : Cond.initialized RJ1 ∈ ab_TW := ab_in 76 (by decide +kernel) (by decide +kernel)
theorem wd_77 : Cond.initialized RJ3 ∈ ab_TW := ab_in 77 (by decide +kernel) (by decide +kernel)
theorem wd_78 : Cond.initialized RJ2 ∈ ab_TW := ab_in 78 (by decide +kernel) (by decide +kernel)
theorem wd_79 : Cond.initialized "java/lang/Math" ∈ ab_TW := ab_in 79 (by decide +kernel) (by decide +kernel)
theorem wd_80 : Cond.initialized RX9 ∈ ab_TW := ab_in 80 (by decide +kernel) (by decide +kernel)
theorem wd_81 : Cond.classLink RL 7 RX8 ∈ ab_TW := ab_in 81 (by decide +kernel) (by decide +kernel)
theorem wd_83 : Cond.methodLink RL 9 yX8_init ∈ ab_TW := ab_in 83 (by decide +kernel) (by decide +kernel)
theorem wd_84 : Cond.instanceMethod yX8_init ∈ ab_TW := ab_in 84 (by decide +kernel) (by decide +kernel)
theorem wd_85 : Cond.code yX8_init cX8_init 2 none ∈ ab_TW := ab_in 85 (by decide +kernel) (by decide +kernel)
theorem wd_86 : Cond.methodLink RX8 3 Lib.objectInit ∈ ab_TW := ab_in 86 (by decide +kernel) (by decide +kernel)
theorem wd_87 : Cond.instanceMethod Lib.objectInit ∈ ab_TW := ab_in 87 (by decide +kernel) (by decide +kernel)
theorem wd_88 : Cond.code Lib.objectInit ⟨#[0xb1]⟩ 1 none ∈ ab_TW := ab_in 88 (by decide +kernel) (by decide +kernel)
theorem wd_89 : Cond.classLink RX8 9 RX6 ∈ ab_TW := ab_in 89 (by decide +kernel) (by decide +kernel)
theorem wd_91 : Cond.methodLinkNest RX8 11 yX6_init "StormHarbours" ∈ ab_TW := ab_in 91 (by decide +kernel) (by decide +kernel)
theorem wd_92 : Cond.instanceMethod yX6_init ∈ ab_TW := ab_in 92 (by decide +kernel) (by decide +kernel)
theorem wd_93 : Cond.code yX6_init cX6_init 1 none ∈ ab_TW := ab_in 93 (by decide +kernel) (by decide +kernel)
theorem wd_94 : Cond.methodLink RX6 3 Lib.objectInit ∈ ab_TW := ab_in 94 (by decide +kernel) (by decide +kernel)
theorem wd_95 : Cond.fieldLink RX6 9 "StormHarbours$Text" "bytes" "[B" ∈ ab_TW := ab_in 95 (by decide +kernel) (by decide +kernel)
theorem wd_96 : Cond.fieldLink RX6 19 "StormHarbours$Text" "length" "I" ∈ ab_TW := ab_in 96 (by decide +kernel) (by decide +kernel)
theorem wd_97 : Cond.fieldLinkNest RX8 99 "StormHarbours$Text" "length" "I" "StormHarbours" ∈ ab_TW := ab_in 97 (by decide +kernel) (by decide +kernel)
theorem wd_98 : Cond.fieldLink RX6 26 "StormHarbours$Text" "at" "I" ∈ ab_TW := ab_in 98 (by decide +kernel) (by decide +kernel)
theorem wd_99 : Cond.fieldLink RX6 48 "StormHarbours$Text" "letter" "I" ∈ ab_TW := ab_in 99 (by decide +kernel) (by decide +kernel)
theorem wd_100 : Cond.fieldLink RX6 15 "StormHarbours$Text" "numbers" "[I" ∈ ab_TW := ab_in 100 (by decide +kernel) (by decide +kernel)
theorem wd_101 : Cond.fieldLink RX6 39 "StormHarbours$Text" "harbours" "I" ∈ ab_TW := ab_in 101 (by decide +kernel) (by decide +kernel)
theorem wd_102 : Cond.fieldLink RX6 42 "StormHarbours$Text" "sorts" "I" ∈ ab_TW := ab_in 102 (by decide +kernel) (by decide +kernel)
theorem wd_103 : Cond.fieldLink RX6 57 "StormHarbours$Text" "storms" "I" ∈ ab_TW := ab_in 103 (by decide +kernel) (by decide +kernel)
theorem wd_104 : Cond.fieldLink RX6 45 "StormHarbours$Text" "tenths" "I" ∈ ab_TW := ab_in 104 (by decide +kernel) (by decide +kernel)
theorem wd_126 : Cond.classLink RX8 18 RX5 ∈ ab_TW := ab_in 126 (by decide +kernel) (by decide +kernel)
theorem wd_128 : Cond.methodLinkNest RX8 20 yX5_init "StormHarbours" ∈ ab_TW := ab_in 128 (by decide +kernel) (by decide +kernel)
theorem wd_129 : Cond.instanceMethod yX5_init ∈ ab_TW := ab_in 129 (by decide +kernel) (by decide +kernel)
theorem wd_130 : Cond.code yX5_init cX5_init 1 none ∈ ab_TW := ab_in 130 (by decide +kernel) (by decide +kernel)
theorem wd_131 : Cond.methodLink RX5 3 Lib.objectInit ∈ ab_TW := ab_in 131 (by decide +kernel) (by decide +kernel)
theorem wd_132 : Cond.classLink RX5 9 "[[I" ∈ ab_TW := ab_in 132 (by decide +kernel) (by decide +kernel)
theorem wd_134 : Cond.classLink RX5 41 "[[J" ∈ ab_TW := ab_in 134 (by decide +kernel) (by decide +kernel)
theorem wd_136 : Cond.fieldLink RX5 49 "StormHarbours$Sea" "harbourCount" "I" ∈ ab_TW := ab_in 136 (by decide +kernel) (by decide +kernel)
theorem wd_137 : Cond.fieldLinkNest RX1 19 "StormHarbours$Sea" "harbourCount" "I" "StormHarbours" ∈ ab_TW := ab_in 137 (by decide +kernel) (by decide +kernel)
theorem wd_138 : Cond.fieldLinkNest RX0 48 "StormHarbours$Sea" "harbourCount" "I" "StormHarbours" ∈ ab_TW := ab_in 138 (by decide +kernel) (by decide +kernel)
theorem wd_139 : Cond.fieldLinkNest RX4 77 "StormHarbours$Sea" "harbourCount" "I" "StormHarbours" ∈ ab_TW := ab_in 139 (by decide +kernel) (by decide +kernel)
theorem wd_140 : Cond.fieldLinkNest RX2 88 "StormHarbours$Sea" "harbourCount" "I" "StormHarbours" ∈ ab_TW := ab_in 140 (by decide +kernel) (by decide +kernel)
theorem wd_141 : Cond.fieldLinkNest RX8 277 "StormHarbours$Sea" "harbourCount" "I" "StormHarbours" ∈ ab_TW := ab_in 141 (by decide +kernel) (by decide +kernel)
theorem wd_142 : Cond.fieldLink RX5 53 "StormHarbours$Sea" "sortCount" "I" ∈ ab_TW := ab_in 142 (by decide +kernel) (by decide +kernel)
theorem wd_143 : Cond.fieldLinkNest RX4 34 "StormHarbours$Sea" "sortCount" "I" "StormHarbours" ∈ ab_TW := ab_in 143 (by decide +kernel) (by decide +kernel)
theorem wd_144 : Cond.fieldLinkNest RX8 126 "StormHarbours$Sea" "sortCount" "I" "StormHarbours" ∈ ab_TW := ab_in 144 (by decide +kernel) (by decide +kernel)
theorem wd_145 : Cond.fieldLinkNest RX2 57 "StormHarbours$Sea" "sortCount" "I" "StormHarbours" ∈ ab_TW := ab_in 145 (by decide +kernel) (by decide +kernel)
theorem wd_146 : Cond.fieldLink RX5 56 "StormHarbours$Sea" "stormCount" "I" ∈ ab_TW := ab_in 146 (by decide +kernel) (by decide +kernel)
theorem wd_147 : Cond.fieldLinkNest RX2 41 "StormHarbours$Sea" "stormCount" "I" "StormHarbours" ∈ ab_TW := ab_in 147 (by decide +kernel) (by decide +kernel)
theorem wd_148 : Cond.fieldLinkNest RX4 80 "StormHarbours$Sea" "stormCount" "I" "StormHarbours" ∈ ab_TW := ab_in 148 (by decide +kernel) (by decide +kernel)
theorem wd_149 : Cond.fieldLinkNest RX1 45 "StormHarbours$Sea" "stormCount" "I" "StormHarbours" ∈ ab_TW := ab_in 149 (by decide +kernel) (by decide +kernel)
theorem wd_150 : Cond.fieldLinkNest RX8 228 "StormHarbours$Sea" "stormCount" "I" "StormHarbours" ∈ ab_TW := ab_in 150 (by decide +kernel) (by decide +kernel)
theorem wd_151 : Cond.fieldLink RX5 11 "StormHarbours$Sea" "harbours" "[[I" ∈ ab_TW := ab_in 151 (by decide +kernel) (by decide +kernel)
theorem wd_152 : Cond.fieldLinkNest RX2 117 "StormHarbours$Sea" "harbours" "[[I" "StormHarbours" ∈ ab_TW := ab_in 152 (by decide +kernel) (by decide +kernel)
theorem wd_153 : Cond.fieldLink RX5 16 "StormHarbours$Sea" "sorts" "[[I" ∈ ab_TW := ab_in 153 (by decide +kernel) (by decide +kernel)
theorem wd_154 : Cond.fieldLinkNest RX4 74 "StormHarbours$Sea" "sorts" "[[I" "StormHarbours" ∈ ab_TW := ab_in 154 (by decide +kernel) (by decide +kernel)
theorem wd_155 : Cond.fieldLinkNest RX1 59 "StormHarbours$Sea" "sorts" "[[I" "StormHarbours" ∈ ab_TW := ab_in 155 (by decide +kernel) (by decide +kernel)
theorem wd_156 : Cond.fieldLinkNest RX2 64 "StormHarbours$Sea" "sorts" "[[I" "StormHarbours" ∈ ab_TW := ab_in 156 (by decide +kernel) (by decide +kernel)
theorem wd_157 : Cond.fieldLinkNest RX8 195 "StormHarbours$Sea" "sorts" "[[I" "StormHarbours" ∈ ab_TW := ab_in 157 (by decide +kernel) (by decide +kernel)
theorem wd_158 : Cond.fieldLink RX5 19 "StormHarbours$Sea" "storms" "[[I" ∈ ab_TW := ab_in 158 (by decide +kernel) (by decide +kernel)
theorem wd_159 : Cond.fieldLinkNest RX2 46 "StormHarbours$Sea" "storms" "[[I" "StormHarbours" ∈ ab_TW := ab_in 159 (by decide +kernel) (by decide +kernel)
theorem wd_160 : Cond.fieldLinkNest RX4 90 "StormHarbours$Sea" "storms" "[[I" "StormHarbours" ∈ ab_TW := ab_in 160 (by decide +kernel) (by decide +kernel)
theorem wd_161 : Cond.fieldLinkNest RX1 63 "StormHarbours$Sea" "storms" "[[I" "StormHarbours" ∈ ab_TW := ab_in 161 (by decide +kernel) (by decide +kernel)
theorem wd_162 : Cond.fieldLinkNest RX8 231 "StormHarbours$Sea" "storms" "[[I" "StormHarbours" ∈ ab_TW := ab_in 162 (by decide +kernel) (by decide +kernel)
theorem wd_163 : Cond.fieldLink RX5 22 "StormHarbours$Sea" "miles" "[[I" ∈ ab_TW := ab_in 163 (by decide +kernel) (by decide +kernel)
theorem wd_164 : Cond.fieldLinkNest RX4 93 "StormHarbours$Sea" "miles" "[[I" "StormHarbours" ∈ ab_TW := ab_in 164 (by decide +kernel) (by decide +kernel)
theorem wd_165 : Cond.fieldLinkNest RX2 98 "StormHarbours$Sea" "miles" "[[I" "StormHarbours" ∈ ab_TW := ab_in 165 (by decide +kernel) (by decide +kernel)
theorem wd_166 : Cond.fieldLink RX5 25 "StormHarbours$Sea" "glass" "[[I" ∈ ab_TW := ab_in 166 (by decide +kernel) (by decide +kernel)
theorem wd_167 : Cond.fieldLinkNest RX4 67 "StormHarbours$Sea" "glass" "[[I" "StormHarbours" ∈ ab_TW := ab_in 167 (by decide +kernel) (by decide +kernel)
theorem wd_168 : Cond.fieldLinkNest RX8 140 "StormHarbours$Sea" "glass" "[[I" "StormHarbours" ∈ ab_TW := ab_in 168 (by decide +kernel) (by decide +kernel)
theorem wd_169 : Cond.fieldLink RX5 28 "StormHarbours$Sea" "loss" "[I" ∈ ab_TW := ab_in 169 (by decide +kernel) (by decide +kernel)
theorem wd_170 : Cond.fieldLink RX5 59 "StormHarbours$Sea" "slow" "I" ∈ ab_TW := ab_in 170 (by decide +kernel) (by decide +kernel)
theorem wd_171 : Cond.fieldLink RX5 32 "StormHarbours$Sea" "strength" "[[I" ∈ ab_TW := ab_in 171 (by decide +kernel) (by decide +kernel)
theorem wd_172 : Cond.fieldLinkNest RX8 136 "StormHarbours$Sea" "strength" "[[I" "StormHarbours" ∈ ab_TW := ab_in 172 (by decide +kernel) (by decide +kernel)
theorem wd_173 : Cond.fieldLink RX5 35 "StormHarbours$Sea" "openHours" "[[I" ∈ ab_TW := ab_in 173 (by decide +kernel) (by decide +kernel)
theorem wd_174 : Cond.fieldLink RX5 38 "StormHarbours$Sea" "alive" "[[I" ∈ ab_TW := ab_in 174 (by decide +kernel) (by decide +kernel)
theorem wd_175 : Cond.fieldLink RX5 43 "StormHarbours$Sea" "fished" "[[J" ∈ ab_TW := ab_in 175 (by decide +kernel) (by decide +kernel)
theorem wd_176 : Cond.fieldLink RX5 46 "StormHarbours$Sea" "arrivals" "[[I" ∈ ab_TW := ab_in 176 (by decide +kernel) (by decide +kernel)
theorem wd_209 : Cond.classLink RX8 25 RX7 ∈ ab_TW := ab_in 209 (by decide +kernel) (by decide +kernel)
theorem wd_211 : Cond.methodLinkNest RX8 27 yX7_init "StormHarbours" ∈ ab_TW := ab_in 211 (by decide +kernel) (by decide +kernel)
theorem wd_212 : Cond.instanceMethod yX7_init ∈ ab_TW := ab_in 212 (by decide +kernel) (by decide +kernel)
theorem wd_213 : Cond.code yX7_init cX7_init 1 none ∈ ab_TW := ab_in 213 (by decide +kernel) (by decide +kernel)
theorem wd_214 : Cond.methodLink RX7 3 Lib.objectInit ∈ ab_TW := ab_in 214 (by decide +kernel) (by decide +kernel)
theorem wd_215 : Cond.classLink RX7 9 RX3 ∈ ab_TW := ab_in 215 (by decide +kernel) (by decide +kernel)
theorem wd_217 : Cond.methodLinkNest RX7 11 yX3_init "StormHarbours" ∈ ab_TW := ab_in 217 (by decide +kernel) (by decide +kernel)
theorem wd_218 : Cond.instanceMethod yX3_init ∈ ab_TW := ab_in 218 (by decide +kernel) (by decide +kernel)
theorem wd_219 : Cond.code yX3_init cX3_init 1 none ∈ ab_TW := ab_in 219 (by decide +kernel) (by decide +kernel)
theorem wd_220 : Cond.methodLink RX3 3 Lib.objectInit ∈ ab_TW := ab_in 220 (by decide +kernel) (by decide +kernel)
theorem wd_221 : Cond.fieldLink RX3 9 "StormHarbours$Plans" "hour" "[I" ∈ ab_TW := ab_in 221 (by decide +kernel) (by decide +kernel)
theorem wd_222 : Cond.fieldLinkNest RX0 29 "StormHarbours$Plans" "hour" "[I" "StormHarbours" ∈ ab_TW := ab_in 222 (by decide +kernel) (by decide +kernel)
theorem wd_223 : Cond.fieldLinkNest RX4 40 "StormHarbours$Plans" "hour" "[I" "StormHarbours" ∈ ab_TW := ab_in 223 (by decide +kernel) (by decide +kernel)
theorem wd_224 : Cond.fieldLinkNest RX2 72 "StormHarbours$Plans" "hour" "[I" "StormHarbours" ∈ ab_TW := ab_in 224 (by decide +kernel) (by decide +kernel)
theorem wd_225 : Cond.fieldLinkNest RX8 211 "StormHarbours$Plans" "hour" "[I" "StormHarbours" ∈ ab_TW := ab_in 225 (by decide +kernel) (by decide +kernel)
theorem wd_226 : Cond.fieldLink RX3 15 "StormHarbours$Plans" "harbour" "[I" ∈ ab_TW := ab_in 226 (by decide +kernel) (by decide +kernel)
theorem wd_227 : Cond.fieldLinkNest RX0 35 "StormHarbours$Plans" "harbour" "[I" "StormHarbours" ∈ ab_TW := ab_in 227 (by decide +kernel) (by decide +kernel)
theorem wd_228 : Cond.fieldLinkNest RX2 95 "StormHarbours$Plans" "harbour" "[I" "StormHarbours" ∈ ab_TW := ab_in 228 (by decide +kernel) (by decide +kernel)
theorem wd_234 : Cond.fieldLink RX7 12 "StormHarbours$Watch" "plans" "LStormHarbours$Plans;" ∈ ab_TW := ab_in 234 (by decide +kernel) (by decide +kernel)
theorem wd_235 : Cond.fieldLinkNest RX0 23 "StormHarbours$Watch" "plans" "LStormHarbours$Plans;" "StormHarbours" ∈ ab_TW := ab_in 235 (by decide +kernel) (by decide +kernel)
theorem wd_236 : Cond.fieldLinkNest RX4 19 "StormHarbours$Watch" "plans" "LStormHarbours$Plans;" "StormHarbours" ∈ ab_TW := ab_in 236 (by decide +kernel) (by decide +kernel)
theorem wd_237 : Cond.fieldLinkNest RX8 164 "StormHarbours$Watch" "plans" "LStormHarbours$Plans;" "StormHarbours" ∈ ab_TW := ab_in 237 (by decide +kernel) (by decide +kernel)
theorem wd_238 : Cond.fieldLink RX7 21 "StormHarbours$Watch" "glassAt" "I" ∈ ab_TW := ab_in 238 (by decide +kernel) (by decide +kernel)
theorem wd_239 : Cond.fieldLinkNest RX4 71 "StormHarbours$Watch" "glassAt" "I" "StormHarbours" ∈ ab_TW := ab_in 239 (by decide +kernel) (by decide +kernel)
theorem wd_240 : Cond.fieldLinkNest RX8 219 "StormHarbours$Watch" "glassAt" "I" "StormHarbours" ∈ ab_TW := ab_in 240 (by decide +kernel) (by decide +kernel)
theorem wd_241 : Cond.fieldLink RX7 25 "StormHarbours$Watch" "herdAt" "I" ∈ ab_TW := ab_in 241 (by decide +kernel) (by decide +kernel)
theorem wd_242 : Cond.fieldLinkNest RX4 64 "StormHarbours$Watch" "herdAt" "I" "StormHarbours" ∈ ab_TW := ab_in 242 (by decide +kernel) (by decide +kernel)
theorem wd_243 : Cond.fieldLinkNest RX8 222 "StormHarbours$Watch" "herdAt" "I" "StormHarbours" ∈ ab_TW := ab_in 243 (by decide +kernel) (by decide +kernel)
theorem wd_244 : Cond.fieldLink RX7 28 "StormHarbours$Watch" "hour" "I" ∈ ab_TW := ab_in 244 (by decide +kernel) (by decide +kernel)
theorem wd_245 : Cond.fieldLinkNest RX8 214 "StormHarbours$Watch" "hour" "I" "StormHarbours" ∈ ab_TW := ab_in 245 (by decide +kernel) (by decide +kernel)
theorem wd_246 : Cond.fieldLink RX7 31 "StormHarbours$Watch" "thought" "I" ∈ ab_TW := ab_in 246 (by decide +kernel) (by decide +kernel)
theorem wd_247 : Cond.fieldLinkNest RX0 38 "StormHarbours$Watch" "thought" "I" "StormHarbours" ∈ ab_TW := ab_in 247 (by decide +kernel) (by decide +kernel)
theorem wd_248 : Cond.fieldLinkNest RX4 83 "StormHarbours$Watch" "thought" "I" "StormHarbours" ∈ ab_TW := ab_in 248 (by decide +kernel) (by decide +kernel)
theorem wd_249 : Cond.fieldLinkNest RX8 204 "StormHarbours$Watch" "thought" "I" "StormHarbours" ∈ ab_TW := ab_in 249 (by decide +kernel) (by decide +kernel)
theorem wd_262 : Cond.classLink RX8 36 RX2 ∈ ab_TW := ab_in 262 (by decide +kernel) (by decide +kernel)
theorem wd_264 : Cond.methodLink RX8 38 yX2_init ∈ ab_TW := ab_in 264 (by decide +kernel) (by decide +kernel)
theorem wd_265 : Cond.instanceMethod yX2_init ∈ ab_TW := ab_in 265 (by decide +kernel) (by decide +kernel)
theorem wd_266 : Cond.code yX2_init cX2_init 2 none ∈ ab_TW := ab_in 266 (by decide +kernel) (by decide +kernel)
theorem wd_267 : Cond.methodLink RX2 3 Lib.objectInit ∈ ab_TW := ab_in 267 (by decide +kernel) (by decide +kernel)
theorem wd_268 : Cond.classLink RX2 21 "[[I" ∈ ab_TW := ab_in 268 (by decide +kernel) (by decide +kernel)
theorem wd_269 : Cond.fieldLink RX2 26 "StormHarbours$Passage" "sea" "LStormHarbours$Sea;" ∈ ab_TW := ab_in 269 (by decide +kernel) (by decide +kernel)
theorem wd_270 : Cond.fieldLink RX2 30 "StormHarbours$Passage" "slowed" "I" ∈ ab_TW := ab_in 270 (by decide +kernel) (by decide +kernel)
theorem wd_271 : Cond.fieldLink RX2 38 "StormHarbours$Passage" "slowSpeed" "I" ∈ ab_TW := ab_in 271 (by decide +kernel) (by decide +kernel)
theorem wd_272 : Cond.fieldLink RX2 34 "StormHarbours$Passage" "dearFirst" "Z" ∈ ab_TW := ab_in 272 (by decide +kernel) (by decide +kernel)
theorem wd_273 : Cond.fieldLink RX2 9 "StormHarbours$Passage" "arrival" "[I" ∈ ab_TW := ab_in 273 (by decide +kernel) (by decide +kernel)
theorem wd_274 : Cond.fieldLink RX2 15 "StormHarbours$Passage" "order" "[I" ∈ ab_TW := ab_in 274 (by decide +kernel) (by decide +kernel)
theorem wd_275 : Cond.fieldLink RX2 18 "StormHarbours$Passage" "inside" "[I" ∈ ab_TW := ab_in 275 (by decide +kernel) (by decide +kernel)
theorem wd_276 : Cond.fieldLinkNest RX8 191 "StormHarbours$Passage" "inside" "[I" "StormHarbours" ∈ ab_TW := ab_in 276 (by decide +kernel) (by decide +kernel)
theorem wd_277 : Cond.fieldLink RX2 23 "StormHarbours$Passage" "entry" "[[I" ∈ ab_TW := ab_in 277 (by decide +kernel) (by decide +kernel)
theorem wd_278 : Cond.fieldLinkNest RX8 198 "StormHarbours$Passage" "entry" "[[I" "StormHarbours" ∈ ab_TW := ab_in 278 (by decide +kernel) (by decide +kernel)
theorem wd_296 : Cond.classLink RX8 45 RX4 ∈ ab_TW := ab_in 296 (by decide +kernel) (by decide +kernel)
theorem wd_298 : Cond.methodLink RX8 47 yX4_init ∈ ab_TW := ab_in 298 (by decide +kernel) (by decide +kernel)
theorem wd_299 : Cond.instanceMethod yX4_init ∈ ab_TW := ab_in 299 (by decide +kernel) (by decide +kernel)
theorem wd_300 : Cond.code yX4_init cX4_init 3 none ∈ ab_TW := ab_in 300 (by decide +kernel) (by decide +kernel)
theorem wd_301 : Cond.methodLink RX4 3 Lib.objectInit ∈ ab_TW := ab_in 301 (by decide +kernel) (by decide +kernel)
theorem wd_302 : Cond.fieldLink RX4 9 "StormHarbours$Rules" "sea" "LStormHarbours$Sea;" ∈ ab_TW := ab_in 302 (by decide +kernel) (by decide +kernel)
theorem wd_303 : Cond.fieldLink RX4 15 "StormHarbours$Rules" "watch" "LStormHarbours$Watch;" ∈ ab_TW := ab_in 303 (by decide +kernel) (by decide +kernel)
theorem wd_309 : Cond.classLink RX8 54 RX1 ∈ ab_TW := ab_in 309 (by decide +kernel) (by decide +kernel)
theorem wd_311 : Cond.methodLink RX8 56 yX1_init ∈ ab_TW := ab_in 311 (by decide +kernel) (by decide +kernel)
theorem wd_312 : Cond.instanceMethod yX1_init ∈ ab_TW := ab_in 312 (by decide +kernel) (by decide +kernel)
theorem wd_313 : Cond.code yX1_init cX1_init 2 none ∈ ab_TW := ab_in 313 (by decide +kernel) (by decide +kernel)
theorem wd_314 : Cond.methodLink RX1 3 Lib.objectInit ∈ ab_TW := ab_in 314 (by decide +kernel) (by decide +kernel)
theorem wd_315 : Cond.fieldLink RX1 9 "StormHarbours$Lone" "sea" "LStormHarbours$Sea;" ∈ ab_TW := ab_in 315 (by decide +kernel) (by decide +kernel)
theorem wd_319 : Cond.classLink RX8 61 RX0 ∈ ab_TW := ab_in 319 (by decide +kernel) (by decide +kernel)
theorem wd_321 : Cond.methodLink RX8 63 yX0_init ∈ ab_TW := ab_in 321 (by decide +kernel) (by decide +kernel)
theorem wd_322 : Cond.instanceMethod yX0_init ∈ ab_TW := ab_in 322 (by decide +kernel) (by decide +kernel)
theorem wd_323 : Cond.code yX0_init cX0_init 4 none ∈ ab_TW := ab_in 323 (by decide +kernel) (by decide +kernel)
theorem wd_324 : Cond.methodLink RX0 3 Lib.objectInit ∈ ab_TW := ab_in 324 (by decide +kernel) (by decide +kernel)
theorem wd_325 : Cond.fieldLink RX0 9 "StormHarbours$Council" "sea" "LStormHarbours$Sea;" ∈ ab_TW := ab_in 325 (by decide +kernel) (by decide +kernel)
theorem wd_326 : Cond.fieldLink RX0 15 "StormHarbours$Council" "watch" "LStormHarbours$Watch;" ∈ ab_TW := ab_in 326 (by decide +kernel) (by decide +kernel)
theorem wd_327 : Cond.fieldLink RX0 19 "StormHarbours$Council" "passage" "LStormHarbours$Passage;" ∈ ab_TW := ab_in 327 (by decide +kernel) (by decide +kernel)
theorem wd_335 : Cond.classLink RX8 70 RX3 ∈ ab_TW := ab_in 335 (by decide +kernel) (by decide +kernel)
theorem wd_336 : Cond.methodLinkNest RX8 72 yX3_init "StormHarbours" ∈ ab_TW := ab_in 336 (by decide +kernel) (by decide +kernel)
theorem wd_338 : Cond.methodLink RX8 79 yJ0_length_8abf5 ∈ ab_TW := ab_in 338 (by decide +kernel) (by decide +kernel)
theorem wd_339 : Cond.instanceMethod yJ0_length_8abf5 ∈ ab_TW := ab_in 339 (by decide +kernel) (by decide +kernel)
theorem wd_340 : Cond.selects RJ0 yJ0_length_8abf5 yJ0_length_8abf5 ∈ ab_TW := ab_in 340 (by decide +kernel) (by decide +kernel)
theorem wd_341 : Cond.code yJ0_length_8abf5 cJ0_length_8abf5 1 (some .int) ∈ ab_TW := ab_in 341 (by decide +kernel) (by decide +kernel)
theorem wd_342 : Cond.methodLink RJ0 335 yJ0_coder_7d493 ∈ ab_TW := ab_in 342 (by decide +kernel) (by decide +kernel)
theorem wd_343 : Cond.instanceMethod yJ0_coder_7d493 ∈ ab_TW := ab_in 343 (by decide +kernel) (by decide +kernel)
theorem wd_344 : Cond.selects RJ0 yJ0_coder_7d493 yJ0_coder_7d493 ∈ ab_TW := ab_in 344 (by decide +kernel) (by decide +kernel)
theorem wd_345 : Cond.code yJ0_coder_7d493 cJ0_coder_7d493 1 (some .byte) ∈ ab_TW := ab_in 345 (by decide +kernel) (by decide +kernel)
theorem wd_346 : Cond.fieldLink RJ0 38 "java/lang/String" "COMPACT_STRINGS" "Z" ∈ ab_TW := ab_in 346 (by decide +kernel) (by decide +kernel)
theorem wd_348 : Cond.methodLink RX8 85 yJ0_charAt_5068e ∈ ab_TW := ab_in 348 (by decide +kernel) (by decide +kernel)
theorem wd_349 : Cond.instanceMethod yJ0_charAt_5068e ∈ ab_TW := ab_in 349 (by decide +kernel) (by decide +kernel)
theorem wd_350 : Cond.selects RJ0 yJ0_charAt_5068e yJ0_charAt_5068e ∈ ab_TW := ab_in 350 (by decide +kernel) (by decide +kernel)
theorem wd_351 : Cond.code yJ0_charAt_5068e cJ0_charAt_5068e 2 (some .char) ∈ ab_TW := ab_in 351 (by decide +kernel) (by decide +kernel)
theorem wd_352 : Cond.methodLink RJ0 492 yJ0_isLatin1_aae02 ∈ ab_TW := ab_in 352 (by decide +kernel) (by decide +kernel)
theorem wd_353 : Cond.instanceMethod yJ0_isLatin1_aae02 ∈ ab_TW := ab_in 353 (by decide +kernel) (by decide +kernel)
theorem wd_354 : Cond.selects RJ0 yJ0_isLatin1_aae02 yJ0_isLatin1_aae02 ∈ ab_TW := ab_in 354 (by decide +kernel) (by decide +kernel)
theorem wd_355 : Cond.code yJ0_isLatin1_aae02 cJ0_isLatin1_aae02 1 (some .boolean) ∈ ab_TW := ab_in 355 (by decide +kernel) (by decide +kernel)
theorem wd_356 : Cond.methodLink RJ0 495 yJ1_charAt_3b067 ∈ ab_TW := ab_in 356 (by decide +kernel) (by decide +kernel)
theorem wd_357 : Cond.static yJ1_charAt_3b067 ∈ ab_TW := ab_in 357 (by decide +kernel) (by decide +kernel)
theorem wd_358 : Cond.code yJ1_charAt_3b067 cJ1_charAt_3b067 2 (some .char) ∈ ab_TW := ab_in 358 (by decide +kernel) (by decide +kernel)
theorem wd_359 : Cond.methodLink RJ1 9 yJ0_checkIndex_df160 ∈ ab_TW := ab_in 359 (by decide +kernel) (by decide +kernel)
theorem wd_360 : Cond.static yJ0_checkIndex_df160 ∈ ab_TW := ab_in 360 (by decide +kernel) (by decide +kernel)
theorem wd_361 : Cond.code yJ0_checkIndex_df160 cJ0_checkIndex_df160 2 none ∈ ab_TW := ab_in 361 (by decide +kernel) (by decide +kernel)
theorem wd_362 : Cond.fieldLink RJ0 1053 "jdk/internal/util/Preconditions" "SIOOBE_FORMATTER" "Ljava/util/function/BiFunction;" ∈ ab_TW := ab_in 362 (by decide +kernel) (by decide +kernel)
theorem wd_364 : Cond.methodLink RJ0 1059 yJ3_checkIndex_8e157 ∈ ab_TW := ab_in 364 (by decide +kernel) (by decide +kernel)
theorem wd_365 : Cond.static yJ3_checkIndex_8e157 ∈ ab_TW := ab_in 365 (by decide +kernel) (by decide +kernel)
theorem wd_366 : Cond.code yJ3_checkIndex_8e157 cJ3_checkIndex_8e157 3 (some .int) ∈ ab_TW := ab_in 366 (by decide +kernel) (by decide +kernel)
theorem wd_367 : Cond.methodLink RJ0 498 yJ2_charAt_3b067 ∈ ab_TW := ab_in 367 (by decide +kernel) (by decide +kernel)
theorem wd_368 : Cond.static yJ2_charAt_3b067 ∈ ab_TW := ab_in 368 (by decide +kernel) (by decide +kernel)
theorem wd_369 : Cond.code yJ2_charAt_3b067 cJ2_charAt_3b067 2 (some .char) ∈ ab_TW := ab_in 369 (by decide +kernel) (by decide +kernel)
theorem wd_370 : Cond.methodLink RJ2 67 yJ2_checkIndex_2214a ∈ ab_TW := ab_in 370 (by decide +kernel) (by decide +kernel)
theorem wd_371 : Cond.static yJ2_checkIndex_2214a ∈ ab_TW := ab_in 371 (by decide +kernel) (by decide +kernel)
theorem wd_372 : Cond.code yJ2_checkIndex_2214a cJ2_checkIndex_2214a 2 none ∈ ab_TW := ab_in 372 (by decide +kernel) (by decide +kernel)
theorem wd_373 : Cond.methodLink RJ2 48 yJ2_length_9d52b ∈ ab_TW := ab_in 373 (by decide +kernel) (by decide +kernel)
theorem wd_374 : Cond.static yJ2_length_9d52b ∈ ab_TW := ab_in 374 (by decide +kernel) (by decide +kernel)
theorem wd_375 : Cond.code yJ2_length_9d52b cJ2_length_9d52b 1 (some .int) ∈ ab_TW := ab_in 375 (by decide +kernel) (by decide +kernel)
theorem wd_376 : Cond.methodLink RJ2 414 yJ0_checkIndex_df160 ∈ ab_TW := ab_in 376 (by decide +kernel) (by decide +kernel)
theorem wd_377 : Cond.methodLink RJ2 71 yJ2_getChar_3b067 ∈ ab_TW := ab_in 377 (by decide +kernel) (by decide +kernel)
theorem wd_378 : Cond.static yJ2_getChar_3b067 ∈ ab_TW := ab_in 378 (by decide +kernel) (by decide +kernel)
theorem wd_379 : Cond.code yJ2_getChar_3b067 cJ2_getChar_3b067 2 (some .char) ∈ ab_TW := ab_in 379 (by decide +kernel) (by decide +kernel)
theorem wd_380 : Cond.fieldLink RJ2 44 "java/lang/StringUTF16" "$assertionsDisabled" "Z" ∈ ab_TW := ab_in 380 (by decide +kernel) (by decide +kernel)
theorem wd_382 : Cond.fieldLink RJ2 59 "java/lang/StringUTF16" "HI_BYTE_SHIFT" "I" ∈ ab_TW := ab_in 382 (by decide +kernel) (by decide +kernel)
theorem wd_384 : Cond.fieldLink RJ2 63 "java/lang/StringUTF16" "LO_BYTE_SHIFT" "I" ∈ ab_TW := ab_in 384 (by decide +kernel) (by decide +kernel)
theorem wd_386 : Cond.methodLink RX8 89 yX6_append ∈ ab_TW := ab_in 386 (by decide +kernel) (by decide +kernel)
theorem wd_387 : Cond.instanceMethod yX6_append ∈ ab_TW := ab_in 387 (by decide +kernel) (by decide +kernel)
theorem wd_388 : Cond.selects RX6 yX6_append yX6_append ∈ ab_TW := ab_in 388 (by decide +kernel) (by decide +kernel)
theorem wd_389 : Cond.code yX6_append cX6_append 2 none ∈ ab_TW := ab_in 389 (by decide +kernel) (by decide +kernel)
theorem wd_390 : Cond.methodLink RX8 93 yX8_lay ∈ ab_TW := ab_in 390 (by decide +kernel) (by decide +kernel)
theorem wd_391 : Cond.instanceMethod yX8_lay ∈ ab_TW := ab_in 391 (by decide +kernel) (by decide +kernel)
theorem wd_392 : Cond.selects RX8 yX8_lay yX8_lay ∈ ab_TW := ab_in 392 (by decide +kernel) (by decide +kernel)
theorem wd_393 : Cond.code yX8_lay cX8_lay 1 (some .int) ∈ ab_TW := ab_in 393 (by decide +kernel) (by decide +kernel)
theorem wd_394 : Cond.methodLink RX8 102 yX6_firstFault ∈ ab_TW := ab_in 394 (by decide +kernel) (by decide +kernel)
theorem wd_395 : Cond.instanceMethod yX6_firstFault ∈ ab_TW := ab_in 395 (by decide +kernel) (by decide +kernel)
theorem wd_396 : Cond.selects RX6 yX6_firstFault yX6_firstFault ∈ ab_TW := ab_in 396 (by decide +kernel) (by decide +kernel)
theorem wd_397 : Cond.code yX6_firstFault cX6_firstFault 3 (some .int) ∈ ab_TW := ab_in 397 (by decide +kernel) (by decide +kernel)
theorem wd_398 : Cond.methodLink RX6 23 yX6_toBegin ∈ ab_TW := ab_in 398 (by decide +kernel) (by decide +kernel)
theorem wd_400 : Cond.instanceMethod yX6_toBegin ∈ ab_TW := ab_in 400 (by decide +kernel) (by decide +kernel)
theorem wd_401 : Cond.code yX6_toBegin cX6_toBegin 1 none ∈ ab_TW := ab_in 401 (by decide +kernel) (by decide +kernel)
theorem wd_402 : Cond.methodLink RX6 29 yX6_readItem ∈ ab_TW := ab_in 402 (by decide +kernel) (by decide +kernel)
theorem wd_404 : Cond.instanceMethod yX6_readItem ∈ ab_TW := ab_in 404 (by decide +kernel) (by decide +kernel)
theorem wd_405 : Cond.code yX6_readItem cX6_readItem 3 (some .boolean) ∈ ab_TW := ab_in 405 (by decide +kernel) (by decide +kernel)
theorem wd_406 : Cond.methodLink RX6 60 yX6_limitsOf ∈ ab_TW := ab_in 406 (by decide +kernel) (by decide +kernel)
theorem wd_407 : Cond.static yX6_limitsOf ∈ ab_TW := ab_in 407 (by decide +kernel) (by decide +kernel)
theorem wd_408 : Cond.code yX6_limitsOf cX6_limitsOf 1 (some (.array .int)) ∈ ab_TW := ab_in 408 (by decide +kernel) (by decide +kernel)
theorem wd_409 : Cond.fieldLinkNest RX6 68 "StormHarbours" "HARBOUR_LIMITS" "[I" "StormHarbours" ∈ ab_TW := ab_in 409 (by decide +kernel) (by decide +kernel)
theorem wd_411 : Cond.fieldLinkNest RX6 71 "StormHarbours" "SORT_LIMITS" "[I" "StormHarbours" ∈ ab_TW := ab_in 411 (by decide +kernel) (by decide +kernel)
theorem wd_413 : Cond.fieldLinkNest RX6 74 "StormHarbours" "MILES_LIMITS" "[I" "StormHarbours" ∈ ab_TW := ab_in 413 (by decide +kernel) (by decide +kernel)
theorem wd_415 : Cond.fieldLinkNest RX6 77 "StormHarbours" "STORM_LIMITS" "[I" "StormHarbours" ∈ ab_TW := ab_in 415 (by decide +kernel) (by decide +kernel)
theorem wd_417 : Cond.fieldLinkNest RX6 80 "StormHarbours" "GLASS_LIMITS" "[I" "StormHarbours" ∈ ab_TW := ab_in 417 (by decide +kernel) (by decide +kernel)
theorem wd_419 : Cond.fieldLinkNest RX6 83 "StormHarbours" "LOSS_LIMITS" "[I" "StormHarbours" ∈ ab_TW := ab_in 419 (by decide +kernel) (by decide +kernel)
theorem wd_421 : Cond.fieldLinkNest RX6 86 "StormHarbours" "SLOW_LIMITS" "[I" "StormHarbours" ∈ ab_TW := ab_in 421 (by decide +kernel) (by decide +kernel)
theorem wd_423 : Cond.fieldLinkNest RX6 89 "StormHarbours" "NO_LIMITS" "[I" "StormHarbours" ∈ ab_TW := ab_in 423 (by decide +kernel) (by decide +kernel)
theorem wd_425 : Cond.methodLink RX6 64 yX6_readNumber ∈ ab_TW := ab_in 425 (by decide +kernel) (by decide +kernel)
theorem wd_427 : Cond.instanceMethod yX6_readNumber ∈ ab_TW := ab_in 427 (by decide +kernel) (by decide +kernel)
theorem wd_428 : Cond.code yX6_readNumber cX6_readNumber 5 (some .boolean) ∈ ab_TW := ab_in 428 (by decide +kernel) (by decide +kernel)
theorem wd_429 : Cond.methodLink RX6 33 yX6_isSound ∈ ab_TW := ab_in 429 (by decide +kernel) (by decide +kernel)
theorem wd_431 : Cond.instanceMethod yX6_isSound ∈ ab_TW := ab_in 431 (by decide +kernel) (by decide +kernel)
theorem wd_432 : Cond.code yX6_isSound cX6_isSound 3 (some .boolean) ∈ ab_TW := ab_in 432 (by decide +kernel) (by decide +kernel)
theorem wd_433 : Cond.methodLink RX6 36 yX6_tally ∈ ab_TW := ab_in 433 (by decide +kernel) (by decide +kernel)
theorem wd_435 : Cond.instanceMethod yX6_tally ∈ ab_TW := ab_in 435 (by decide +kernel) (by decide +kernel)
theorem wd_436 : Cond.code yX6_tally cX6_tally 1 none ∈ ab_TW := ab_in 436 (by decide +kernel) (by decide +kernel)
theorem wd_437 : Cond.methodLink RX8 105 yX6_isWhole ∈ ab_TW := ab_in 437 (by decide +kernel) (by decide +kernel)
theorem wd_438 : Cond.instanceMethod yX6_isWhole ∈ ab_TW := ab_in 438 (by decide +kernel) (by decide +kernel)
theorem wd_439 : Cond.selects RX6 yX6_isWhole yX6_isWhole ∈ ab_TW := ab_in 439 (by decide +kernel) (by decide +kernel)
theorem wd_440 : Cond.code yX6_isWhole cX6_isWhole 1 (some .boolean) ∈ ab_TW := ab_in 440 (by decide +kernel) (by decide +kernel)
theorem wd_441 : Cond.methodLink RX8 109 yX5_clear ∈ ab_TW := ab_in 441 (by decide +kernel) (by decide +kernel)
theorem wd_442 : Cond.instanceMethod yX5_clear ∈ ab_TW := ab_in 442 (by decide +kernel) (by decide +kernel)
theorem wd_443 : Cond.selects RX5 yX5_clear yX5_clear ∈ ab_TW := ab_in 443 (by decide +kernel) (by decide +kernel)
theorem wd_444 : Cond.code yX5_clear cX5_clear 3 none ∈ ab_TW := ab_in 444 (by decide +kernel) (by decide +kernel)
theorem wd_445 : Cond.methodLink RX8 110 yX6_fill ∈ ab_TW := ab_in 445 (by decide +kernel) (by decide +kernel)
theorem wd_446 : Cond.instanceMethod yX6_fill ∈ ab_TW := ab_in 446 (by decide +kernel) (by decide +kernel)
theorem wd_447 : Cond.selects RX6 yX6_fill yX6_fill ∈ ab_TW := ab_in 447 (by decide +kernel) (by decide +kernel)
theorem wd_448 : Cond.code yX6_fill cX6_fill 3 none ∈ ab_TW := ab_in 448 (by decide +kernel) (by decide +kernel)
theorem wd_449 : Cond.methodLink RX6 51 yX5_take ∈ ab_TW := ab_in 449 (by decide +kernel) (by decide +kernel)
theorem wd_450 : Cond.instanceMethod yX5_take ∈ ab_TW := ab_in 450 (by decide +kernel) (by decide +kernel)
theorem wd_451 : Cond.selects RX5 yX5_take yX5_take ∈ ab_TW := ab_in 451 (by decide +kernel) (by decide +kernel)
theorem wd_452 : Cond.code yX5_take cX5_take 3 none ∈ ab_TW := ab_in 452 (by decide +kernel) (by decide +kernel)
theorem wd_453 : Cond.methodLink RX5 62 yX5_copyRow ∈ ab_TW := ab_in 453 (by decide +kernel) (by decide +kernel)
theorem wd_454 : Cond.static yX5_copyRow ∈ ab_TW := ab_in 454 (by decide +kernel) (by decide +kernel)
theorem wd_455 : Cond.code yX5_copyRow cX5_copyRow 3 none ∈ ab_TW := ab_in 455 (by decide +kernel) (by decide +kernel)
theorem wd_456 : Cond.methodLink RX8 113 yX5_reckon ∈ ab_TW := ab_in 456 (by decide +kernel) (by decide +kernel)
theorem wd_457 : Cond.instanceMethod yX5_reckon ∈ ab_TW := ab_in 457 (by decide +kernel) (by decide +kernel)
theorem wd_458 : Cond.selects RX5 yX5_reckon yX5_reckon ∈ ab_TW := ab_in 458 (by decide +kernel) (by decide +kernel)
theorem wd_459 : Cond.code yX5_reckon cX5_reckon 3 none ∈ ab_TW := ab_in 459 (by decide +kernel) (by decide +kernel)
theorem wd_460 : Cond.methodLink RX5 66 yX5_strengthOf ∈ ab_TW := ab_in 460 (by decide +kernel) (by decide +kernel)
theorem wd_461 : Cond.static yX5_strengthOf ∈ ab_TW := ab_in 461 (by decide +kernel) (by decide +kernel)
theorem wd_462 : Cond.code yX5_strengthOf cX5_strengthOf 2 (some .int) ∈ ab_TW := ab_in 462 (by decide +kernel) (by decide +kernel)
theorem wd_463 : Cond.methodLink RX5 81 Lib.Math.min.name ∈ ab_TW := ab_in 463 (by decide +kernel) (by decide +kernel)
theorem wd_464 : Cond.static Lib.Math.min.name ∈ ab_TW := ab_in 464 (by decide +kernel) (by decide +kernel)
theorem wd_465 : Cond.code Lib.Math.min.name Lib.Math.min.code 2 (some .int) ∈ ab_TW := ab_in 465 (by decide +kernel) (by decide +kernel)
theorem wd_466 : Cond.methodLink RX5 70 yX5_openHoursOf ∈ ab_TW := ab_in 466 (by decide +kernel) (by decide +kernel)
theorem wd_468 : Cond.instanceMethod yX5_openHoursOf ∈ ab_TW := ab_in 468 (by decide +kernel) (by decide +kernel)
theorem wd_469 : Cond.code yX5_openHoursOf cX5_openHoursOf 6 (some .int) ∈ ab_TW := ab_in 469 (by decide +kernel) (by decide +kernel)
theorem wd_470 : Cond.methodLink RX5 74 yX5_reckonBank ∈ ab_TW := ab_in 470 (by decide +kernel) (by decide +kernel)
theorem wd_472 : Cond.instanceMethod yX5_reckonBank ∈ ab_TW := ab_in 472 (by decide +kernel) (by decide +kernel)
theorem wd_473 : Cond.code yX5_reckonBank cX5_reckonBank 6 none ∈ ab_TW := ab_in 473 (by decide +kernel) (by decide +kernel)
theorem wd_474 : Cond.constant RX5 86 (1000000) ∈ ab_TW := ab_in 474 (by decide +kernel) (by decide +kernel)
theorem wd_475 : Cond.methodLink RX5 87 yX5_riskOf ∈ ab_TW := ab_in 475 (by decide +kernel) (by decide +kernel)
theorem wd_476 : Cond.instanceMethod yX5_riskOf ∈ ab_TW := ab_in 476 (by decide +kernel) (by decide +kernel)
theorem wd_477 : Cond.selects RX5 yX5_riskOf yX5_riskOf ∈ ab_TW := ab_in 477 (by decide +kernel) (by decide +kernel)
theorem wd_478 : Cond.code yX5_riskOf cX5_riskOf 4 (some .int) ∈ ab_TW := ab_in 478 (by decide +kernel) (by decide +kernel)
theorem wd_479 : Cond.methodLink RX5 78 yX5_reckonArrivals ∈ ab_TW := ab_in 479 (by decide +kernel) (by decide +kernel)
theorem wd_481 : Cond.instanceMethod yX5_reckonArrivals ∈ ab_TW := ab_in 481 (by decide +kernel) (by decide +kernel)
theorem wd_482 : Cond.code yX5_reckonArrivals cX5_reckonArrivals 6 none ∈ ab_TW := ab_in 482 (by decide +kernel) (by decide +kernel)
theorem wd_483 : Cond.methodLink RX5 91 yX5_arrivalAt ∈ ab_TW := ab_in 483 (by decide +kernel) (by decide +kernel)
theorem wd_484 : Cond.instanceMethod yX5_arrivalAt ∈ ab_TW := ab_in 484 (by decide +kernel) (by decide +kernel)
theorem wd_485 : Cond.selects RX5 yX5_arrivalAt yX5_arrivalAt ∈ ab_TW := ab_in 485 (by decide +kernel) (by decide +kernel)
theorem wd_486 : Cond.code yX5_arrivalAt cX5_arrivalAt 8 (some .int) ∈ ab_TW := ab_in 486 (by decide +kernel) (by decide +kernel)
theorem wd_487 : Cond.methodLink RX5 95 Lib.Math.max.name ∈ ab_TW := ab_in 487 (by decide +kernel) (by decide +kernel)
theorem wd_488 : Cond.static Lib.Math.max.name ∈ ab_TW := ab_in 488 (by decide +kernel) (by decide +kernel)
theorem wd_489 : Cond.code Lib.Math.max.name Lib.Math.max.code 2 (some .int) ∈ ab_TW := ab_in 489 (by decide +kernel) (by decide +kernel)
theorem wd_490 : Cond.methodLink RX8 116 yX5_allStorms ∈ ab_TW := ab_in 490 (by decide +kernel) (by decide +kernel)
theorem wd_491 : Cond.instanceMethod yX5_allStorms ∈ ab_TW := ab_in 491 (by decide +kernel) (by decide +kernel)
theorem wd_492 : Cond.selects RX5 yX5_allStorms yX5_allStorms ∈ ab_TW := ab_in 492 (by decide +kernel) (by decide +kernel)
theorem wd_493 : Cond.code yX5_allStorms cX5_allStorms 1 (some .int) ∈ ab_TW := ab_in 493 (by decide +kernel) (by decide +kernel)
theorem wd_494 : Cond.methodLink RX8 119 yX7_begin ∈ ab_TW := ab_in 494 (by decide +kernel) (by decide +kernel)
theorem wd_495 : Cond.instanceMethod yX7_begin ∈ ab_TW := ab_in 495 (by decide +kernel) (by decide +kernel)
theorem wd_496 : Cond.selects RX7 yX7_begin yX7_begin ∈ ab_TW := ab_in 496 (by decide +kernel) (by decide +kernel)
theorem wd_497 : Cond.code yX7_begin cX7_begin 2 none ∈ ab_TW := ab_in 497 (by decide +kernel) (by decide +kernel)
theorem wd_498 : Cond.methodLink RX7 18 yX3_stayAll ∈ ab_TW := ab_in 498 (by decide +kernel) (by decide +kernel)
theorem wd_499 : Cond.instanceMethod yX3_stayAll ∈ ab_TW := ab_in 499 (by decide +kernel) (by decide +kernel)
theorem wd_500 : Cond.selects RX3 yX3_stayAll yX3_stayAll ∈ ab_TW := ab_in 500 (by decide +kernel) (by decide +kernel)
theorem wd_501 : Cond.code yX3_stayAll cX3_stayAll 2 none ∈ ab_TW := ab_in 501 (by decide +kernel) (by decide +kernel)
theorem wd_502 : Cond.methodLink RX3 18 yX3_send ∈ ab_TW := ab_in 502 (by decide +kernel) (by decide +kernel)
theorem wd_503 : Cond.instanceMethod yX3_send ∈ ab_TW := ab_in 503 (by decide +kernel) (by decide +kernel)
theorem wd_504 : Cond.selects RX3 yX3_send yX3_send ∈ ab_TW := ab_in 504 (by decide +kernel) (by decide +kernel)
theorem wd_505 : Cond.code yX3_send cX3_send 4 none ∈ ab_TW := ab_in 505 (by decide +kernel) (by decide +kernel)
theorem wd_506 : Cond.methodLink RX8 96 yX6_clear ∈ ab_TW := ab_in 506 (by decide +kernel) (by decide +kernel)
theorem wd_507 : Cond.instanceMethod yX6_clear ∈ ab_TW := ab_in 507 (by decide +kernel) (by decide +kernel)
theorem wd_508 : Cond.selects RX6 yX6_clear yX6_clear ∈ ab_TW := ab_in 508 (by decide +kernel) (by decide +kernel)
theorem wd_509 : Cond.code yX6_clear cX6_clear 1 none ∈ ab_TW := ab_in 509 (by decide +kernel) (by decide +kernel)
theorem wd_510 : Cond.fieldLink RX8 12 "StormHarbours" "text" "LStormHarbours$Text;" ∈ ab_TW := ab_in 510 (by decide +kernel) (by decide +kernel)
theorem wd_511 : Cond.fieldLink RX8 21 "StormHarbours" "sea" "LStormHarbours$Sea;" ∈ ab_TW := ab_in 511 (by decide +kernel) (by decide +kernel)
theorem wd_512 : Cond.fieldLink RX8 28 "StormHarbours" "watch" "LStormHarbours$Watch;" ∈ ab_TW := ab_in 512 (by decide +kernel) (by decide +kernel)
theorem wd_513 : Cond.fieldLink RX8 32 "StormHarbours" "kept" "[LStormHarbours$Watch;" ∈ ab_TW := ab_in 513 (by decide +kernel) (by decide +kernel)
theorem wd_514 : Cond.fieldLink RX8 123 "StormHarbours" "keptCount" "I" ∈ ab_TW := ab_in 514 (by decide +kernel) (by decide +kernel)
theorem wd_515 : Cond.fieldLink RX8 41 "StormHarbours" "passage" "LStormHarbours$Passage;" ∈ ab_TW := ab_in 515 (by decide +kernel) (by decide +kernel)
theorem wd_516 : Cond.fieldLink RX8 50 "StormHarbours" "rules" "LStormHarbours$Rules;" ∈ ab_TW := ab_in 516 (by decide +kernel) (by decide +kernel)
theorem wd_517 : Cond.fieldLink RX8 57 "StormHarbours" "lone" "LStormHarbours$Lone;" ∈ ab_TW := ab_in 517 (by decide +kernel) (by decide +kernel)
theorem wd_518 : Cond.fieldLink RX8 66 "StormHarbours" "council" "LStormHarbours$Council;" ∈ ab_TW := ab_in 518 (by decide +kernel) (by decide +kernel)
theorem wd_519 : Cond.fieldLink RX8 73 "StormHarbours" "trial" "LStormHarbours$Plans;" ∈ ab_TW := ab_in 519 (by decide +kernel) (by decide +kernel)
theorem wd_541 : Cond.methodLink RL 15 yX8_write ∈ ab_TW := ab_in 541 (by decide +kernel) (by decide +kernel)
theorem wd_542 : Cond.instanceMethod yX8_write ∈ ab_TW := ab_in 542 (by decide +kernel) (by decide +kernel)
theorem wd_543 : Cond.selects RX8 yX8_write yX8_write ∈ ab_TW := ab_in 543 (by decide +kernel) (by decide +kernel)
theorem wd_544 : Cond.code yX8_write cX8_write 5 (some .int) ∈ ab_TW := ab_in 544 (by decide +kernel) (by decide +kernel)
theorem wd_545 : Cond.methodLink RL 20 yX8_wipe ∈ ab_TW := ab_in 545 (by decide +kernel) (by decide +kernel)
theorem wd_546 : Cond.instanceMethod yX8_wipe ∈ ab_TW := ab_in 546 (by decide +kernel) (by decide +kernel)
theorem wd_547 : Cond.selects RX8 yX8_wipe yX8_wipe ∈ ab_TW := ab_in 547 (by decide +kernel) (by decide +kernel)
theorem wd_548 : Cond.code yX8_wipe cX8_wipe 2 (some .int) ∈ ab_TW := ab_in 548 (by decide +kernel) (by decide +kernel)
theorem wd_549 : Cond.methodLink RL 25 yX8_fault ∈ ab_TW := ab_in 549 (by decide +kernel) (by decide +kernel)
theorem wd_550 : Cond.instanceMethod yX8_fault ∈ ab_TW := ab_in 550 (by decide +kernel) (by decide +kernel)
theorem wd_551 : Cond.selects RX8 yX8_fault yX8_fault ∈ ab_TW := ab_in 551 (by decide +kernel) (by decide +kernel)
theorem wd_552 : Cond.code yX8_fault cX8_fault 1 (some .int) ∈ ab_TW := ab_in 552 (by decide +kernel) (by decide +kernel)
theorem wd_553 : Cond.methodLink RL 29 yX8_lay ∈ ab_TW := ab_in 553 (by decide +kernel) (by decide +kernel)
theorem wd_554 : Cond.methodLink RL 33 yX8_storm ∈ ab_TW := ab_in 554 (by decide +kernel) (by decide +kernel)
theorem wd_555 : Cond.instanceMethod yX8_storm ∈ ab_TW := ab_in 555 (by decide +kernel) (by decide +kernel)
theorem wd_556 : Cond.selects RX8 yX8_storm yX8_storm ∈ ab_TW := ab_in 556 (by decide +kernel) (by decide +kernel)
theorem wd_557 : Cond.code yX8_storm cX8_storm 4 (some .int) ∈ ab_TW := ab_in 557 (by decide +kernel) (by decide +kernel)
theorem wd_558 : Cond.methodLink RX8 129 yX5_isStorm ∈ ab_TW := ab_in 558 (by decide +kernel) (by decide +kernel)
theorem wd_559 : Cond.instanceMethod yX5_isStorm ∈ ab_TW := ab_in 559 (by decide +kernel) (by decide +kernel)
theorem wd_560 : Cond.selects RX5 yX5_isStorm yX5_isStorm ∈ ab_TW := ab_in 560 (by decide +kernel) (by decide +kernel)
theorem wd_561 : Cond.code yX5_isStorm cX5_isStorm 2 (some .boolean) ∈ ab_TW := ab_in 561 (by decide +kernel) (by decide +kernel)
theorem wd_562 : Cond.methodLink RX8 133 yX8_isHour ∈ ab_TW := ab_in 562 (by decide +kernel) (by decide +kernel)
theorem wd_563 : Cond.static yX8_isHour ∈ ab_TW := ab_in 563 (by decide +kernel) (by decide +kernel)
theorem wd_564 : Cond.code yX8_isHour cX8_isHour 1 (some .boolean) ∈ ab_TW := ab_in 564 (by decide +kernel) (by decide +kernel)
theorem wd_565 : Cond.methodLink RL 38 yX8_open ∈ ab_TW := ab_in 565 (by decide +kernel) (by decide +kernel)
theorem wd_566 : Cond.instanceMethod yX8_open ∈ ab_TW := ab_in 566 (by decide +kernel) (by decide +kernel)
theorem wd_567 : Cond.selects RX8 yX8_open yX8_open ∈ ab_TW := ab_in 567 (by decide +kernel) (by decide +kernel)
theorem wd_568 : Cond.code yX8_open cX8_open 4 (some .int) ∈ ab_TW := ab_in 568 (by decide +kernel) (by decide +kernel)
theorem wd_569 : Cond.methodLink RX8 143 yX5_isHarbour ∈ ab_TW := ab_in 569 (by decide +kernel) (by decide +kernel)
theorem wd_570 : Cond.instanceMethod yX5_isHarbour ∈ ab_TW := ab_in 570 (by decide +kernel) (by decide +kernel)
theorem wd_571 : Cond.selects RX5 yX5_isHarbour yX5_isHarbour ∈ ab_TW := ab_in 571 (by decide +kernel) (by decide +kernel)
theorem wd_572 : Cond.code yX5_isHarbour cX5_isHarbour 2 (some .boolean) ∈ ab_TW := ab_in 572 (by decide +kernel) (by decide +kernel)
theorem wd_573 : Cond.methodLink RX8 146 yX5_isOpen ∈ ab_TW := ab_in 573 (by decide +kernel) (by decide +kernel)
theorem wd_574 : Cond.instanceMethod yX5_isOpen ∈ ab_TW := ab_in 574 (by decide +kernel) (by decide +kernel)
theorem wd_575 : Cond.selects RX5 yX5_isOpen yX5_isOpen ∈ ab_TW := ab_in 575 (by decide +kernel) (by decide +kernel)
theorem wd_576 : Cond.code yX5_isOpen cX5_isOpen 4 (some .boolean) ∈ ab_TW := ab_in 576 (by decide +kernel) (by decide +kernel)
theorem wd_577 : Cond.methodLink RL 42 yX8_risk ∈ ab_TW := ab_in 577 (by decide +kernel) (by decide +kernel)
theorem wd_578 : Cond.instanceMethod yX8_risk ∈ ab_TW := ab_in 578 (by decide +kernel) (by decide +kernel)
theorem wd_579 : Cond.selects RX8 yX8_risk yX8_risk ∈ ab_TW := ab_in 579 (by decide +kernel) (by decide +kernel)
theorem wd_580 : Cond.code yX8_risk cX8_risk 4 (some .int) ∈ ab_TW := ab_in 580 (by decide +kernel) (by decide +kernel)
theorem wd_581 : Cond.methodLink RX8 150 yX5_isSort ∈ ab_TW := ab_in 581 (by decide +kernel) (by decide +kernel)
theorem wd_582 : Cond.instanceMethod yX5_isSort ∈ ab_TW := ab_in 582 (by decide +kernel) (by decide +kernel)
theorem wd_583 : Cond.selects RX5 yX5_isSort yX5_isSort ∈ ab_TW := ab_in 583 (by decide +kernel) (by decide +kernel)
theorem wd_584 : Cond.code yX5_isSort cX5_isSort 2 (some .boolean) ∈ ab_TW := ab_in 584 (by decide +kernel) (by decide +kernel)
theorem wd_585 : Cond.methodLink RX8 153 yX5_riskOf ∈ ab_TW := ab_in 585 (by decide +kernel) (by decide +kernel)
theorem wd_586 : Cond.methodLink RL 46 yX8_reach ∈ ab_TW := ab_in 586 (by decide +kernel) (by decide +kernel)
theorem wd_587 : Cond.instanceMethod yX8_reach ∈ ab_TW := ab_in 587 (by decide +kernel) (by decide +kernel)
theorem wd_588 : Cond.selects RX8 yX8_reach yX8_reach ∈ ab_TW := ab_in 588 (by decide +kernel) (by decide +kernel)
theorem wd_589 : Cond.code yX8_reach cX8_reach 6 (some .int) ∈ ab_TW := ab_in 589 (by decide +kernel) (by decide +kernel)
theorem wd_590 : Cond.methodLink RX8 157 yX5_arrival ∈ ab_TW := ab_in 590 (by decide +kernel) (by decide +kernel)
theorem wd_591 : Cond.instanceMethod yX5_arrival ∈ ab_TW := ab_in 591 (by decide +kernel) (by decide +kernel)
theorem wd_592 : Cond.selects RX5 yX5_arrival yX5_arrival ∈ ab_TW := ab_in 592 (by decide +kernel) (by decide +kernel)
theorem wd_593 : Cond.code yX5_arrival cX5_arrival 5 (some .int) ∈ ab_TW := ab_in 593 (by decide +kernel) (by decide +kernel)
theorem wd_594 : Cond.methodLink RL 51 yX8_plan ∈ ab_TW := ab_in 594 (by decide +kernel) (by decide +kernel)
theorem wd_595 : Cond.instanceMethod yX8_plan ∈ ab_TW := ab_in 595 (by decide +kernel) (by decide +kernel)
theorem wd_596 : Cond.selects RX8 yX8_plan yX8_plan ∈ ab_TW := ab_in 596 (by decide +kernel) (by decide +kernel)
theorem wd_597 : Cond.code yX8_plan cX8_plan 5 (some .int) ∈ ab_TW := ab_in 597 (by decide +kernel) (by decide +kernel)
theorem wd_598 : Cond.methodLink RX8 161 yX8_isHourOrNever ∈ ab_TW := ab_in 598 (by decide +kernel) (by decide +kernel)
theorem wd_599 : Cond.static yX8_isHourOrNever ∈ ab_TW := ab_in 599 (by decide +kernel) (by decide +kernel)
theorem wd_600 : Cond.code yX8_isHourOrNever cX8_isHourOrNever 1 (some .boolean) ∈ ab_TW := ab_in 600 (by decide +kernel) (by decide +kernel)
theorem wd_601 : Cond.methodLink RX8 167 yX3_told ∈ ab_TW := ab_in 601 (by decide +kernel) (by decide +kernel)
theorem wd_602 : Cond.instanceMethod yX3_told ∈ ab_TW := ab_in 602 (by decide +kernel) (by decide +kernel)
theorem wd_603 : Cond.selects RX3 yX3_told yX3_told ∈ ab_TW := ab_in 603 (by decide +kernel) (by decide +kernel)
theorem wd_604 : Cond.code yX3_told cX3_told 2 (some .int) ∈ ab_TW := ab_in 604 (by decide +kernel) (by decide +kernel)
theorem wd_605 : Cond.methodLink RX8 171 yX3_send ∈ ab_TW := ab_in 605 (by decide +kernel) (by decide +kernel)
theorem wd_606 : Cond.methodLink RL 55 yX8_value ∈ ab_TW := ab_in 606 (by decide +kernel) (by decide +kernel)
theorem wd_607 : Cond.instanceMethod yX8_value ∈ ab_TW := ab_in 607 (by decide +kernel) (by decide +kernel)
theorem wd_608 : Cond.selects RX8 yX8_value yX8_value ∈ ab_TW := ab_in 608 (by decide +kernel) (by decide +kernel)
theorem wd_609 : Cond.code yX8_value cX8_value 2 (some .long) ∈ ab_TW := ab_in 609 (by decide +kernel) (by decide +kernel)
theorem wd_610 : Cond.constantLong RX8 175 (-9223372036854775808) ∈ ab_TW := ab_in 610 (by decide +kernel) (by decide +kernel)
theorem wd_611 : Cond.methodLink RX8 177 yX2_asUsual ∈ ab_TW := ab_in 611 (by decide +kernel) (by decide +kernel)
theorem wd_612 : Cond.instanceMethod yX2_asUsual ∈ ab_TW := ab_in 612 (by decide +kernel) (by decide +kernel)
theorem wd_613 : Cond.selects RX2 yX2_asUsual yX2_asUsual ∈ ab_TW := ab_in 613 (by decide +kernel) (by decide +kernel)
theorem wd_614 : Cond.code yX2_asUsual cX2_asUsual 1 none ∈ ab_TW := ab_in 614 (by decide +kernel) (by decide +kernel)
theorem wd_615 : Cond.methodLink RX8 180 yX5_allSorts ∈ ab_TW := ab_in 615 (by decide +kernel) (by decide +kernel)
theorem wd_616 : Cond.instanceMethod yX5_allSorts ∈ ab_TW := ab_in 616 (by decide +kernel) (by decide +kernel)
theorem wd_617 : Cond.selects RX5 yX5_allSorts yX5_allSorts ∈ ab_TW := ab_in 617 (by decide +kernel) (by decide +kernel)
theorem wd_618 : Cond.code yX5_allSorts cX5_allSorts 1 (some .int) ∈ ab_TW := ab_in 618 (by decide +kernel) (by decide +kernel)
theorem wd_619 : Cond.methodLink RX8 183 yX2_worthOf ∈ ab_TW := ab_in 619 (by decide +kernel) (by decide +kernel)
theorem wd_620 : Cond.instanceMethod yX2_worthOf ∈ ab_TW := ab_in 620 (by decide +kernel) (by decide +kernel)
theorem wd_621 : Cond.selects RX2 yX2_worthOf yX2_worthOf ∈ ab_TW := ab_in 621 (by decide +kernel) (by decide +kernel)
theorem wd_622 : Cond.code yX2_worthOf cX2_worthOf 7 (some .long) ∈ ab_TW := ab_in 622 (by decide +kernel) (by decide +kernel)
theorem wd_623 : Cond.methodLink RX2 53 yX2_sail ∈ ab_TW := ab_in 623 (by decide +kernel) (by decide +kernel)
theorem wd_624 : Cond.instanceMethod yX2_sail ∈ ab_TW := ab_in 624 (by decide +kernel) (by decide +kernel)
theorem wd_625 : Cond.selects RX2 yX2_sail yX2_sail ∈ ab_TW := ab_in 625 (by decide +kernel) (by decide +kernel)
theorem wd_626 : Cond.code yX2_sail cX2_sail 5 none ∈ ab_TW := ab_in 626 (by decide +kernel) (by decide +kernel)
theorem wd_627 : Cond.methodLink RX2 81 yX2_arrivalOf ∈ ab_TW := ab_in 627 (by decide +kernel) (by decide +kernel)
theorem wd_629 : Cond.instanceMethod yX2_arrivalOf ∈ ab_TW := ab_in 629 (by decide +kernel) (by decide +kernel)
theorem wd_630 : Cond.code yX2_arrivalOf cX2_arrivalOf 6 (some .int) ∈ ab_TW := ab_in 630 (by decide +kernel) (by decide +kernel)
theorem wd_631 : Cond.methodLink RX2 101 yX5_arrivalAt ∈ ab_TW := ab_in 631 (by decide +kernel) (by decide +kernel)
theorem wd_632 : Cond.methodLink RX2 105 yX5_arrival ∈ ab_TW := ab_in 632 (by decide +kernel) (by decide +kernel)
theorem wd_633 : Cond.methodLink RX2 85 yX2_putInOrder ∈ ab_TW := ab_in 633 (by decide +kernel) (by decide +kernel)
theorem wd_635 : Cond.instanceMethod yX2_putInOrder ∈ ab_TW := ab_in 635 (by decide +kernel) (by decide +kernel)
theorem wd_636 : Cond.code yX2_putInOrder cX2_putInOrder 3 none ∈ ab_TW := ab_in 636 (by decide +kernel) (by decide +kernel)
theorem wd_637 : Cond.methodLink RX2 107 yX2_goesAhead ∈ ab_TW := ab_in 637 (by decide +kernel) (by decide +kernel)
theorem wd_639 : Cond.instanceMethod yX2_goesAhead ∈ ab_TW := ab_in 639 (by decide +kernel) (by decide +kernel)
theorem wd_640 : Cond.code yX2_goesAhead cX2_goesAhead 5 (some .boolean) ∈ ab_TW := ab_in 640 (by decide +kernel) (by decide +kernel)
theorem wd_641 : Cond.methodLink RX2 91 yX2_letIn ∈ ab_TW := ab_in 641 (by decide +kernel) (by decide +kernel)
theorem wd_643 : Cond.instanceMethod yX2_letIn ∈ ab_TW := ab_in 643 (by decide +kernel) (by decide +kernel)
theorem wd_644 : Cond.code yX2_letIn cX2_letIn 8 none ∈ ab_TW := ab_in 644 (by decide +kernel) (by decide +kernel)
theorem wd_645 : Cond.methodLink RX2 111 Lib.Math.min.name ∈ ab_TW := ab_in 645 (by decide +kernel) (by decide +kernel)
theorem wd_646 : Cond.methodLink RX2 120 yX5_isOpen ∈ ab_TW := ab_in 646 (by decide +kernel) (by decide +kernel)
theorem wd_647 : Cond.methodLink RX2 124 yX2_letInAt ∈ ab_TW := ab_in 647 (by decide +kernel) (by decide +kernel)
theorem wd_649 : Cond.instanceMethod yX2_letInAt ∈ ab_TW := ab_in 649 (by decide +kernel) (by decide +kernel)
theorem wd_650 : Cond.code yX2_letInAt cX2_letInAt 9 (some .int) ∈ ab_TW := ab_in 650 (by decide +kernel) (by decide +kernel)
theorem wd_651 : Cond.methodLink RX2 60 yX2_worthOfSort ∈ ab_TW := ab_in 651 (by decide +kernel) (by decide +kernel)
theorem wd_653 : Cond.instanceMethod yX2_worthOfSort ∈ ab_TW := ab_in 653 (by decide +kernel) (by decide +kernel)
theorem wd_654 : Cond.code yX2_worthOfSort cX2_worthOfSort 8 (some .long) ∈ ab_TW := ab_in 654 (by decide +kernel) (by decide +kernel)
theorem wd_655 : Cond.constant RX2 67 (1000000) ∈ ab_TW := ab_in 655 (by decide +kernel) (by decide +kernel)
theorem wd_656 : Cond.methodLink RX2 68 yX5_aliveAt ∈ ab_TW := ab_in 656 (by decide +kernel) (by decide +kernel)
theorem wd_657 : Cond.instanceMethod yX5_aliveAt ∈ ab_TW := ab_in 657 (by decide +kernel) (by decide +kernel)
theorem wd_658 : Cond.selects RX5 yX5_aliveAt yX5_aliveAt ∈ ab_TW := ab_in 658 (by decide +kernel) (by decide +kernel)
theorem wd_659 : Cond.code yX5_aliveAt cX5_aliveAt 4 (some .int) ∈ ab_TW := ab_in 659 (by decide +kernel) (by decide +kernel)
theorem wd_660 : Cond.methodLink RX2 77 yX5_fishedTill ∈ ab_TW := ab_in 660 (by decide +kernel) (by decide +kernel)
theorem wd_661 : Cond.instanceMethod yX5_fishedTill ∈ ab_TW := ab_in 661 (by decide +kernel) (by decide +kernel)
theorem wd_662 : Cond.selects RX5 yX5_fishedTill yX5_fishedTill ∈ ab_TW := ab_in 662 (by decide +kernel) (by decide +kernel)
theorem wd_663 : Cond.code yX5_fishedTill cX5_fishedTill 4 (some .long) ∈ ab_TW := ab_in 663 (by decide +kernel) (by decide +kernel)
theorem wd_664 : Cond.methodLink RL 60 yX8_in ∈ ab_TW := ab_in 664 (by decide +kernel) (by decide +kernel)
theorem wd_665 : Cond.instanceMethod yX8_in ∈ ab_TW := ab_in 665 (by decide +kernel) (by decide +kernel)
theorem wd_666 : Cond.selects RX8 yX8_in yX8_in ∈ ab_TW := ab_in 666 (by decide +kernel) (by decide +kernel)
theorem wd_667 : Cond.code yX8_in cX8_in 3 (some .int) ∈ ab_TW := ab_in 667 (by decide +kernel) (by decide +kernel)
theorem wd_668 : Cond.methodLink RX8 187 yX2_sail ∈ ab_TW := ab_in 668 (by decide +kernel) (by decide +kernel)
theorem wd_669 : Cond.methodLink RL 65 yX8_lives ∈ ab_TW := ab_in 669 (by decide +kernel) (by decide +kernel)
theorem wd_670 : Cond.instanceMethod yX8_lives ∈ ab_TW := ab_in 670 (by decide +kernel) (by decide +kernel)
theorem wd_671 : Cond.selects RX8 yX8_lives yX8_lives ∈ ab_TW := ab_in 671 (by decide +kernel) (by decide +kernel)
theorem wd_672 : Cond.code yX8_lives cX8_lives 4 (some .int) ∈ ab_TW := ab_in 672 (by decide +kernel) (by decide +kernel)
theorem wd_673 : Cond.methodLink RX8 201 yX5_aliveAt ∈ ab_TW := ab_in 673 (by decide +kernel) (by decide +kernel)
theorem wd_674 : Cond.methodLink RL 69 yX8_mean ∈ ab_TW := ab_in 674 (by decide +kernel) (by decide +kernel)
theorem wd_675 : Cond.instanceMethod yX8_mean ∈ ab_TW := ab_in 675 (by decide +kernel) (by decide +kernel)
theorem wd_676 : Cond.selects RX8 yX8_mean yX8_mean ∈ ab_TW := ab_in 676 (by decide +kernel) (by decide +kernel)
theorem wd_677 : Cond.code yX8_mean cX8_mean 1 (some .long) ∈ ab_TW := ab_in 677 (by decide +kernel) (by decide +kernel)
theorem wd_678 : Cond.methodLink RX8 207 yX2_meanOf ∈ ab_TW := ab_in 678 (by decide +kernel) (by decide +kernel)
theorem wd_679 : Cond.instanceMethod yX2_meanOf ∈ ab_TW := ab_in 679 (by decide +kernel) (by decide +kernel)
theorem wd_680 : Cond.selects RX2 yX2_meanOf yX2_meanOf ∈ ab_TW := ab_in 680 (by decide +kernel) (by decide +kernel)
theorem wd_681 : Cond.code yX2_meanOf cX2_meanOf 7 (some .long) ∈ ab_TW := ab_in 681 (by decide +kernel) (by decide +kernel)
theorem wd_682 : Cond.methodLink RX2 49 yX2_worthOf ∈ ab_TW := ab_in 682 (by decide +kernel) (by decide +kernel)
theorem wd_683 : Cond.methodLink RL 74 yX8_shut ∈ ab_TW := ab_in 683 (by decide +kernel) (by decide +kernel)
theorem wd_684 : Cond.instanceMethod yX8_shut ∈ ab_TW := ab_in 684 (by decide +kernel) (by decide +kernel)
theorem wd_685 : Cond.selects RX8 yX8_shut yX8_shut ∈ ab_TW := ab_in 685 (by decide +kernel) (by decide +kernel)
theorem wd_686 : Cond.code yX8_shut cX8_shut 3 (some .int) ∈ ab_TW := ab_in 686 (by decide +kernel) (by decide +kernel)
theorem wd_687 : Cond.methodLink RL 79 yX8_sign ∈ ab_TW := ab_in 687 (by decide +kernel) (by decide +kernel)
theorem wd_688 : Cond.instanceMethod yX8_sign ∈ ab_TW := ab_in 688 (by decide +kernel) (by decide +kernel)
theorem wd_689 : Cond.selects RX8 yX8_sign yX8_sign ∈ ab_TW := ab_in 689 (by decide +kernel) (by decide +kernel)
theorem wd_690 : Cond.code yX8_sign cX8_sign 3 (some .int) ∈ ab_TW := ab_in 690 (by decide +kernel) (by decide +kernel)
theorem wd_691 : Cond.methodLink RX8 216 yX5_telling ∈ ab_TW := ab_in 691 (by decide +kernel) (by decide +kernel)
theorem wd_692 : Cond.instanceMethod yX5_telling ∈ ab_TW := ab_in 692 (by decide +kernel) (by decide +kernel)
theorem wd_693 : Cond.selects RX5 yX5_telling yX5_telling ∈ ab_TW := ab_in 693 (by decide +kernel) (by decide +kernel)
theorem wd_694 : Cond.code yX5_telling cX5_telling 6 (some .int) ∈ ab_TW := ab_in 694 (by decide +kernel) (by decide +kernel)
theorem wd_695 : Cond.methodLink RL 83 yX8_now ∈ ab_TW := ab_in 695 (by decide +kernel) (by decide +kernel)
theorem wd_696 : Cond.instanceMethod yX8_now ∈ ab_TW := ab_in 696 (by decide +kernel) (by decide +kernel)
theorem wd_697 : Cond.selects RX8 yX8_now yX8_now ∈ ab_TW := ab_in 697 (by decide +kernel) (by decide +kernel)
theorem wd_698 : Cond.code yX8_now cX8_now 2 (some .int) ∈ ab_TW := ab_in 698 (by decide +kernel) (by decide +kernel)
theorem wd_699 : Cond.methodLink RL 87 yX8_set ∈ ab_TW := ab_in 699 (by decide +kernel) (by decide +kernel)
theorem wd_700 : Cond.instanceMethod yX8_set ∈ ab_TW := ab_in 700 (by decide +kernel) (by decide +kernel)
theorem wd_701 : Cond.selects RX8 yX8_set yX8_set ∈ ab_TW := ab_in 701 (by decide +kernel) (by decide +kernel)
theorem wd_702 : Cond.code yX8_set cX8_set 4 (some .int) ∈ ab_TW := ab_in 702 (by decide +kernel) (by decide +kernel)
theorem wd_703 : Cond.methodLink RL 91 yX8_by ∈ ab_TW := ab_in 703 (by decide +kernel) (by decide +kernel)
theorem wd_704 : Cond.instanceMethod yX8_by ∈ ab_TW := ab_in 704 (by decide +kernel) (by decide +kernel)
theorem wd_705 : Cond.selects RX8 yX8_by yX8_by ∈ ab_TW := ab_in 705 (by decide +kernel) (by decide +kernel)
theorem wd_706 : Cond.code yX8_by cX8_by 5 (some .long) ∈ ab_TW := ab_in 706 (by decide +kernel) (by decide +kernel)
theorem wd_707 : Cond.methodLink RX8 225 yX8_isRule ∈ ab_TW := ab_in 707 (by decide +kernel) (by decide +kernel)
theorem wd_708 : Cond.static yX8_isRule ∈ ab_TW := ab_in 708 (by decide +kernel) (by decide +kernel)
theorem wd_709 : Cond.code yX8_isRule cX8_isRule 1 (some .boolean) ∈ ab_TW := ab_in 709 (by decide +kernel) (by decide +kernel)
theorem wd_710 : Cond.methodLink RX8 234 yX8_worthByRule ∈ ab_TW := ab_in 710 (by decide +kernel) (by decide +kernel)
theorem wd_712 : Cond.instanceMethod yX8_worthByRule ∈ ab_TW := ab_in 712 (by decide +kernel) (by decide +kernel)
theorem wd_713 : Cond.code yX8_worthByRule cX8_worthByRule 3 (some .long) ∈ ab_TW := ab_in 713 (by decide +kernel) (by decide +kernel)
theorem wd_714 : Cond.methodLink RX8 238 yX4_follow ∈ ab_TW := ab_in 714 (by decide +kernel) (by decide +kernel)
theorem wd_715 : Cond.instanceMethod yX4_follow ∈ ab_TW := ab_in 715 (by decide +kernel) (by decide +kernel)
theorem wd_716 : Cond.selects RX4 yX4_follow yX4_follow ∈ ab_TW := ab_in 716 (by decide +kernel) (by decide +kernel)
theorem wd_717 : Cond.code yX4_follow cX4_follow 6 none ∈ ab_TW := ab_in 717 (by decide +kernel) (by decide +kernel)
theorem wd_718 : Cond.methodLink RX4 25 yX3_copyFrom ∈ ab_TW := ab_in 718 (by decide +kernel) (by decide +kernel)
theorem wd_719 : Cond.instanceMethod yX3_copyFrom ∈ ab_TW := ab_in 719 (by decide +kernel) (by decide +kernel)
theorem wd_720 : Cond.selects RX3 yX3_copyFrom yX3_copyFrom ∈ ab_TW := ab_in 720 (by decide +kernel) (by decide +kernel)
theorem wd_721 : Cond.code yX3_copyFrom cX3_copyFrom 3 none ∈ ab_TW := ab_in 721 (by decide +kernel) (by decide +kernel)
theorem wd_722 : Cond.methodLink RX4 31 yX3_stayAll ∈ ab_TW := ab_in 722 (by decide +kernel) (by decide +kernel)
theorem wd_723 : Cond.methodLink RX4 44 yX4_runs ∈ ab_TW := ab_in 723 (by decide +kernel) (by decide +kernel)
theorem wd_725 : Cond.instanceMethod yX4_runs ∈ ab_TW := ab_in 725 (by decide +kernel) (by decide +kernel)
theorem wd_726 : Cond.code yX4_runs cX4_runs 6 (some .boolean) ∈ ab_TW := ab_in 726 (by decide +kernel) (by decide +kernel)
theorem wd_727 : Cond.methodLink RX4 60 yX4_boatsGone ∈ ab_TW := ab_in 727 (by decide +kernel) (by decide +kernel)
theorem wd_729 : Cond.instanceMethod yX4_boatsGone ∈ ab_TW := ab_in 729 (by decide +kernel) (by decide +kernel)
theorem wd_730 : Cond.code yX4_boatsGone cX4_boatsGone 5 (some .int) ∈ ab_TW := ab_in 730 (by decide +kernel) (by decide +kernel)
theorem wd_731 : Cond.methodLink RX4 48 yX4_likeliest ∈ ab_TW := ab_in 731 (by decide +kernel) (by decide +kernel)
theorem wd_733 : Cond.instanceMethod yX4_likeliest ∈ ab_TW := ab_in 733 (by decide +kernel) (by decide +kernel)
theorem wd_734 : Cond.code yX4_likeliest cX4_likeliest 8 (some .int) ∈ ab_TW := ab_in 734 (by decide +kernel) (by decide +kernel)
theorem wd_735 : Cond.methodLink RX4 86 yX5_entryAlone ∈ ab_TW := ab_in 735 (by decide +kernel) (by decide +kernel)
theorem wd_736 : Cond.instanceMethod yX5_entryAlone ∈ ab_TW := ab_in 736 (by decide +kernel) (by decide +kernel)
theorem wd_737 : Cond.selects RX5 yX5_entryAlone yX5_entryAlone ∈ ab_TW := ab_in 737 (by decide +kernel) (by decide +kernel)
theorem wd_738 : Cond.code yX5_entryAlone cX5_entryAlone 6 (some .int) ∈ ab_TW := ab_in 738 (by decide +kernel) (by decide +kernel)
theorem wd_739 : Cond.methodLink RX5 98 yX5_arrival ∈ ab_TW := ab_in 739 (by decide +kernel) (by decide +kernel)
theorem wd_740 : Cond.methodLink RX5 101 yX5_isOpen ∈ ab_TW := ab_in 740 (by decide +kernel) (by decide +kernel)
theorem wd_741 : Cond.methodLink RX4 52 yX5_nearest ∈ ab_TW := ab_in 741 (by decide +kernel) (by decide +kernel)
theorem wd_742 : Cond.instanceMethod yX5_nearest ∈ ab_TW := ab_in 742 (by decide +kernel) (by decide +kernel)
theorem wd_743 : Cond.selects RX5 yX5_nearest yX5_nearest ∈ ab_TW := ab_in 743 (by decide +kernel) (by decide +kernel)
theorem wd_744 : Cond.code yX5_nearest cX5_nearest 4 (some .int) ∈ ab_TW := ab_in 744 (by decide +kernel) (by decide +kernel)
theorem wd_745 : Cond.methodLink RX4 56 yX3_send ∈ ab_TW := ab_in 745 (by decide +kernel) (by decide +kernel)
theorem wd_746 : Cond.methodLink RL 95 yX8_ran ∈ ab_TW := ab_in 746 (by decide +kernel) (by decide +kernel)
theorem wd_747 : Cond.instanceMethod yX8_ran ∈ ab_TW := ab_in 747 (by decide +kernel) (by decide +kernel)
theorem wd_748 : Cond.selects RX8 yX8_ran yX8_ran ∈ ab_TW := ab_in 748 (by decide +kernel) (by decide +kernel)
theorem wd_749 : Cond.code yX8_ran cX8_ran 4 (some .int) ∈ ab_TW := ab_in 749 (by decide +kernel) (by decide +kernel)
theorem wd_750 : Cond.methodLink RL 99 yX8_alone ∈ ab_TW := ab_in 750 (by decide +kernel) (by decide +kernel)
theorem wd_751 : Cond.instanceMethod yX8_alone ∈ ab_TW := ab_in 751 (by decide +kernel) (by decide +kernel)
theorem wd_752 : Cond.selects RX8 yX8_alone yX8_alone ∈ ab_TW := ab_in 752 (by decide +kernel) (by decide +kernel)
theorem wd_753 : Cond.code yX8_alone cX8_alone 2 (some .long) ∈ ab_TW := ab_in 753 (by decide +kernel) (by decide +kernel)
theorem wd_754 : Cond.methodLinkNest RX8 242 yX1_bestOfGroups "StormHarbours" ∈ ab_TW := ab_in 754 (by decide +kernel) (by decide +kernel)
theorem wd_756 : Cond.instanceMethod yX1_bestOfGroups ∈ ab_TW := ab_in 756 (by decide +kernel) (by decide +kernel)
theorem wd_757 : Cond.code yX1_bestOfGroups cX1_bestOfGroups 8 (some .long) ∈ ab_TW := ab_in 757 (by decide +kernel) (by decide +kernel)
theorem wd_758 : Cond.methodLink RX1 29 yX5_telling ∈ ab_TW := ab_in 758 (by decide +kernel) (by decide +kernel)
theorem wd_759 : Cond.methodLink RX1 33 yX1_bestFrom ∈ ab_TW := ab_in 759 (by decide +kernel) (by decide +kernel)
theorem wd_761 : Cond.instanceMethod yX1_bestFrom ∈ ab_TW := ab_in 761 (by decide +kernel) (by decide +kernel)
theorem wd_762 : Cond.code yX1_bestFrom cX1_bestFrom 7 (some .long) ∈ ab_TW := ab_in 762 (by decide +kernel) (by decide +kernel)
theorem wd_763 : Cond.methodLink RX1 15 yX1_sumOfStaying ∈ ab_TW := ab_in 763 (by decide +kernel) (by decide +kernel)
theorem wd_765 : Cond.instanceMethod yX1_sumOfStaying ∈ ab_TW := ab_in 765 (by decide +kernel) (by decide +kernel)
theorem wd_766 : Cond.code yX1_sumOfStaying cX1_sumOfStaying 4 (some .long) ∈ ab_TW := ab_in 766 (by decide +kernel) (by decide +kernel)
theorem wd_767 : Cond.methodLink RX1 42 yX1_bestOfGroups ∈ ab_TW := ab_in 767 (by decide +kernel) (by decide +kernel)
theorem wd_768 : Cond.methodLink RX1 25 yX1_sumOfRunning ∈ ab_TW := ab_in 768 (by decide +kernel) (by decide +kernel)
theorem wd_770 : Cond.instanceMethod yX1_sumOfRunning ∈ ab_TW := ab_in 770 (by decide +kernel) (by decide +kernel)
theorem wd_771 : Cond.code yX1_sumOfRunning cX1_sumOfRunning 12 (some .long) ∈ ab_TW := ab_in 771 (by decide +kernel) (by decide +kernel)
theorem wd_772 : Cond.constant RX1 48 (1000000) ∈ ab_TW := ab_in 772 (by decide +kernel) (by decide +kernel)
theorem wd_773 : Cond.methodLink RX1 49 yX5_entryAlone ∈ ab_TW := ab_in 773 (by decide +kernel) (by decide +kernel)
theorem wd_774 : Cond.methodLink RX1 53 yX5_aliveAt ∈ ab_TW := ab_in 774 (by decide +kernel) (by decide +kernel)
theorem wd_775 : Cond.methodLink RX1 56 yX5_fishedTill ∈ ab_TW := ab_in 775 (by decide +kernel) (by decide +kernel)
theorem wd_776 : Cond.methodLink RX1 36 Lib.MathLoose.max_long.x ∈ ab_TW := ab_in 776 (by decide +kernel) (by decide +kernel)
theorem wd_777 : Cond.static Lib.MathLoose.max_long.x ∈ ab_TW := ab_in 777 (by decide +kernel) (by decide +kernel)
theorem wd_778 : Cond.code Lib.MathLoose.max_long.x Lib.MathLoose.max_long.code 4 (some .long) ∈ ab_TW := ab_in 778 (by decide +kernel) (by decide +kernel)
theorem wd_779 : Cond.methodLink RL 103 yX8_does ∈ ab_TW := ab_in 779 (by decide +kernel) (by decide +kernel)
theorem wd_780 : Cond.instanceMethod yX8_does ∈ ab_TW := ab_in 780 (by decide +kernel) (by decide +kernel)
theorem wd_781 : Cond.selects RX8 yX8_does yX8_does ∈ ab_TW := ab_in 781 (by decide +kernel) (by decide +kernel)
theorem wd_782 : Cond.code yX8_does cX8_does 4 (some .int) ∈ ab_TW := ab_in 782 (by decide +kernel) (by decide +kernel)
theorem wd_783 : Cond.methodLink RX8 246 yX1_choice ∈ ab_TW := ab_in 783 (by decide +kernel) (by decide +kernel)
theorem wd_784 : Cond.instanceMethod yX1_choice ∈ ab_TW := ab_in 784 (by decide +kernel) (by decide +kernel)
theorem wd_785 : Cond.selects RX1 yX1_choice yX1_choice ∈ ab_TW := ab_in 785 (by decide +kernel) (by decide +kernel)
theorem wd_786 : Cond.code yX1_choice cX1_choice 10 (some .int) ∈ ab_TW := ab_in 786 (by decide +kernel) (by decide +kernel)
theorem wd_787 : Cond.methodLink RL 107 yX8_better ∈ ab_TW := ab_in 787 (by decide +kernel) (by decide +kernel)
theorem wd_788 : Cond.instanceMethod yX8_better ∈ ab_TW := ab_in 788 (by decide +kernel) (by decide +kernel)
theorem wd_789 : Cond.selects RX8 yX8_better yX8_better ∈ ab_TW := ab_in 789 (by decide +kernel) (by decide +kernel)
theorem wd_790 : Cond.code yX8_better cX8_better 5 (some .int) ∈ ab_TW := ab_in 790 (by decide +kernel) (by decide +kernel)
theorem wd_791 : Cond.methodLink RX8 249 yX0_improves ∈ ab_TW := ab_in 791 (by decide +kernel) (by decide +kernel)
theorem wd_792 : Cond.instanceMethod yX0_improves ∈ ab_TW := ab_in 792 (by decide +kernel) (by decide +kernel)
theorem wd_793 : Cond.selects RX0 yX0_improves yX0_improves ∈ ab_TW := ab_in 793 (by decide +kernel) (by decide +kernel)
theorem wd_794 : Cond.code yX0_improves cX0_improves 13 (some .boolean) ∈ ab_TW := ab_in 794 (by decide +kernel) (by decide +kernel)
theorem wd_795 : Cond.methodLink RX0 42 yX2_meanOf ∈ ab_TW := ab_in 795 (by decide +kernel) (by decide +kernel)
theorem wd_796 : Cond.methodLink RX0 53 yX3_send ∈ ab_TW := ab_in 796 (by decide +kernel) (by decide +kernel)
theorem wd_797 : Cond.methodLink RL 112 yX8_gun ∈ ab_TW := ab_in 797 (by decide +kernel) (by decide +kernel)
theorem wd_798 : Cond.instanceMethod yX8_gun ∈ ab_TW := ab_in 798 (by decide +kernel) (by decide +kernel)
theorem wd_799 : Cond.selects RX8 yX8_gun yX8_gun ∈ ab_TW := ab_in 799 (by decide +kernel) (by decide +kernel)
theorem wd_800 : Cond.code yX8_gun cX8_gun 2 (some .long) ∈ ab_TW := ab_in 800 (by decide +kernel) (by decide +kernel)
theorem wd_801 : Cond.methodLink RX8 253 yX8_meanOfGun ∈ ab_TW := ab_in 801 (by decide +kernel) (by decide +kernel)
theorem wd_803 : Cond.instanceMethod yX8_meanOfGun ∈ ab_TW := ab_in 803 (by decide +kernel) (by decide +kernel)
theorem wd_804 : Cond.code yX8_meanOfGun cX8_meanOfGun 3 (some .long) ∈ ab_TW := ab_in 804 (by decide +kernel) (by decide +kernel)
theorem wd_805 : Cond.methodLink RX8 283 yX5_nearest ∈ ab_TW := ab_in 805 (by decide +kernel) (by decide +kernel)
theorem wd_806 : Cond.methodLink RL 116 yX8_bestGun ∈ ab_TW := ab_in 806 (by decide +kernel) (by decide +kernel)
theorem wd_807 : Cond.instanceMethod yX8_bestGun ∈ ab_TW := ab_in 807 (by decide +kernel) (by decide +kernel)
theorem wd_808 : Cond.selects RX8 yX8_bestGun yX8_bestGun ∈ ab_TW := ab_in 808 (by decide +kernel) (by decide +kernel)
theorem wd_809 : Cond.code yX8_bestGun cX8_bestGun 7 (some .int) ∈ ab_TW := ab_in 809 (by decide +kernel) (by decide +kernel)
theorem wd_810 : Cond.methodLink RL 120 yX8_convoy ∈ ab_TW := ab_in 810 (by decide +kernel) (by decide +kernel)
theorem wd_811 : Cond.instanceMethod yX8_convoy ∈ ab_TW := ab_in 811 (by decide +kernel) (by decide +kernel)
theorem wd_812 : Cond.selects RX8 yX8_convoy yX8_convoy ∈ ab_TW := ab_in 812 (by decide +kernel) (by decide +kernel)
theorem wd_813 : Cond.code yX8_convoy cX8_convoy 5 (some .long) ∈ ab_TW := ab_in 813 (by decide +kernel) (by decide +kernel)
theorem wd_814 : Cond.methodLink RX8 257 yX3_copyFrom ∈ ab_TW := ab_in 814 (by decide +kernel) (by decide +kernel)
theorem wd_815 : Cond.methodLink RX8 261 yX5_leastSpeed ∈ ab_TW := ab_in 815 (by decide +kernel) (by decide +kernel)
theorem wd_816 : Cond.instanceMethod yX5_leastSpeed ∈ ab_TW := ab_in 816 (by decide +kernel) (by decide +kernel)
theorem wd_817 : Cond.selects RX5 yX5_leastSpeed yX5_leastSpeed ∈ ab_TW := ab_in 817 (by decide +kernel) (by decide +kernel)
theorem wd_818 : Cond.code yX5_leastSpeed cX5_leastSpeed 4 (some .int) ∈ ab_TW := ab_in 818 (by decide +kernel) (by decide +kernel)
theorem wd_819 : Cond.methodLink RX8 264 yX2_inConvoy ∈ ab_TW := ab_in 819 (by decide +kernel) (by decide +kernel)
theorem wd_820 : Cond.instanceMethod yX2_inConvoy ∈ ab_TW := ab_in 820 (by decide +kernel) (by decide +kernel)
theorem wd_821 : Cond.selects RX2 yX2_inConvoy yX2_inConvoy ∈ ab_TW := ab_in 821 (by decide +kernel) (by decide +kernel)
theorem wd_822 : Cond.code yX2_inConvoy cX2_inConvoy 3 none ∈ ab_TW := ab_in 822 (by decide +kernel) (by decide +kernel)
theorem wd_823 : Cond.methodLink RL 125 yX8_first ∈ ab_TW := ab_in 823 (by decide +kernel) (by decide +kernel)
theorem wd_824 : Cond.instanceMethod yX8_first ∈ ab_TW := ab_in 824 (by decide +kernel) (by decide +kernel)
theorem wd_825 : Cond.selects RX8 yX8_first yX8_first ∈ ab_TW := ab_in 825 (by decide +kernel) (by decide +kernel)
theorem wd_826 : Cond.code yX8_first cX8_first 1 (some .long) ∈ ab_TW := ab_in 826 (by decide +kernel) (by decide +kernel)
theorem wd_827 : Cond.methodLink RX8 268 yX2_dearestFirst ∈ ab_TW := ab_in 827 (by decide +kernel) (by decide +kernel)
theorem wd_828 : Cond.instanceMethod yX2_dearestFirst ∈ ab_TW := ab_in 828 (by decide +kernel) (by decide +kernel)
theorem wd_829 : Cond.selects RX2 yX2_dearestFirst yX2_dearestFirst ∈ ab_TW := ab_in 829 (by decide +kernel) (by decide +kernel)
theorem wd_830 : Cond.code yX2_dearestFirst cX2_dearestFirst 1 none ∈ ab_TW := ab_in 830 (by decide +kernel) (by decide +kernel)
theorem wd_831 : Cond.methodLink RL 129 yX8_night ∈ ab_TW := ab_in 831 (by decide +kernel) (by decide +kernel)
theorem wd_832 : Cond.instanceMethod yX8_night ∈ ab_TW := ab_in 832 (by decide +kernel) (by decide +kernel)
theorem wd_833 : Cond.selects RX8 yX8_night yX8_night ∈ ab_TW := ab_in 833 (by decide +kernel) (by decide +kernel)
theorem wd_834 : Cond.code yX8_night cX8_night 5 (some .long) ∈ ab_TW := ab_in 834 (by decide +kernel) (by decide +kernel)
theorem wd_835 : Cond.methodLink RX8 271 yX5_drawnBy ∈ ab_TW := ab_in 835 (by decide +kernel) (by decide +kernel)
theorem wd_836 : Cond.instanceMethod yX5_drawnBy ∈ ab_TW := ab_in 836 (by decide +kernel) (by decide +kernel)
theorem wd_837 : Cond.selects RX5 yX5_drawnBy yX5_drawnBy ∈ ab_TW := ab_in 837 (by decide +kernel) (by decide +kernel)
theorem wd_838 : Cond.code yX5_drawnBy cX5_drawnBy 8 (some .int) ∈ ab_TW := ab_in 838 (by decide +kernel) (by decide +kernel)
theorem wd_839 : Cond.constantLong RX5 105 (7919) ∈ ab_TW := ab_in 839 (by decide +kernel) (by decide +kernel)
theorem wd_840 : Cond.constantLong RX5 107 (65521) ∈ ab_TW := ab_in 840 (by decide +kernel) (by decide +kernel)
theorem wd_841 : Cond.constantLong RX5 109 (10) ∈ ab_TW := ab_in 841 (by decide +kernel) (by decide +kernel)
theorem wd_842 : Cond.methodLink RL 133 yX8_keep ∈ ab_TW := ab_in 842 (by decide +kernel) (by decide +kernel)
theorem wd_843 : Cond.instanceMethod yX8_keep ∈ ab_TW := ab_in 843 (by decide +kernel) (by decide +kernel)
theorem wd_844 : Cond.selects RX8 yX8_keep yX8_keep ∈ ab_TW := ab_in 844 (by decide +kernel) (by decide +kernel)
theorem wd_845 : Cond.code yX8_keep cX8_keep 1 (some .int) ∈ ab_TW := ab_in 845 (by decide +kernel) (by decide +kernel)
theorem wd_846 : Cond.methodLink RX8 274 yX7_copyFrom ∈ ab_TW := ab_in 846 (by decide +kernel) (by decide +kernel)
theorem wd_847 : Cond.instanceMethod yX7_copyFrom ∈ ab_TW := ab_in 847 (by decide +kernel) (by decide +kernel)
theorem wd_848 : Cond.selects RX7 yX7_copyFrom yX7_copyFrom ∈ ab_TW := ab_in 848 (by decide +kernel) (by decide +kernel)
theorem wd_849 : Cond.code yX7_copyFrom cX7_copyFrom 2 none ∈ ab_TW := ab_in 849 (by decide +kernel) (by decide +kernel)
theorem wd_850 : Cond.methodLink RX7 34 yX3_copyFrom ∈ ab_TW := ab_in 850 (by decide +kernel) (by decide +kernel)
theorem wd_851 : Cond.methodLink RL 137 yX8_back ∈ ab_TW := ab_in 851 (by decide +kernel) (by decide +kernel)
theorem wd_852 : Cond.instanceMethod yX8_back ∈ ab_TW := ab_in 852 (by decide +kernel) (by decide +kernel)
theorem wd_853 : Cond.selects RX8 yX8_back yX8_back ∈ ab_TW := ab_in 853 (by decide +kernel) (by decide +kernel)
theorem wd_854 : Cond.code yX8_back cX8_back 1 (some .int) ∈ ab_TW := ab_in 854 (by decide +kernel) (by decide +kernel)
theorem wd_855 : Cond.methodLink RL 141 yX8_count ∈ ab_TW := ab_in 855 (by decide +kernel) (by decide +kernel)
theorem wd_856 : Cond.instanceMethod yX8_count ∈ ab_TW := ab_in 856 (by decide +kernel) (by decide +kernel)
theorem wd_857 : Cond.selects RX8 yX8_count yX8_count ∈ ab_TW := ab_in 857 (by decide +kernel) (by decide +kernel)
theorem wd_858 : Cond.code yX8_count cX8_count 2 (some .int) ∈ ab_TW := ab_in 858 (by decide +kernel) (by decide +kernel)
theorem wd_859 : Cond.methodLink RX8 280 yX5_allBoats ∈ ab_TW := ab_in 859 (by decide +kernel) (by decide +kernel)
theorem wd_860 : Cond.instanceMethod yX5_allBoats ∈ ab_TW := ab_in 860 (by decide +kernel) (by decide +kernel)
theorem wd_861 : Cond.selects RX5 yX5_allBoats yX5_allBoats ∈ ab_TW := ab_in 861 (by decide +kernel) (by decide +kernel)
theorem wd_862 : Cond.code yX5_allBoats cX5_allBoats 3 (some .int) ∈ ab_TW := ab_in 862 (by decide +kernel) (by decide +kernel)
theorem wd_863 : Cond.classLink RL 10 RX9 ∈ ab_TW := ab_in 863 (by decide +kernel) (by decide +kernel)
theorem wd_865 : Cond.methodLink RL 12 yX9_init ∈ ab_TW := ab_in 865 (by decide +kernel) (by decide +kernel)
theorem wd_866 : Cond.instanceMethod yX9_init ∈ ab_TW := ab_in 866 (by decide +kernel) (by decide +kernel)
theorem wd_867 : Cond.code yX9_init cX9_init 1 none ∈ ab_TW := ab_in 867 (by decide +kernel) (by decide +kernel)
theorem wd_868 : Cond.methodLink RX9 1 Lib.objectInit ∈ ab_TW := ab_in 868 (by decide +kernel) (by decide +kernel)
theorem wd_869 : Cond.methodLink RX9 60 yX9_begins ∈ ab_TW := ab_in 869 (by decide +kernel) (by decide +kernel)
theorem wd_871 : Cond.instanceMethod yX9_begins ∈ ab_TW := ab_in 871 (by decide +kernel) (by decide +kernel)
theorem wd_872 : Cond.code yX9_begins cX9_begins 3 none ∈ ab_TW := ab_in 872 (by decide +kernel) (by decide +kernel)
theorem wd_873 : Cond.methodLink RX9 64 yX9_anew ∈ ab_TW := ab_in 873 (by decide +kernel) (by decide +kernel)
theorem wd_875 : Cond.instanceMethod yX9_anew ∈ ab_TW := ab_in 875 (by decide +kernel) (by decide +kernel)
theorem wd_876 : Cond.code yX9_anew cX9_anew 2 none ∈ ab_TW := ab_in 876 (by decide +kernel) (by decide +kernel)
theorem wd_877 : Cond.fieldLink RX9 67 "StormHarboursModel" "thrown" "I" ∈ ab_TW := ab_in 877 (by decide +kernel) (by decide +kernel)
theorem wd_878 : Cond.fieldLink RX9 7 "StormHarboursModel" "sea" "[I" ∈ ab_TW := ab_in 878 (by decide +kernel) (by decide +kernel)
theorem wd_879 : Cond.fieldLink RX9 13 "StormHarboursModel" "now" "[I" ∈ ab_TW := ab_in 879 (by decide +kernel) (by decide +kernel)
theorem wd_880 : Cond.fieldLink RX9 16 "StormHarboursModel" "kept" "[I" ∈ ab_TW := ab_in 880 (by decide +kernel) (by decide +kernel)
theorem wd_881 : Cond.fieldLink RX9 71 "StormHarboursModel" "keptMany" "I" ∈ ab_TW := ab_in 881 (by decide +kernel) (by decide +kernel)
theorem wd_882 : Cond.fieldLink RX9 19 "StormHarboursModel" "text" "[I" ∈ ab_TW := ab_in 882 (by decide +kernel) (by decide +kernel)
theorem wd_883 : Cond.fieldLink RX9 78 "StormHarboursModel" "typed" "I" ∈ ab_TW := ab_in 883 (by decide +kernel) (by decide +kernel)
theorem wd_884 : Cond.fieldLink RX9 83 "StormHarboursModel" "at" "I" ∈ ab_TW := ab_in 884 (by decide +kernel) (by decide +kernel)
theorem wd_885 : Cond.fieldLink RX9 90 "StormHarboursModel" "isWell" "Z" ∈ ab_TW := ab_in 885 (by decide +kernel) (by decide +kernel)
theorem wd_886 : Cond.fieldLink RX9 22 "StormHarboursModel" "hours" "[I" ∈ ab_TW := ab_in 886 (by decide +kernel) (by decide +kernel)
theorem wd_887 : Cond.fieldLink RX9 25 "StormHarboursModel" "goals" "[I" ∈ ab_TW := ab_in 887 (by decide +kernel) (by decide +kernel)
theorem wd_888 : Cond.fieldLink RX9 28 "StormHarboursModel" "speeds" "[I" ∈ ab_TW := ab_in 888 (by decide +kernel) (by decide +kernel)
theorem wd_889 : Cond.fieldLink RX9 31 "StormHarboursModel" "boatSort" "[I" ∈ ab_TW := ab_in 889 (by decide +kernel) (by decide +kernel)
theorem wd_890 : Cond.fieldLink RX9 34 "StormHarboursModel" "came" "[I" ∈ ab_TW := ab_in 890 (by decide +kernel) (by decide +kernel)
theorem wd_891 : Cond.fieldLink RX9 37 "StormHarboursModel" "miles" "[I" ∈ ab_TW := ab_in 891 (by decide +kernel) (by decide +kernel)
theorem wd_892 : Cond.fieldLink RX9 40 "StormHarboursModel" "lives" "[I" ∈ ab_TW := ab_in 892 (by decide +kernel) (by decide +kernel)
theorem wd_893 : Cond.fieldLink RX9 43 "StormHarboursModel" "isSafe" "[Z" ∈ ab_TW := ab_in 893 (by decide +kernel) (by decide +kernel)
theorem wd_894 : Cond.fieldLink RX9 47 "StormHarboursModel" "inside" "[I" ∈ ab_TW := ab_in 894 (by decide +kernel) (by decide +kernel)
theorem wd_895 : Cond.fieldLink RX9 50 "StormHarboursModel" "valueOf" "[J" ∈ ab_TW := ab_in 895 (by decide +kernel) (by decide +kernel)
theorem wd_896 : Cond.fieldLink RX9 54 "StormHarboursModel" "ways" "[J" ∈ ab_TW := ab_in 896 (by decide +kernel) (by decide +kernel)
theorem wd_897 : Cond.fieldLink RX9 57 "StormHarboursModel" "bests" "[J" ∈ ab_TW := ab_in 897 (by decide +kernel) (by decide +kernel)
theorem wd_942 : Cond.methodLink RL 19 yX9_write ∈ ab_TW := ab_in 942 (by decide +kernel) (by decide +kernel)
theorem wd_943 : Cond.instanceMethod yX9_write ∈ ab_TW := ab_in 943 (by decide +kernel) (by decide +kernel)
theorem wd_944 : Cond.selects RX9 yX9_write yX9_write ∈ ab_TW := ab_in 944 (by decide +kernel) (by decide +kernel)
theorem wd_945 : Cond.code yX9_write cX9_write 5 (some .int) ∈ ab_TW := ab_in 945 (by decide +kernel) (by decide +kernel)
theorem wd_946 : Cond.methodLink RX9 74 yX9_isIn ∈ ab_TW := ab_in 946 (by decide +kernel) (by decide +kernel)
theorem wd_947 : Cond.static yX9_isIn ∈ ab_TW := ab_in 947 (by decide +kernel) (by decide +kernel)
theorem wd_948 : Cond.code yX9_isIn cX9_isIn 3 (some .boolean) ∈ ab_TW := ab_in 948 (by decide +kernel) (by decide +kernel)
theorem wd_949 : Cond.constantLong RX9 81 (255) ∈ ab_TW := ab_in 949 (by decide +kernel) (by decide +kernel)
theorem wd_950 : Cond.methodLink RL 24 yX9_wipe ∈ ab_TW := ab_in 950 (by decide +kernel) (by decide +kernel)
theorem wd_951 : Cond.instanceMethod yX9_wipe ∈ ab_TW := ab_in 951 (by decide +kernel) (by decide +kernel)
theorem wd_952 : Cond.selects RX9 yX9_wipe yX9_wipe ∈ ab_TW := ab_in 952 (by decide +kernel) (by decide +kernel)
theorem wd_953 : Cond.code yX9_wipe cX9_wipe 2 (some .int) ∈ ab_TW := ab_in 953 (by decide +kernel) (by decide +kernel)
theorem wd_954 : Cond.methodLink RL 28 yX9_fault ∈ ab_TW := ab_in 954 (by decide +kernel) (by decide +kernel)
theorem wd_955 : Cond.instanceMethod yX9_fault ∈ ab_TW := ab_in 955 (by decide +kernel) (by decide +kernel)
theorem wd_956 : Cond.selects RX9 yX9_fault yX9_fault ∈ ab_TW := ab_in 956 (by decide +kernel) (by decide +kernel)
theorem wd_957 : Cond.code yX9_fault cX9_fault 1 (some .int) ∈ ab_TW := ab_in 957 (by decide +kernel) (by decide +kernel)
theorem wd_958 : Cond.methodLink RX9 117 yX9_reads ∈ ab_TW := ab_in 958 (by decide +kernel) (by decide +kernel)
theorem wd_960 : Cond.instanceMethod yX9_reads ∈ ab_TW := ab_in 960 (by decide +kernel) (by decide +kernel)
theorem wd_961 : Cond.code yX9_reads cX9_reads 3 (some .int) ∈ ab_TW := ab_in 961 (by decide +kernel) (by decide +kernel)
theorem wd_962 : Cond.methodLink RX9 86 yX9_byteAt ∈ ab_TW := ab_in 962 (by decide +kernel) (by decide +kernel)
theorem wd_964 : Cond.instanceMethod yX9_byteAt ∈ ab_TW := ab_in 964 (by decide +kernel) (by decide +kernel)
theorem wd_965 : Cond.code yX9_byteAt cX9_byteAt 2 (some .int) ∈ ab_TW := ab_in 965 (by decide +kernel) (by decide +kernel)
theorem wd_966 : Cond.methodLink RX9 114 yX9_readsItem ∈ ab_TW := ab_in 966 (by decide +kernel) (by decide +kernel)
theorem wd_968 : Cond.instanceMethod yX9_readsItem ∈ ab_TW := ab_in 968 (by decide +kernel) (by decide +kernel)
theorem wd_969 : Cond.code yX9_readsItem cX9_readsItem 5 none ∈ ab_TW := ab_in 969 (by decide +kernel) (by decide +kernel)
theorem wd_970 : Cond.methodLink RX9 105 yX9_readsHarbour ∈ ab_TW := ab_in 970 (by decide +kernel) (by decide +kernel)
theorem wd_972 : Cond.instanceMethod yX9_readsHarbour ∈ ab_TW := ab_in 972 (by decide +kernel) (by decide +kernel)
theorem wd_973 : Cond.code yX9_readsHarbour cX9_readsHarbour 6 none ∈ ab_TW := ab_in 973 (by decide +kernel) (by decide +kernel)
theorem wd_974 : Cond.methodLink RX9 94 yX9_draft ∈ ab_TW := ab_in 974 (by decide +kernel) (by decide +kernel)
theorem wd_976 : Cond.instanceMethod yX9_draft ∈ ab_TW := ab_in 976 (by decide +kernel) (by decide +kernel)
theorem wd_977 : Cond.code yX9_draft cX9_draft 2 (some .int) ∈ ab_TW := ab_in 977 (by decide +kernel) (by decide +kernel)
theorem wd_978 : Cond.methodLink RX9 97 yX9_number ∈ ab_TW := ab_in 978 (by decide +kernel) (by decide +kernel)
theorem wd_980 : Cond.instanceMethod yX9_number ∈ ab_TW := ab_in 980 (by decide +kernel) (by decide +kernel)
theorem wd_981 : Cond.code yX9_number cX9_number 6 (some .int) ∈ ab_TW := ab_in 981 (by decide +kernel) (by decide +kernel)
theorem wd_982 : Cond.methodLink RX9 101 yX9_puts ∈ ab_TW := ab_in 982 (by decide +kernel) (by decide +kernel)
theorem wd_984 : Cond.instanceMethod yX9_puts ∈ ab_TW := ab_in 984 (by decide +kernel) (by decide +kernel)
theorem wd_985 : Cond.code yX9_puts cX9_puts 3 none ∈ ab_TW := ab_in 985 (by decide +kernel) (by decide +kernel)
theorem wd_986 : Cond.methodLink RX9 108 yX9_readsSort ∈ ab_TW := ab_in 986 (by decide +kernel) (by decide +kernel)
theorem wd_988 : Cond.instanceMethod yX9_readsSort ∈ ab_TW := ab_in 988 (by decide +kernel) (by decide +kernel)
theorem wd_989 : Cond.code yX9_readsSort cX9_readsSort 7 none ∈ ab_TW := ab_in 989 (by decide +kernel) (by decide +kernel)
theorem wd_990 : Cond.methodLink RX9 111 yX9_readsStorm ∈ ab_TW := ab_in 990 (by decide +kernel) (by decide +kernel)
theorem wd_992 : Cond.instanceMethod yX9_readsStorm ∈ ab_TW := ab_in 992 (by decide +kernel) (by decide +kernel)
theorem wd_993 : Cond.code yX9_readsStorm cX9_readsStorm 8 none ∈ ab_TW := ab_in 993 (by decide +kernel) (by decide +kernel)
theorem wd_994 : Cond.methodLink RL 32 yX9_lay ∈ ab_TW := ab_in 994 (by decide +kernel) (by decide +kernel)
theorem wd_995 : Cond.instanceMethod yX9_lay ∈ ab_TW := ab_in 995 (by decide +kernel) (by decide +kernel)
theorem wd_996 : Cond.selects RX9 yX9_lay yX9_lay ∈ ab_TW := ab_in 996 (by decide +kernel) (by decide +kernel)
theorem wd_997 : Cond.code yX9_lay cX9_lay 4 (some .int) ∈ ab_TW := ab_in 997 (by decide +kernel) (by decide +kernel)
theorem wd_998 : Cond.methodLink RL 37 yX9_storm ∈ ab_TW := ab_in 998 (by decide +kernel) (by decide +kernel)
theorem wd_999 : Cond.instanceMethod yX9_storm ∈ ab_TW := ab_in 999 (by decide +kernel) (by decide +kernel)
theorem wd_1000 : Cond.selects RX9 yX9_storm yX9_storm ∈ ab_TW := ab_in 1000 (by decide +kernel) (by decide +kernel)
theorem wd_1001 : Cond.code yX9_storm cX9_storm 4 (some .int) ∈ ab_TW := ab_in 1001 (by decide +kernel) (by decide +kernel)
theorem wd_1002 : Cond.methodLink RX9 125 yX9_isStorm ∈ ab_TW := ab_in 1002 (by decide +kernel) (by decide +kernel)
theorem wd_1004 : Cond.instanceMethod yX9_isStorm ∈ ab_TW := ab_in 1004 (by decide +kernel) (by decide +kernel)
theorem wd_1005 : Cond.code yX9_isStorm cX9_isStorm 2 (some .boolean) ∈ ab_TW := ab_in 1005 (by decide +kernel) (by decide +kernel)
theorem wd_1006 : Cond.methodLink RX9 121 yX9_strength ∈ ab_TW := ab_in 1006 (by decide +kernel) (by decide +kernel)
theorem wd_1008 : Cond.instanceMethod yX9_strength ∈ ab_TW := ab_in 1008 (by decide +kernel) (by decide +kernel)
theorem wd_1009 : Cond.code yX9_strength cX9_strength 6 (some .int) ∈ ab_TW := ab_in 1009 (by decide +kernel) (by decide +kernel)
theorem wd_1010 : Cond.methodLink RX9 129 yX9_glass ∈ ab_TW := ab_in 1010 (by decide +kernel) (by decide +kernel)
theorem wd_1012 : Cond.instanceMethod yX9_glass ∈ ab_TW := ab_in 1012 (by decide +kernel) (by decide +kernel)
theorem wd_1013 : Cond.code yX9_glass cX9_glass 3 (some .int) ∈ ab_TW := ab_in 1013 (by decide +kernel) (by decide +kernel)
theorem wd_1014 : Cond.methodLink RL 41 yX9_open ∈ ab_TW := ab_in 1014 (by decide +kernel) (by decide +kernel)
theorem wd_1015 : Cond.instanceMethod yX9_open ∈ ab_TW := ab_in 1015 (by decide +kernel) (by decide +kernel)
theorem wd_1016 : Cond.selects RX9 yX9_open yX9_open ∈ ab_TW := ab_in 1016 (by decide +kernel) (by decide +kernel)
theorem wd_1017 : Cond.code yX9_open cX9_open 4 (some .int) ∈ ab_TW := ab_in 1017 (by decide +kernel) (by decide +kernel)
theorem wd_1018 : Cond.methodLink RX9 132 yX9_isHarbour ∈ ab_TW := ab_in 1018 (by decide +kernel) (by decide +kernel)
theorem wd_1020 : Cond.instanceMethod yX9_isHarbour ∈ ab_TW := ab_in 1020 (by decide +kernel) (by decide +kernel)
theorem wd_1021 : Cond.code yX9_isHarbour cX9_isHarbour 2 (some .boolean) ∈ ab_TW := ab_in 1021 (by decide +kernel) (by decide +kernel)
theorem wd_1022 : Cond.methodLink RX9 135 yX9_isOpen ∈ ab_TW := ab_in 1022 (by decide +kernel) (by decide +kernel)
theorem wd_1024 : Cond.instanceMethod yX9_isOpen ∈ ab_TW := ab_in 1024 (by decide +kernel) (by decide +kernel)
theorem wd_1025 : Cond.code yX9_isOpen cX9_isOpen 4 (some .boolean) ∈ ab_TW := ab_in 1025 (by decide +kernel) (by decide +kernel)
theorem wd_1026 : Cond.methodLink RL 45 yX9_risk ∈ ab_TW := ab_in 1026 (by decide +kernel) (by decide +kernel)
theorem wd_1027 : Cond.instanceMethod yX9_risk ∈ ab_TW := ab_in 1027 (by decide +kernel) (by decide +kernel)
theorem wd_1028 : Cond.selects RX9 yX9_risk yX9_risk ∈ ab_TW := ab_in 1028 (by decide +kernel) (by decide +kernel)
theorem wd_1029 : Cond.code yX9_risk cX9_risk 4 (some .int) ∈ ab_TW := ab_in 1029 (by decide +kernel) (by decide +kernel)
theorem wd_1030 : Cond.methodLink RX9 138 yX9_isSort ∈ ab_TW := ab_in 1030 (by decide +kernel) (by decide +kernel)
theorem wd_1032 : Cond.instanceMethod yX9_isSort ∈ ab_TW := ab_in 1032 (by decide +kernel) (by decide +kernel)
theorem wd_1033 : Cond.code yX9_isSort cX9_isSort 2 (some .boolean) ∈ ab_TW := ab_in 1033 (by decide +kernel) (by decide +kernel)
theorem wd_1034 : Cond.methodLink RX9 141 yX9_riskOf ∈ ab_TW := ab_in 1034 (by decide +kernel) (by decide +kernel)
theorem wd_1036 : Cond.instanceMethod yX9_riskOf ∈ ab_TW := ab_in 1036 (by decide +kernel) (by decide +kernel)
theorem wd_1037 : Cond.code yX9_riskOf cX9_riskOf 5 (some .int) ∈ ab_TW := ab_in 1037 (by decide +kernel) (by decide +kernel)
theorem wd_1038 : Cond.methodLink RL 50 yX9_reach ∈ ab_TW := ab_in 1038 (by decide +kernel) (by decide +kernel)
theorem wd_1039 : Cond.instanceMethod yX9_reach ∈ ab_TW := ab_in 1039 (by decide +kernel) (by decide +kernel)
theorem wd_1040 : Cond.selects RX9 yX9_reach yX9_reach ∈ ab_TW := ab_in 1040 (by decide +kernel) (by decide +kernel)
theorem wd_1041 : Cond.code yX9_reach cX9_reach 6 (some .int) ∈ ab_TW := ab_in 1041 (by decide +kernel) (by decide +kernel)
theorem wd_1042 : Cond.methodLink RX9 150 yX9_reachOf ∈ ab_TW := ab_in 1042 (by decide +kernel) (by decide +kernel)
theorem wd_1044 : Cond.instanceMethod yX9_reachOf ∈ ab_TW := ab_in 1044 (by decide +kernel) (by decide +kernel)
theorem wd_1045 : Cond.code yX9_reachOf cX9_reachOf 7 (some .int) ∈ ab_TW := ab_in 1045 (by decide +kernel) (by decide +kernel)
theorem wd_1046 : Cond.methodLink RX9 144 yX9_away ∈ ab_TW := ab_in 1046 (by decide +kernel) (by decide +kernel)
theorem wd_1048 : Cond.instanceMethod yX9_away ∈ ab_TW := ab_in 1048 (by decide +kernel) (by decide +kernel)
theorem wd_1049 : Cond.code yX9_away cX9_away 3 (some .int) ∈ ab_TW := ab_in 1049 (by decide +kernel) (by decide +kernel)
theorem wd_1050 : Cond.methodLink RX9 147 yX9_madeBy ∈ ab_TW := ab_in 1050 (by decide +kernel) (by decide +kernel)
theorem wd_1052 : Cond.instanceMethod yX9_madeBy ∈ ab_TW := ab_in 1052 (by decide +kernel) (by decide +kernel)
theorem wd_1053 : Cond.code yX9_madeBy cX9_madeBy 5 (some .int) ∈ ab_TW := ab_in 1053 (by decide +kernel) (by decide +kernel)
theorem wd_1054 : Cond.methodLink RL 54 yX9_plan ∈ ab_TW := ab_in 1054 (by decide +kernel) (by decide +kernel)
theorem wd_1055 : Cond.instanceMethod yX9_plan ∈ ab_TW := ab_in 1055 (by decide +kernel) (by decide +kernel)
theorem wd_1056 : Cond.selects RX9 yX9_plan yX9_plan ∈ ab_TW := ab_in 1056 (by decide +kernel) (by decide +kernel)
theorem wd_1057 : Cond.code yX9_plan cX9_plan 5 (some .int) ∈ ab_TW := ab_in 1057 (by decide +kernel) (by decide +kernel)
theorem wd_1058 : Cond.methodLink RL 59 yX9_value ∈ ab_TW := ab_in 1058 (by decide +kernel) (by decide +kernel)
theorem wd_1059 : Cond.instanceMethod yX9_value ∈ ab_TW := ab_in 1059 (by decide +kernel) (by decide +kernel)
theorem wd_1060 : Cond.selects RX9 yX9_value yX9_value ∈ ab_TW := ab_in 1060 (by decide +kernel) (by decide +kernel)
theorem wd_1061 : Cond.code yX9_value cX9_value 2 (some .long) ∈ ab_TW := ab_in 1061 (by decide +kernel) (by decide +kernel)
theorem wd_1062 : Cond.constantLong RX9 168 (-9223372036854775808) ∈ ab_TW := ab_in 1062 (by decide +kernel) (by decide +kernel)
theorem wd_1063 : Cond.methodLink RX9 170 yX9_asPlanned ∈ ab_TW := ab_in 1063 (by decide +kernel) (by decide +kernel)
theorem wd_1065 : Cond.instanceMethod yX9_asPlanned ∈ ab_TW := ab_in 1065 (by decide +kernel) (by decide +kernel)
theorem wd_1066 : Cond.code yX9_asPlanned cX9_asPlanned 2 none ∈ ab_TW := ab_in 1066 (by decide +kernel) (by decide +kernel)
theorem wd_1067 : Cond.methodLink RX9 173 yX9_goesBy ∈ ab_TW := ab_in 1067 (by decide +kernel) (by decide +kernel)
theorem wd_1069 : Cond.instanceMethod yX9_goesBy ∈ ab_TW := ab_in 1069 (by decide +kernel) (by decide +kernel)
theorem wd_1070 : Cond.code yX9_goesBy cX9_goesBy 8 (some .long) ∈ ab_TW := ab_in 1070 (by decide +kernel) (by decide +kernel)
theorem wd_1071 : Cond.constant RX9 157 (1000000) ∈ ab_TW := ab_in 1071 (by decide +kernel) (by decide +kernel)
theorem wd_1072 : Cond.methodLink RX9 158 yX9_nextIn ∈ ab_TW := ab_in 1072 (by decide +kernel) (by decide +kernel)
theorem wd_1074 : Cond.instanceMethod yX9_nextIn ∈ ab_TW := ab_in 1074 (by decide +kernel) (by decide +kernel)
theorem wd_1075 : Cond.code yX9_nextIn cX9_nextIn 9 (some .int) ∈ ab_TW := ab_in 1075 (by decide +kernel) (by decide +kernel)
theorem wd_1076 : Cond.methodLink RX9 154 yX9_weightOf ∈ ab_TW := ab_in 1076 (by decide +kernel) (by decide +kernel)
theorem wd_1078 : Cond.instanceMethod yX9_weightOf ∈ ab_TW := ab_in 1078 (by decide +kernel) (by decide +kernel)
theorem wd_1079 : Cond.code yX9_weightOf cX9_weightOf 2 (some .int) ∈ ab_TW := ab_in 1079 (by decide +kernel) (by decide +kernel)
theorem wd_1080 : Cond.methodLink RX9 162 yX9_hour ∈ ab_TW := ab_in 1080 (by decide +kernel) (by decide +kernel)
theorem wd_1082 : Cond.instanceMethod yX9_hour ∈ ab_TW := ab_in 1082 (by decide +kernel) (by decide +kernel)
theorem wd_1083 : Cond.code yX9_hour cX9_hour 5 none ∈ ab_TW := ab_in 1083 (by decide +kernel) (by decide +kernel)
theorem wd_1084 : Cond.constantLong RX9 166 (1000) ∈ ab_TW := ab_in 1084 (by decide +kernel) (by decide +kernel)
theorem wd_1085 : Cond.methodLink RL 64 yX9_in ∈ ab_TW := ab_in 1085 (by decide +kernel) (by decide +kernel)
theorem wd_1086 : Cond.instanceMethod yX9_in ∈ ab_TW := ab_in 1086 (by decide +kernel) (by decide +kernel)
theorem wd_1087 : Cond.selects RX9 yX9_in yX9_in ∈ ab_TW := ab_in 1087 (by decide +kernel) (by decide +kernel)
theorem wd_1088 : Cond.code yX9_in cX9_in 5 (some .int) ∈ ab_TW := ab_in 1088 (by decide +kernel) (by decide +kernel)
theorem wd_1089 : Cond.methodLink RX9 177 yX9_boats ∈ ab_TW := ab_in 1089 (by decide +kernel) (by decide +kernel)
theorem wd_1091 : Cond.instanceMethod yX9_boats ∈ ab_TW := ab_in 1091 (by decide +kernel) (by decide +kernel)
theorem wd_1092 : Cond.code yX9_boats cX9_boats 3 (some .int) ∈ ab_TW := ab_in 1092 (by decide +kernel) (by decide +kernel)
theorem wd_1093 : Cond.methodLink RL 68 yX9_lives ∈ ab_TW := ab_in 1093 (by decide +kernel) (by decide +kernel)
theorem wd_1094 : Cond.instanceMethod yX9_lives ∈ ab_TW := ab_in 1094 (by decide +kernel) (by decide +kernel)
theorem wd_1095 : Cond.selects RX9 yX9_lives yX9_lives ∈ ab_TW := ab_in 1095 (by decide +kernel) (by decide +kernel)
theorem wd_1096 : Cond.code yX9_lives cX9_lives 4 (some .int) ∈ ab_TW := ab_in 1096 (by decide +kernel) (by decide +kernel)
theorem wd_1097 : Cond.methodLink RX9 180 yX9_firstOf ∈ ab_TW := ab_in 1097 (by decide +kernel) (by decide +kernel)
theorem wd_1099 : Cond.instanceMethod yX9_firstOf ∈ ab_TW := ab_in 1099 (by decide +kernel) (by decide +kernel)
theorem wd_1100 : Cond.code yX9_firstOf cX9_firstOf 4 (some .int) ∈ ab_TW := ab_in 1100 (by decide +kernel) (by decide +kernel)
theorem wd_1101 : Cond.methodLink RL 73 yX9_mean ∈ ab_TW := ab_in 1101 (by decide +kernel) (by decide +kernel)
theorem wd_1102 : Cond.instanceMethod yX9_mean ∈ ab_TW := ab_in 1102 (by decide +kernel) (by decide +kernel)
theorem wd_1103 : Cond.selects RX9 yX9_mean yX9_mean ∈ ab_TW := ab_in 1103 (by decide +kernel) (by decide +kernel)
theorem wd_1104 : Cond.code yX9_mean cX9_mean 1 (some .long) ∈ ab_TW := ab_in 1104 (by decide +kernel) (by decide +kernel)
theorem wd_1105 : Cond.methodLink RX9 189 yX9_meanOf ∈ ab_TW := ab_in 1105 (by decide +kernel) (by decide +kernel)
theorem wd_1107 : Cond.instanceMethod yX9_meanOf ∈ ab_TW := ab_in 1107 (by decide +kernel) (by decide +kernel)
theorem wd_1108 : Cond.code yX9_meanOf cX9_meanOf 8 (some .long) ∈ ab_TW := ab_in 1108 (by decide +kernel) (by decide +kernel)
theorem wd_1109 : Cond.methodLink RX9 183 yX9_isThought ∈ ab_TW := ab_in 1109 (by decide +kernel) (by decide +kernel)
theorem wd_1111 : Cond.instanceMethod yX9_isThought ∈ ab_TW := ab_in 1111 (by decide +kernel) (by decide +kernel)
theorem wd_1112 : Cond.code yX9_isThought cX9_isThought 2 (some .boolean) ∈ ab_TW := ab_in 1112 (by decide +kernel) (by decide +kernel)
theorem wd_1113 : Cond.methodLink RX9 186 yX9_tenths ∈ ab_TW := ab_in 1113 (by decide +kernel) (by decide +kernel)
theorem wd_1115 : Cond.instanceMethod yX9_tenths ∈ ab_TW := ab_in 1115 (by decide +kernel) (by decide +kernel)
theorem wd_1116 : Cond.code yX9_tenths cX9_tenths 2 (some .int) ∈ ab_TW := ab_in 1116 (by decide +kernel) (by decide +kernel)
theorem wd_1117 : Cond.methodLink RL 78 yX9_shut ∈ ab_TW := ab_in 1117 (by decide +kernel) (by decide +kernel)
theorem wd_1118 : Cond.instanceMethod yX9_shut ∈ ab_TW := ab_in 1118 (by decide +kernel) (by decide +kernel)
theorem wd_1119 : Cond.selects RX9 yX9_shut yX9_shut ∈ ab_TW := ab_in 1119 (by decide +kernel) (by decide +kernel)
theorem wd_1120 : Cond.code yX9_shut cX9_shut 3 (some .int) ∈ ab_TW := ab_in 1120 (by decide +kernel) (by decide +kernel)
theorem wd_1121 : Cond.methodLink RL 82 yX9_sign ∈ ab_TW := ab_in 1121 (by decide +kernel) (by decide +kernel)
theorem wd_1122 : Cond.instanceMethod yX9_sign ∈ ab_TW := ab_in 1122 (by decide +kernel) (by decide +kernel)
theorem wd_1123 : Cond.selects RX9 yX9_sign yX9_sign ∈ ab_TW := ab_in 1123 (by decide +kernel) (by decide +kernel)
theorem wd_1124 : Cond.code yX9_sign cX9_sign 4 (some .int) ∈ ab_TW := ab_in 1124 (by decide +kernel) (by decide +kernel)
theorem wd_1125 : Cond.methodLink RL 86 yX9_now ∈ ab_TW := ab_in 1125 (by decide +kernel) (by decide +kernel)
theorem wd_1126 : Cond.instanceMethod yX9_now ∈ ab_TW := ab_in 1126 (by decide +kernel) (by decide +kernel)
theorem wd_1127 : Cond.selects RX9 yX9_now yX9_now ∈ ab_TW := ab_in 1127 (by decide +kernel) (by decide +kernel)
theorem wd_1128 : Cond.code yX9_now cX9_now 2 (some .int) ∈ ab_TW := ab_in 1128 (by decide +kernel) (by decide +kernel)
theorem wd_1129 : Cond.methodLink RL 90 yX9_set ∈ ab_TW := ab_in 1129 (by decide +kernel) (by decide +kernel)
theorem wd_1130 : Cond.instanceMethod yX9_set ∈ ab_TW := ab_in 1130 (by decide +kernel) (by decide +kernel)
theorem wd_1131 : Cond.selects RX9 yX9_set yX9_set ∈ ab_TW := ab_in 1131 (by decide +kernel) (by decide +kernel)
theorem wd_1132 : Cond.code yX9_set cX9_set 4 (some .int) ∈ ab_TW := ab_in 1132 (by decide +kernel) (by decide +kernel)
theorem wd_1133 : Cond.methodLink RL 94 yX9_by ∈ ab_TW := ab_in 1133 (by decide +kernel) (by decide +kernel)
theorem wd_1134 : Cond.instanceMethod yX9_by ∈ ab_TW := ab_in 1134 (by decide +kernel) (by decide +kernel)
theorem wd_1135 : Cond.selects RX9 yX9_by yX9_by ∈ ab_TW := ab_in 1135 (by decide +kernel) (by decide +kernel)
theorem wd_1136 : Cond.code yX9_by cX9_by 5 (some .long) ∈ ab_TW := ab_in 1136 (by decide +kernel) (by decide +kernel)
theorem wd_1137 : Cond.methodLink RX9 202 yX9_isRule ∈ ab_TW := ab_in 1137 (by decide +kernel) (by decide +kernel)
theorem wd_1138 : Cond.static yX9_isRule ∈ ab_TW := ab_in 1138 (by decide +kernel) (by decide +kernel)
theorem wd_1139 : Cond.code yX9_isRule cX9_isRule 1 (some .boolean) ∈ ab_TW := ab_in 1139 (by decide +kernel) (by decide +kernel)
theorem wd_1140 : Cond.methodLink RX9 205 yX9_ruled ∈ ab_TW := ab_in 1140 (by decide +kernel) (by decide +kernel)
theorem wd_1142 : Cond.instanceMethod yX9_ruled ∈ ab_TW := ab_in 1142 (by decide +kernel) (by decide +kernel)
theorem wd_1143 : Cond.code yX9_ruled cX9_ruled 8 none ∈ ab_TW := ab_in 1143 (by decide +kernel) (by decide +kernel)
theorem wd_1144 : Cond.methodLink RX9 196 yX9_openest ∈ ab_TW := ab_in 1144 (by decide +kernel) (by decide +kernel)
theorem wd_1146 : Cond.instanceMethod yX9_openest ∈ ab_TW := ab_in 1146 (by decide +kernel) (by decide +kernel)
theorem wd_1147 : Cond.code yX9_openest cX9_openest 6 (some .int) ∈ ab_TW := ab_in 1147 (by decide +kernel) (by decide +kernel)
theorem wd_1148 : Cond.methodLink RX9 193 yX9_getsIn ∈ ab_TW := ab_in 1148 (by decide +kernel) (by decide +kernel)
theorem wd_1150 : Cond.instanceMethod yX9_getsIn ∈ ab_TW := ab_in 1150 (by decide +kernel) (by decide +kernel)
theorem wd_1151 : Cond.code yX9_getsIn cX9_getsIn 8 (some .int) ∈ ab_TW := ab_in 1151 (by decide +kernel) (by decide +kernel)
theorem wd_1152 : Cond.methodLink RX9 199 yX9_nearest ∈ ab_TW := ab_in 1152 (by decide +kernel) (by decide +kernel)
theorem wd_1154 : Cond.instanceMethod yX9_nearest ∈ ab_TW := ab_in 1154 (by decide +kernel) (by decide +kernel)
theorem wd_1155 : Cond.code yX9_nearest cX9_nearest 4 (some .int) ∈ ab_TW := ab_in 1155 (by decide +kernel) (by decide +kernel)
theorem wd_1156 : Cond.methodLink RL 98 yX9_ran ∈ ab_TW := ab_in 1156 (by decide +kernel) (by decide +kernel)
theorem wd_1157 : Cond.instanceMethod yX9_ran ∈ ab_TW := ab_in 1157 (by decide +kernel) (by decide +kernel)
theorem wd_1158 : Cond.selects RX9 yX9_ran yX9_ran ∈ ab_TW := ab_in 1158 (by decide +kernel) (by decide +kernel)
theorem wd_1159 : Cond.code yX9_ran cX9_ran 4 (some .int) ∈ ab_TW := ab_in 1159 (by decide +kernel) (by decide +kernel)
theorem wd_1160 : Cond.methodLink RL 102 yX9_alone ∈ ab_TW := ab_in 1160 (by decide +kernel) (by decide +kernel)
theorem wd_1161 : Cond.instanceMethod yX9_alone ∈ ab_TW := ab_in 1161 (by decide +kernel) (by decide +kernel)
theorem wd_1162 : Cond.selects RX9 yX9_alone yX9_alone ∈ ab_TW := ab_in 1162 (by decide +kernel) (by decide +kernel)
theorem wd_1163 : Cond.code yX9_alone cX9_alone 2 (some .long) ∈ ab_TW := ab_in 1163 (by decide +kernel) (by decide +kernel)
theorem wd_1164 : Cond.methodLink RX9 223 yX9_laysAlone ∈ ab_TW := ab_in 1164 (by decide +kernel) (by decide +kernel)
theorem wd_1166 : Cond.instanceMethod yX9_laysAlone ∈ ab_TW := ab_in 1166 (by decide +kernel) (by decide +kernel)
theorem wd_1167 : Cond.code yX9_laysAlone cX9_laysAlone 9 none ∈ ab_TW := ab_in 1167 (by decide +kernel) (by decide +kernel)
theorem wd_1168 : Cond.methodLink RX9 208 yX9_wayOf ∈ ab_TW := ab_in 1168 (by decide +kernel) (by decide +kernel)
theorem wd_1170 : Cond.instanceMethod yX9_wayOf ∈ ab_TW := ab_in 1170 (by decide +kernel) (by decide +kernel)
theorem wd_1171 : Cond.code yX9_wayOf cX9_wayOf 11 (some .long) ∈ ab_TW := ab_in 1171 (by decide +kernel) (by decide +kernel)
theorem wd_1172 : Cond.methodLink RX9 212 yX9_staying ∈ ab_TW := ab_in 1172 (by decide +kernel) (by decide +kernel)
theorem wd_1174 : Cond.instanceMethod yX9_staying ∈ ab_TW := ab_in 1174 (by decide +kernel) (by decide +kernel)
theorem wd_1175 : Cond.code yX9_staying cX9_staying 3 (some .long) ∈ ab_TW := ab_in 1175 (by decide +kernel) (by decide +kernel)
theorem wd_1176 : Cond.methodLink RX9 216 yX9_running ∈ ab_TW := ab_in 1176 (by decide +kernel) (by decide +kernel)
theorem wd_1178 : Cond.instanceMethod yX9_running ∈ ab_TW := ab_in 1178 (by decide +kernel) (by decide +kernel)
theorem wd_1179 : Cond.code yX9_running cX9_running 7 (some .long) ∈ ab_TW := ab_in 1179 (by decide +kernel) (by decide +kernel)
theorem wd_1180 : Cond.methodLink RX9 220 yX9_seeing ∈ ab_TW := ab_in 1180 (by decide +kernel) (by decide +kernel)
theorem wd_1182 : Cond.instanceMethod yX9_seeing ∈ ab_TW := ab_in 1182 (by decide +kernel) (by decide +kernel)
theorem wd_1183 : Cond.code yX9_seeing cX9_seeing 8 (some .long) ∈ ab_TW := ab_in 1183 (by decide +kernel) (by decide +kernel)
theorem wd_1184 : Cond.methodLink RL 106 yX9_does ∈ ab_TW := ab_in 1184 (by decide +kernel) (by decide +kernel)
theorem wd_1185 : Cond.instanceMethod yX9_does ∈ ab_TW := ab_in 1185 (by decide +kernel) (by decide +kernel)
theorem wd_1186 : Cond.selects RX9 yX9_does yX9_does ∈ ab_TW := ab_in 1186 (by decide +kernel) (by decide +kernel)
theorem wd_1187 : Cond.code yX9_does cX9_does 8 (some .int) ∈ ab_TW := ab_in 1187 (by decide +kernel) (by decide +kernel)
theorem wd_1188 : Cond.methodLink RL 111 yX9_better ∈ ab_TW := ab_in 1188 (by decide +kernel) (by decide +kernel)
theorem wd_1189 : Cond.instanceMethod yX9_better ∈ ab_TW := ab_in 1189 (by decide +kernel) (by decide +kernel)
theorem wd_1190 : Cond.selects RX9 yX9_better yX9_better ∈ ab_TW := ab_in 1190 (by decide +kernel) (by decide +kernel)
theorem wd_1191 : Cond.code yX9_better cX9_better 5 (some .int) ∈ ab_TW := ab_in 1191 (by decide +kernel) (by decide +kernel)
theorem wd_1192 : Cond.methodLink RX9 226 yX9_betters ∈ ab_TW := ab_in 1192 (by decide +kernel) (by decide +kernel)
theorem wd_1194 : Cond.instanceMethod yX9_betters ∈ ab_TW := ab_in 1194 (by decide +kernel) (by decide +kernel)
theorem wd_1195 : Cond.code yX9_betters cX9_betters 13 (some .boolean) ∈ ab_TW := ab_in 1195 (by decide +kernel) (by decide +kernel)
theorem wd_1196 : Cond.methodLink RL 115 yX9_gun ∈ ab_TW := ab_in 1196 (by decide +kernel) (by decide +kernel)
theorem wd_1197 : Cond.instanceMethod yX9_gun ∈ ab_TW := ab_in 1197 (by decide +kernel) (by decide +kernel)
theorem wd_1198 : Cond.selects RX9 yX9_gun yX9_gun ∈ ab_TW := ab_in 1198 (by decide +kernel) (by decide +kernel)
theorem wd_1199 : Cond.code yX9_gun cX9_gun 2 (some .long) ∈ ab_TW := ab_in 1199 (by decide +kernel) (by decide +kernel)
theorem wd_1200 : Cond.methodLink RX9 230 yX9_gunAt ∈ ab_TW := ab_in 1200 (by decide +kernel) (by decide +kernel)
theorem wd_1202 : Cond.instanceMethod yX9_gunAt ∈ ab_TW := ab_in 1202 (by decide +kernel) (by decide +kernel)
theorem wd_1203 : Cond.code yX9_gunAt cX9_gunAt 3 (some .long) ∈ ab_TW := ab_in 1203 (by decide +kernel) (by decide +kernel)
theorem wd_1204 : Cond.methodLink RL 119 yX9_bestGun ∈ ab_TW := ab_in 1204 (by decide +kernel) (by decide +kernel)
theorem wd_1205 : Cond.instanceMethod yX9_bestGun ∈ ab_TW := ab_in 1205 (by decide +kernel) (by decide +kernel)
theorem wd_1206 : Cond.selects RX9 yX9_bestGun yX9_bestGun ∈ ab_TW := ab_in 1206 (by decide +kernel) (by decide +kernel)
theorem wd_1207 : Cond.code yX9_bestGun cX9_bestGun 7 (some .int) ∈ ab_TW := ab_in 1207 (by decide +kernel) (by decide +kernel)
theorem wd_1208 : Cond.methodLink RL 124 yX9_convoy ∈ ab_TW := ab_in 1208 (by decide +kernel) (by decide +kernel)
theorem wd_1209 : Cond.instanceMethod yX9_convoy ∈ ab_TW := ab_in 1209 (by decide +kernel) (by decide +kernel)
theorem wd_1210 : Cond.selects RX9 yX9_convoy yX9_convoy ∈ ab_TW := ab_in 1210 (by decide +kernel) (by decide +kernel)
theorem wd_1211 : Cond.code yX9_convoy cX9_convoy 7 (some .long) ∈ ab_TW := ab_in 1211 (by decide +kernel) (by decide +kernel)
theorem wd_1212 : Cond.methodLink RL 128 yX9_first ∈ ab_TW := ab_in 1212 (by decide +kernel) (by decide +kernel)
theorem wd_1213 : Cond.instanceMethod yX9_first ∈ ab_TW := ab_in 1213 (by decide +kernel) (by decide +kernel)
theorem wd_1214 : Cond.selects RX9 yX9_first yX9_first ∈ ab_TW := ab_in 1214 (by decide +kernel) (by decide +kernel)
theorem wd_1215 : Cond.code yX9_first cX9_first 1 (some .long) ∈ ab_TW := ab_in 1215 (by decide +kernel) (by decide +kernel)
theorem wd_1216 : Cond.methodLink RL 132 yX9_night ∈ ab_TW := ab_in 1216 (by decide +kernel) (by decide +kernel)
theorem wd_1217 : Cond.instanceMethod yX9_night ∈ ab_TW := ab_in 1217 (by decide +kernel) (by decide +kernel)
theorem wd_1218 : Cond.selects RX9 yX9_night yX9_night ∈ ab_TW := ab_in 1218 (by decide +kernel) (by decide +kernel)
theorem wd_1219 : Cond.code yX9_night cX9_night 9 (some .long) ∈ ab_TW := ab_in 1219 (by decide +kernel) (by decide +kernel)
theorem wd_1220 : Cond.constantLong RX9 234 (7919) ∈ ab_TW := ab_in 1220 (by decide +kernel) (by decide +kernel)
theorem wd_1221 : Cond.constantLong RX9 236 (65521) ∈ ab_TW := ab_in 1221 (by decide +kernel) (by decide +kernel)
theorem wd_1222 : Cond.constantLong RX9 238 (10) ∈ ab_TW := ab_in 1222 (by decide +kernel) (by decide +kernel)
theorem wd_1223 : Cond.methodLink RL 136 yX9_keep ∈ ab_TW := ab_in 1223 (by decide +kernel) (by decide +kernel)
theorem wd_1224 : Cond.instanceMethod yX9_keep ∈ ab_TW := ab_in 1224 (by decide +kernel) (by decide +kernel)
theorem wd_1225 : Cond.selects RX9 yX9_keep yX9_keep ∈ ab_TW := ab_in 1225 (by decide +kernel) (by decide +kernel)
theorem wd_1226 : Cond.code yX9_keep cX9_keep 2 (some .int) ∈ ab_TW := ab_in 1226 (by decide +kernel) (by decide +kernel)
theorem wd_1227 : Cond.methodLink RL 140 yX9_back ∈ ab_TW := ab_in 1227 (by decide +kernel) (by decide +kernel)
theorem wd_1228 : Cond.instanceMethod yX9_back ∈ ab_TW := ab_in 1228 (by decide +kernel) (by decide +kernel)
theorem wd_1229 : Cond.selects RX9 yX9_back yX9_back ∈ ab_TW := ab_in 1229 (by decide +kernel) (by decide +kernel)
theorem wd_1230 : Cond.code yX9_back cX9_back 2 (some .int) ∈ ab_TW := ab_in 1230 (by decide +kernel) (by decide +kernel)
theorem wd_1231 : Cond.methodLink RL 144 yX9_count ∈ ab_TW := ab_in 1231 (by decide +kernel) (by decide +kernel)
theorem wd_1232 : Cond.instanceMethod yX9_count ∈ ab_TW := ab_in 1232 (by decide +kernel) (by decide +kernel)
theorem wd_1233 : Cond.selects RX9 yX9_count yX9_count ∈ ab_TW := ab_in 1233 (by decide +kernel) (by decide +kernel)
theorem wd_1234 : Cond.code yX9_count cX9_count 2 (some .int) ∈ ab_TW := ab_in 1234 (by decide +kernel) (by decide +kernel)
theorem wd_1235 : Cond.constantLong RL 13 (4294967295) ∈ ab_TW := ab_in 1235 (by decide +kernel) (by decide +kernel)
theorem wd_1236 : Cond.fieldLink RJ0 9 "java/lang/String" "value" "[B" ∈ ab_TW := ab_in 1236 (by decide +kernel) (by decide +kernel)
theorem wd_1237 : Cond.fieldLink RJ0 15 "java/lang/String" "coder" "B" ∈ ab_TW := ab_in 1237 (by decide +kernel) (by decide +kernel)
theorem uw_0 : ∀ w ∈ u_ws RX0 TX0 3, w ∈ ab_TW := ab_ins [328, 330, 332] (by decide +kernel) (by decide +kernel)
theorem uw_1 : ∀ w ∈ u_ws RX1 TX1 1, w ∈ ab_TW := ab_ins [316] (by decide +kernel) (by decide +kernel)
theorem uw_2 : ∀ w ∈ u_ws RX2 TX2 8, w ∈ ab_TW := ab_ins [279, 281, 283, 285, 287, 289, 291, 293] (by decide +kernel) (by decide +kernel)
theorem uw_3 : ∀ w ∈ u_ws RX3 TX3 2, w ∈ ab_TW := ab_ins [229, 231] (by decide +kernel) (by decide +kernel)
theorem uw_4 : ∀ w ∈ u_ws RX4 TX4 2, w ∈ ab_TW := ab_ins [304, 306] (by decide +kernel) (by decide +kernel)
theorem uw_5 : ∀ w ∈ u_ws RX5 TX5 15, w ∈ ab_TW := ab_ins [177, 179, 181, 183, 185, 187, 189, 191, 193, 195, 197, 199, 201, 203, 205] (by decide +kernel) (by decide +kernel)
theorem uw_6 : ∀ w ∈ u_ws RX6 TX6 9, w ∈ ab_TW := ab_ins [105, 107, 109, 111, 113, 115, 117, 119, 121] (by decide +kernel) (by decide +kernel)
theorem uw_7 : ∀ w ∈ u_ws RX7 TX7 5, w ∈ ab_TW := ab_ins [250, 252, 254, 256, 258] (by decide +kernel) (by decide +kernel)
theorem uw_8 : ∀ w ∈ u_ws RX8 TX8 10, w ∈ ab_TW := ab_ins [520, 522, 524, 526, 528, 530, 532, 534, 536, 538] (by decide +kernel) (by decide +kernel)
theorem uw_9 : ∀ w ∈ u_ws RX9 TX9 21, w ∈ ab_TW := ab_ins [898, 900, 902, 904, 906, 908, 910, 912, 914, 916, 918, 920, 922, 924, 926, 928, 930, 932, 934, 936, 938] (by decide +kernel) (by decide +kernel)
end
section
/-! ===== the cells and their relation to a heap ===== -/
def ab_tb : List (Nat × Nat × Nat) := [(1, 9, 0), (2, 372, 0), (2, 12, 0), (2, 24, 0), (2, 500, 0), (2, 4, 0), (2, 4, 0), (2, 4, 0), (2, 32, 0), (2, 32, 0), (2, 32, 0), (2, 32, 0), (4, 32, 0), (2, 4, 0), (5, 4, 0), (5, 480, 0), (5, 400, 0), (1, 8, 0), (1, 6, 0), (3, 500, 0), (2, 6, 0), (1, 5, 0), (6, 4, 23), (2, 4, 0), (2, 4, 0), (2, 4, 0), (2, 4, 0), (6, 4, 28), (2, 5, 0), (2, 5, 0), (2, 5, 0), (2, 5, 0), (6, 4, 33), (2, 6, 0), (2, 6, 0), (2, 6, 0), (2, 6, 0), (6, 4, 38), (2, 4, 0), (2, 4, 0), (2, 4, 0), (2, 4, 0), (6, 4, 43), (2, 24, 0), (2, 24, 0), (2, 24, 0), (2, 24, 0), (2, 10, 0), (6, 4, 49), (2, 24, 0), (2, 24, 0), (2, 24, 0), (2, 24, 0), (6, 4, 54), (2, 4, 0), (2, 4, 0), (2, 4, 0), (2, 4, 0), (6, 16, 59), (2, 25, 0), (2, 25, 0), (2, 25, 0), (2, 25, 0), (2, 25, 0), (2, 25, 0), (2, 25, 0), (2, 25, 0), (2, 25, 0), (2, 25, 0), (2, 25, 0), (2, 25, 0), (2, 25, 0), (2, 25, 0), (2, 25, 0), (2, 25, 0), (7, 16, 76), (5, 25, 0), (5, 25, 0), (5, 25, 0), (5, 25, 0), (5, 25, 0), (5, 25, 0), (5, 25, 0), (5, 25, 0), (5, 25, 0), (5, 25, 0), (5, 25, 0), (5, 25, 0), (5, 25, 0), (5, 25, 0), (5, 25, 0), (5, 25, 0), (6, 16, 93), (2, 96, 0), (2, 96, 0), (2, 96, 0), (2, 96, 0), (2, 96, 0), (2, 96, 0), (2, 96, 0), (2, 96, 0), (2, 96, 0), (2, 96, 0), (2, 96, 0), (2, 96, 0), (2, 96, 0), (2, 96, 0), (2, 96, 0), (2, 96, 0), (1, 7, 0), (1, 3, 0), (2, 4, 0), (2, 4, 0), (8, 2, 114), (1, 7, 0), (1, 7, 0), (1, 3, 0), (2, 4, 0), (2, 4, 0), (1, 3, 0), (2, 4, 0), (2, 4, 0), (1, 2, 0), (2, 4, 0), (2, 4, 0), (2, 4, 0), (6, 4, 127), (2, 8, 0), (2, 8, 0), (2, 8, 0), (2, 8, 0), (1, 4, 0), (1, 1, 0), (1, 0, 0), (1, 3, 0), (2, 4, 0), (2, 4, 0), (9, 8, 0), (9, 10, 0), (9, 6, 0), (9, 12, 0), (9, 6, 0), (9, 4, 0), (9, 2, 0), (9, 0, 0)]
def ab_sh (k : Nat) : Nat × Nat × Nat := ab_tb.getD k (0, 0, 0)
def ab_pl : List (List (Option Nat)) := [[none, some 1, some 2, some 3, none, some 4, none, none, none, some 5, some 6, some 7, some 8, some 9, some 10, some 11, some 12, some 13, some 14, some 15, some 16], [], [], [], [], [], [], [], [], [], [], [], [], [], [], [], [], [some 18, some 21, some 109, some 113, none, some 122, some 131, some 132, some 133, some 134], [some 19, none, none, none, some 20, none, none, none, none], [], [], [none, none, none, some 22, some 27, some 32, some 37, some 42, some 47, none, some 48, some 53, some 58, some 75, some 92], [], [], [], [], [], [], [], [], [], [], [], [], [], [], [], [], [], [], [], [], [], [], [], [], [], [], [], [], [], [], [], [], [], [], [], [], [], [], [], [], [], [], [], [], [], [], [], [], [], [], [], [], [], [], [], [], [], [], [], [], [], [], [], [], [], [], [], [], [], [], [], [], [], [], [], [], [], [], [], [], [], [], [], [], [], [], [], [some 110, none, none, none, none], [some 111, some 112], [], [], [], [some 116, none, none, none, none], [some 119, none, none, none, none], [some 117, some 118], [], [], [some 120, some 121], [], [], [some 21, none, none, none, some 123, some 124, some 125, some 126], [], [], [], [], [], [], [], [], [some 21, some 109], [some 21], [some 21, some 109, some 122], [some 135, some 136], [], [], [], [], [], [], [], [], [], []]
def ab_ptr (k f : Nat) : Option Nat := (ab_pl.getD k []).getD f none
def ab_nf : List Nat := [3, 1, 8, 2, 2, 15, 9, 5, 10, 21]
def st_l (k : Nat) : Nat := if (ab_sh k).1 = 9 then (ab_sh k).2.1 else 0
def st_tb : List (List Int) := [[1, 99, 1, 9, 1, 10, 0, 15], [1, 8, 1, 9, 0, 99, 0, 999, 0, 9], [0, 3, 0, 3, 1, 99], [0, 10, 0, 23, 1, 9, 0, 9, 0, 24, 0, 3], [0, 3, 0, 23, 0, 9], [1, 9, 0, 200], [1, 9], []]
def st_c (k i : Nat) : Int := (st_tb.getD (k - 137) []).getD i 0
def st_nm : List String := ["HARBOUR_LIMITS", "SORT_LIMITS", "MILES_LIMITS", "STORM_LIMITS", "GLASS_LIMITS", "LOSS_LIMITS", "SLOW_LIMITS", "NO_LIMITS"]
def lenI (k : Nat) : Nat := if (ab_sh k).1 = 2 then (ab_sh k).2.1 else 0
def lenB (k : Nat) : Nat := if (ab_sh k).1 = 3 then (ab_sh k).2.1 else 0
def lenZ (k : Nat) : Nat := if (ab_sh k).1 = 4 then (ab_sh k).2.1 else 0
def lenL (k : Nat) : Nat := if (ab_sh k).1 = 5 then (ab_sh k).2.1 else 0
def lenG (k : Nat) : Nat := if 6 ≤ (ab_sh k).1 ∧ (ab_sh k).1 ≤ 8 then (ab_sh k).2.1 else 0
def rowG (k : Nat) : Nat := (ab_sh k).2.2
def ab_ft (k : Nat) : FieldType := match (ab_sh k).1 with
  | 2 => .int
  | 3 => .byte
  | 4 => .boolean
  | 5 => .long
  | 6 => .array .int
  | 7 => .array .long
  | _ => .object "StormHarbours$Watch"
/-- D, addresses, array classes, the first cell that there is, the heap's size at the law's start -/
abbrev En : Type := va_G × (Nat → Nat) × (Nat → ClassId) × Nat × Nat
abbrev eD (E : En) : va_G := E.1
abbrev eAd (E : En) : Nat → Nat := E.2.1
abbrev eCA (E : En) : Nat → ClassId := E.2.2.1
abbrev eLo (E : En) : Nat := E.2.2.2.1
abbrev eS0 (E : En) : Nat := E.2.2.2.2
def eA (E : En) : Nat → Prop := fun q => eS0 E ≤ q
def ab_fv (E : En) (s : Mem) (k f : Nat) : Value := match ab_ptr k f with
  | some t => .ref (eAd E t)
  | none => .int (Int32.ofInt (s k f))
def ab_ent (E : En) (s : Mem) (k : Nat) : va_E :=
  if (ab_sh k).1 = 1 then .inr ((ab_sh k).2.1, (List.range (ab_nf.getD (ab_sh k).2.1 0)).map (ab_fv E s k))
  else if (ab_sh k).1 = 5 then .inl (eCA E k, (ab_sh k).2.1, .inr (.inl (fun j => Int64.ofInt (s k j))))
  else if (ab_sh k).1 < 5 then .inl (eCA E k, (ab_sh k).2.1, .inl (fun j => Int32.ofInt (s k j)))
  else .inl (eCA E k, (ab_sh k).2.1, .inr (.inr (.inr (.inr (fun j => some (eAd E ((ab_sh k).2.2 + j)))))))
def ab_ws (E : En) (s : Mem) : va_W := (List.range (137 - eLo E)).map (fun i => (eAd E (eLo E + i), ab_ent E s (eLo E + i)))
def ab_rg (k : Nat) (x : Int) : Prop := if (ab_sh k).1 = 5 then r64 x else r32 x
def ab_R (E : En) (s : Mem) (H : Heap) : Prop := va_P (eD E) vwCl (ab_ws E s) H ∧ ∀ k j, ab_rg k (s k j)
/-- what holds of the tables, the statics and the addresses at a method's start -/
def ab_C (E : En) (U : State) : Prop :=
  ab_Ws U ∧ va_K (eD E) vwCl [] U ∧ (∀ k, eLo E ≤ k → k < 137 → (ab_sh k).1 ≠ 1 → ArrOfT U (eCA E k) (ab_ft k) ∧ va_RA U (eCA E k) (ab_ft k)) ∧
  (∀ j, j < 8 → va_Z RX8 (st_nm.getD j "") "[I" (.ref (eAd E (137 + j))) (eA E) U U.heap ∧ va_T .int (eAd E (137 + j)) (st_l (137 + j)) (fun i => .int (Int32.ofInt (st_c (137 + j) i))) (eA E) U U.heap) ∧
  (eLo E = 0 ∨ eLo E = 17) ∧ (∀ i j, eLo E ≤ i → i < 137 → eLo E ≤ j → j < 137 → eAd E i = eAd E j → i = j) ∧ (∀ i, eLo E ≤ i → i < 137 → eA E (eAd E i)) ∧ eS0 E ≤ U.heap.size
theorem ab_K.same {E : En} {u U : State} (hA : u.vm.Alike U.vm) (hW : ab_Ws u → ab_Ws U) (hq : ∀ a : Nat, a < u.heap.size → ¬ eA E a → U.heap[a]? = u.heap[a]?) (hz : u.heap.size ≤ U.heap.size) (h : ab_C E u) : ab_C E U := by
  obtain ⟨h1, h2, h3, h4, h5, h6, h7, h8⟩ := h
  refine ⟨hW h1, va_K.moved hA h2, fun k a b c => ⟨arrOfT_moved hA (h3 k a b c).1, (h3 k a b c).2.moved hA⟩, fun j hj => ?_, h5, h6, h7, Nat.le_trans h8 hz⟩
  exact ⟨((h4 j hj).1.moved hA).kept hq, ((h4 j hj).2.moved hA).kept hq⟩
theorem ab_C.call {E : En} {s U : State} {H : Heap} {locs : List Loc} (h : ab_C E s) (hS : va_S (eA E) s.heap H locs) (hU : U.heap = H) (hW : s.WarmedH U.vm) : ab_C E U := by
  refine ab_K.same hW.alike (fun q => q.warm hW) (fun a h1 h2 => ?_) ?_ h
  · rw [hU]; exact hS.2.1 a h1 h2
  · rw [hU]; exact hS.1
theorem ab_C.blind {E : En} {U V : State} (e1 : U.vm = V.vm) (e2 : U.heap = V.heap) (h : ab_C E U) : ab_C E V :=
  ab_K.same (by rw [e1]; exact Vm.Alike.refl _) (fun q => q.same e1) (fun a _ _ => by rw [e2]) (by rw [e2]; exact Nat.le_refl _) h
theorem ab_ws_at (E : En) (s : Mem) {k : Nat} (h1 : eLo E ≤ k) (h2 : k < 137) : (ab_ws E s)[k - eLo E]? = some (eAd E k, ab_ent E s k) := by
  unfold ab_ws
  rw [List.getElem?_map, List.getElem?_range (by omega)]
  simp only [Option.map_some]
  rw [show eLo E + (k - eLo E) = k by omega]
theorem ab_ws_D {E : En} {U : State} (s : Mem) (h : ab_C E U) : va_D (eA E) (ab_ws E s) := by
  obtain ⟨-, -, -, -, -, h6, h7, -⟩ := h
  have key : ∀ (i : Nat) (q : Nat × va_E), (ab_ws E s)[i]? = some q → eLo E + i < 137 ∧ q.1 = eAd E (eLo E + i) := by
    intro i q hq
    unfold ab_ws at hq
    rw [List.getElem?_map] at hq
    obtain ⟨j, hj, rfl⟩ := Option.map_eq_some_iff.mp hq
    obtain ⟨hlt, hv⟩ := List.getElem?_eq_some_iff.mp hj
    rw [List.length_range] at hlt
    rw [List.getElem_range] at hv
    subst hv
    exact ⟨by omega, rfl⟩
  refine ⟨fun i j p q hi hj e => ?_, fun i q hi => ?_⟩
  · obtain ⟨a1, a2⟩ := key i p hi
    obtain ⟨b1, b2⟩ := key j q hj
    rw [a2, b2] at e
    have := h6 _ _ (Nat.le_add_right _ _) a1 (Nat.le_add_right _ _) b1 e
    omega
  · obtain ⟨a1, a2⟩ := key i q hi
    rw [a2]
    exact h7 _ (Nat.le_add_right _ _) a1
theorem ab_ent_ne (E : En) (s : Mem) {k a j : Nat} (x : Int) (h : a ≠ k) : ab_ent E (mu s k j x) a = ab_ent E s a := by
  unfold ab_ent ab_fv
  rw [mu_ne s j x h]
theorem ab_ws_set (E : En) (s : Mem) {k : Nat} (j : Nat) (x : Int) (h1 : eLo E ≤ k) (h2 : k < 137) : (ab_ws E s).set (k - eLo E) (eAd E k, ab_ent E (mu s k j x) k) = ab_ws E (mu s k j x) := by
  apply List.ext_getElem?
  intro i
  rw [List.getElem?_set]
  by_cases hi : k - eLo E = i
  · subst hi
    rw [if_pos rfl, ab_ws_at E _ h1 h2, if_pos (by unfold ab_ws; rw [List.length_map, List.length_range]; omega)]
  · rw [if_neg hi]
    unfold ab_ws
    rw [List.getElem?_map, List.getElem?_map]
    cases hq : (List.range (137 - eLo E))[i]? with
    | none => rfl
    | some v =>
      obtain ⟨hlt, hv⟩ := List.getElem?_eq_some_iff.mp hq
      rw [List.getElem_range] at hv
      subst hv
      simp only [Option.map_some]
      rw [ab_ent_ne E s x (by omega)]
/-! ===== values, frames, the walk's predicate ===== -/
def ab_c (E : En) (v : AV) : Value := match v with
  | .inl x => .int (Int32.ofInt x)
  | .inr (.inl x) => .long (Int64.ofInt x)
  | .inr (.inr k) => .ref (eAd E k)
def ab_ok (E : En) (v : AV) : Prop := match v with
  | .inl x => r32 x
  | .inr (.inl x) => r64 x
  | .inr (.inr k) => eLo E ≤ k
def ab_cat (v : AV) : Nat := match v with
  | .inl _ => 1
  | .inr (.inl _) => 2
  | .inr (.inr _) => 1
theorem ab_cat_c (E : En) (v : AV) : (ab_c E v).category = ab_cat v := by
  rcases v with x | x | k <;> rfl
abbrev ab_c2 (E : En) (q : Nat × AV) : Nat × Value := (q.1, ab_c E q.2)
abbrev Bn : Type := Program × Launch × Env × Room × State × MethodId × Array Value × List Frame × Method × Code × Nat × Nat
def ab_X (E : En) (b : Bn) (Q : State → Prop) (nL pc : Nat) (ls : List (Nat × AV)) (st : List AV) (s : Mem) : Prop :=
  match b with
  | (p, l, e, R, s0, m, args, below, meth, c, cells, slots) => ∀ (H : Heap) (locs : List Loc) (a : Array Slot), ab_R E s H → va_S (eA E) s0.heap H locs → lv_has a nL (ls.map (ab_c2 E)) → (∀ q ∈ ls, ab_ok E q.2) → (∀ v ∈ st, ab_ok E v) → W p l e R s0 m args below meth c H locs cells slots Q (F0 m pc a (st.map (ab_c E)))
def ab_G (E : En) (b : Bn) (cc : ByteArray) (nL : Nat) (own : String) (ret : Option FieldType) (d : Nat) : Prop :=
  match b with
  | (p, _, _, R, s0, m, _, _, meth, c, cells, slots) => p.tables.exec = Jvm.exec ∧ c.code = cc ∧ c.maxLocals = nL ∧ s0.vm.findClass own = some m.cls ∧ ab_C E s0 ∧ meth.sig.returnType = ret ∧ meth.locks = false ∧ d ≤ R.frames ∧ 40 * d ≤ R.locals ∧ cells ≤ R.cells ∧ slots ≤ R.slots
def ab_P (E : En) (av : List AV) (s : Mem) : Array Value → State → Prop := fun v U => v = (av.map (ab_c E)).toArray ∧ ab_C E U ∧ ab_R E s U.heap ∧ ∀ v ∈ av, ab_ok E v
def ab_Q (E : En) (r : Option AV) (s : Mem) : Array Value → State → Outcome → State → Prop := fun _ st oc t => oc = .returned (r.map (ab_c E)) ∧ ab_R E s t.heap ∧ (∀ v, r = some v → ab_ok E v) ∧ va_F (eA E) st t
def ab_rm (d : Nat) : Room := { frames := d, cells := 0, slots := 0, locals := 40 * d }
/-- a method's contract: from these arguments and this memory it comes back with this answer and that memory -/
def ab_Run (E : En) (d : Nat) (y : MethodName) (cc : ByteArray) (maxL : Nat) (ret : Option FieldType) (av : List AV) (r : Option AV) (s s' : Mem) : Prop :=
  ∀ l : Launch, Met l y [Cond.code y cc maxL ret] (ab_rm d) (ab_P E av s) (ab_Q E r s') 0 0 (eA E)
def ab_MQ (E : En) (b : Bn) (r : Option AV) (s : Mem) : State → Prop :=
  match b with
  | (_, _, _, _, s0, _, args, below, _, _, cells, slots) => MQ below (ab_Q E r s) args s0 cells slots (eA E)
def ab_args : Nat → List AV → List (Nat × AV)
  | _, [] => []
  | i, v :: vs => (i, v) :: ab_args (i + ab_cat v) vs
end
section
/-! ===== rows: one instruction each, over abstract values ===== -/
theorem okc {E : En} {v : AV} {st : List AV} (h1 : ab_ok E v) (h2 : ∀ v ∈ st, ab_ok E v) : ∀ u ∈ v :: st, ab_ok E u := List.forall_mem_cons.mpr ⟨h1, h2⟩
theorem oks {E : En} {v : AV} {st : List AV} (h : ∀ u ∈ v :: st, ab_ok E u) : ab_ok E v ∧ ∀ u ∈ st, ab_ok E u := List.forall_mem_cons.mp h
theorem lcm_lt {x y : Int64} : lg_cmp x y < 0 ↔ x < y := by
  unfold lg_cmp
  simp only [gt_iff_lt, Int64.lt_iff_toInt_lt, Int64.le_iff_toInt_le, ← Int64.toInt_inj]
  repeat' split
  all_goals (constructor <;> intro hh <;> first | omega | decide | exact absurd hh (by decide))
theorem lcm_ge {x y : Int64} : 0 ≤ lg_cmp x y ↔ y ≤ x := by
  unfold lg_cmp
  simp only [gt_iff_lt, Int64.lt_iff_toInt_lt, Int64.le_iff_toInt_le, ← Int64.toInt_inj]
  repeat' split
  all_goals (constructor <;> intro hh <;> first | omega | decide | exact absurd hh (by decide))
theorem lcm_gt {x y : Int64} : 0 < lg_cmp x y ↔ y < x := by
  unfold lg_cmp
  simp only [gt_iff_lt, Int64.lt_iff_toInt_lt, Int64.le_iff_toInt_le, ← Int64.toInt_inj]
  repeat' split
  all_goals (constructor <;> intro hh <;> first | omega | decide | exact absurd hh (by decide))
theorem lcm_le {x y : Int64} : lg_cmp x y ≤ 0 ↔ x ≤ y := by
  unfold lg_cmp
  simp only [gt_iff_lt, Int64.lt_iff_toInt_lt, Int64.le_iff_toInt_le, ← Int64.toInt_inj]
  repeat' split
  all_goals (constructor <;> intro hh <;> first | omega | decide | exact absurd hh (by decide))
theorem lcm_eq {x y : Int64} : lg_cmp x y = 0 ↔ x = y := by
  unfold lg_cmp
  simp only [gt_iff_lt, Int64.lt_iff_toInt_lt, Int64.le_iff_toInt_le, ← Int64.toInt_inj]
  repeat' split
  all_goals (constructor <;> intro hh <;> first | omega | decide | exact absurd hh (by decide))
section RW
variable {E : En} {b : Bn} {Q : State → Prop} {nL pc : Nat} {ls : List (Nat × AV)} {st : List AV} {s : Mem} {cc : ByteArray} {own : String} {ret : Option FieldType} {d : Nat}
theorem x_sub {ls' : List (Nat × AV)} (h : ∀ q ∈ ls', q ∈ ls) (k : ab_X E b Q nL pc ls' st s) : ab_X E b Q nL pc ls st s := by
  obtain ⟨p, l, e, R, s0, m, args, below, meth, c, cells, slots⟩ := b
  intro H locs a hR hS hl ho hs
  refine k H locs a hR hS ⟨hl.1, hl.2.1, fun q hq => ?_⟩ (fun q hq => ho q (h q hq)) hs
  obtain ⟨q', h1, rfl⟩ := List.mem_map.mp hq
  exact hl.2.2 _ (List.mem_map.mpr ⟨q', h q' h1, rfl⟩)
theorem x_eq {st' : List AV} {s' : Mem} (h : st' = st) (h2 : s' = s) (k : ab_X E b Q nL pc ls st' s') : ab_X E b Q nL pc ls st s := by subst h; subst h2; exact k
/-- the range of a value on top -/
theorem x_top {x : Int} (k : r32 x → ab_X E b Q nL pc ls (vI x :: st) s) : ab_X E b Q nL pc ls (vI x :: st) s := by
  obtain ⟨p, l, e, R, s0, m, args, below, meth, c, cells, slots⟩ := b
  intro H locs a hR hS hl ho hs
  exact k (oks hs).1 H locs a hR hS hl ho hs
theorem x_topL {x : Int} (k : r64 x → ab_X E b Q nL pc ls (vL x :: st) s) : ab_X E b Q nL pc ls (vL x :: st) s := by
  obtain ⟨p, l, e, R, s0, m, args, below, meth, c, cells, slots⟩ := b
  intro H locs a hR hS hl ho hs
  exact k (oks hs).1 H locs a hR hS hl ho hs
theorem ls_at {a : Array Slot} (hl : lv_has a nL (ls.map (ab_c2 E))) {j i : Nat} {v : AV} (h : ls[j]? = some (i, v)) : a[i]? = some (.val (ab_c E v)) :=
  hl.2.2 (i, ab_c E v) (List.mem_map.mpr ⟨(i, v), List.mem_of_getElem? h, rfl⟩)
theorem x_iconst (G : ab_G E b cc nL own ret d) {x : Int} (hd : decode cc pc = .ok (.iconst x, 1)) (hr : -2147483648 ≤ x ∧ x < 2147483648) (k : ab_X E b Q nL (pc + 1) ls (vI x :: st) s) : ab_X E b Q nL pc ls st s := by
  obtain ⟨p, l, e, R, s0, m, args, below, meth, c, cells, slots⟩ := b
  intro H locs a hR hS hl ho hs
  exact lv_iconst G.1 G.2.1 hd rfl (k H locs a hR hS hl ho (okc hr hs))
theorem x_bipush (G : ab_G E b cc nL own ret d) {x : Int} (hd : decode cc pc = .ok (.bipush x, 2)) (hv : (Int8.ofInt x).toInt32 = Int32.ofInt x) (hr : -2147483648 ≤ x ∧ x < 2147483648) (k : ab_X E b Q nL (pc + 2) ls (vI x :: st) s) : ab_X E b Q nL pc ls st s := by
  obtain ⟨p, l, e, R, s0, m, args, below, meth, c, cells, slots⟩ := b
  intro H locs a hR hS hl ho hs
  exact lv_bipush G.1 G.2.1 hd hv (k H locs a hR hS hl ho (okc hr hs))
theorem x_sipush (G : ab_G E b cc nL own ret d) {x : Int} (hd : decode cc pc = .ok (.sipush x, 3)) (hv : (Int16.ofInt x).toInt32 = Int32.ofInt x) (hr : -2147483648 ≤ x ∧ x < 2147483648) (k : ab_X E b Q nL (pc + 3) ls (vI x :: st) s) : ab_X E b Q nL pc ls st s := by
  obtain ⟨p, l, e, R, s0, m, args, below, meth, c, cells, slots⟩ := b
  intro H locs a hR hS hl ho hs
  exact lv_sipush G.1 G.2.1 hd hv (k H locs a hR hS hl ho (okc hr hs))
theorem x_lconst (G : ab_G E b cc nL own ret d) {n : Fin 2} {x : Int} (hd : decode cc pc = .ok (.lconst n, 1)) (hv : Int64.ofNat (n : Nat) = Int64.ofInt x) (hr : -9223372036854775808 ≤ x ∧ x < 9223372036854775808) (k : ab_X E b Q nL (pc + 1) ls (vL x :: st) s) : ab_X E b Q nL pc ls st s := by
  obtain ⟨p, l, e, R, s0, m, args, below, meth, c, cells, slots⟩ := b
  intro H locs a hR hS hl ho hs
  exact lv_lconst G.1 G.2.1 hd hv (k H locs a hR hS hl ho (okc hr hs))
theorem x_ldc (G : ab_G E b cc nL own ret d) {i : Nat} {v : Int32} {x : Int} (hw : Cond.constant own i v ∈ ab_TW) (hd : decode cc pc = .ok (.ldc i, 2)) (hv : v = Int32.ofInt x) (hr : -2147483648 ≤ x ∧ x < 2147483648) (k : ab_X E b Q nL (pc + 2) ls (vI x :: st) s) : ab_X E b Q nL pc ls st s := by
  obtain ⟨p, l, e, R, s0, m, args, below, meth, c, cells, slots⟩ := b
  intro H locs a hR hS hl ho hs
  subst hv
  exact lv_ldc G.1 G.2.1 G.2.2.2.1 (G.2.2.2.2.1.1.use args _ hw) hd (k H locs a hR hS hl ho (okc hr hs))
theorem x_ldc2 (G : ab_G E b cc nL own ret d) {i : Nat} {v : Int64} {x : Int} (hw : Cond.constantLong own i v ∈ ab_TW) (hd : decode cc pc = .ok (.ldc2_w i, 3)) (hv : v = Int64.ofInt x) (hr : -9223372036854775808 ≤ x ∧ x < 9223372036854775808) (k : ab_X E b Q nL (pc + 3) ls (vL x :: st) s) : ab_X E b Q nL pc ls st s := by
  obtain ⟨p, l, e, R, s0, m, args, below, meth, c, cells, slots⟩ := b
  intro H locs a hR hS hl ho hs
  subst hv
  exact lv_ldc2 G.1 G.2.1 G.2.2.2.1 (G.2.2.2.2.1.1.use args _ hw) hd (k H locs a hR hS hl ho (okc hr hs))
theorem x_iload_n (G : ab_G E b cc nL own ret d) {i : Fin 4} {x : Int} {j i' : Nat} (hd : decode cc pc = .ok (.iload_n i, 1)) (hi : (i : Nat) = i') (hj : ls[j]? = some (i', vI x)) (k : ab_X E b Q nL (pc + 1) ls (vI x :: st) s) : ab_X E b Q nL pc ls st s := by
  obtain ⟨p, l, e, R, s0, m, args, below, meth, c, cells, slots⟩ := b
  intro H locs a hR hS hl ho hs
  exact lv_iload_n G.1 G.2.1 hd hi (ls_at hl hj) (k H locs a hR hS hl ho (okc (ho _ (List.mem_of_getElem? hj)) hs))
theorem x_iload (G : ab_G E b cc nL own ret d) {i : Nat} {x : Int} {j : Nat} (hd : decode cc pc = .ok (.iload i, 2)) (hj : ls[j]? = some (i, vI x)) (k : ab_X E b Q nL (pc + 2) ls (vI x :: st) s) : ab_X E b Q nL pc ls st s := by
  obtain ⟨p, l, e, R, s0, m, args, below, meth, c, cells, slots⟩ := b
  intro H locs a hR hS hl ho hs
  exact lv_iload G.1 G.2.1 hd (ls_at hl hj) (k H locs a hR hS hl ho (okc (ho _ (List.mem_of_getElem? hj)) hs))
theorem x_lload_n (G : ab_G E b cc nL own ret d) {i : Fin 4} {x : Int} {j i' : Nat} (hd : decode cc pc = .ok (.lload_n i, 1)) (hi : (i : Nat) = i') (hj : ls[j]? = some (i', vL x)) (k : ab_X E b Q nL (pc + 1) ls (vL x :: st) s) : ab_X E b Q nL pc ls st s := by
  obtain ⟨p, l, e, R, s0, m, args, below, meth, c, cells, slots⟩ := b
  intro H locs a hR hS hl ho hs
  exact lv_lload_n G.1 G.2.1 hd hi (ls_at hl hj) (k H locs a hR hS hl ho (okc (ho _ (List.mem_of_getElem? hj)) hs))
theorem x_lload (G : ab_G E b cc nL own ret d) {i : Nat} {x : Int} {j : Nat} (hd : decode cc pc = .ok (.lload i, 2)) (hj : ls[j]? = some (i, vL x)) (k : ab_X E b Q nL (pc + 2) ls (vL x :: st) s) : ab_X E b Q nL pc ls st s := by
  obtain ⟨p, l, e, R, s0, m, args, below, meth, c, cells, slots⟩ := b
  intro H locs a hR hS hl ho hs
  exact lv_lload G.1 G.2.1 hd (ls_at hl hj) (k H locs a hR hS hl ho (okc (ho _ (List.mem_of_getElem? hj)) hs))
theorem x_aload_n (G : ab_G E b cc nL own ret d) {i : Fin 4} {x : Nat} {j i' : Nat} (hd : decode cc pc = .ok (.aload_n i, 1)) (hi : (i : Nat) = i') (hj : ls[j]? = some (i', vR x)) (k : ab_X E b Q nL (pc + 1) ls (vR x :: st) s) : ab_X E b Q nL pc ls st s := by
  obtain ⟨p, l, e, R, s0, m, args, below, meth, c, cells, slots⟩ := b
  intro H locs a hR hS hl ho hs
  exact lv_aload_n G.1 G.2.1 hd hi (ls_at hl hj) (k H locs a hR hS hl ho (okc (ho _ (List.mem_of_getElem? hj)) hs))
theorem x_aload (G : ab_G E b cc nL own ret d) {i : Nat} {x : Nat} {j : Nat} (hd : decode cc pc = .ok (.aload i, 2)) (hj : ls[j]? = some (i, vR x)) (k : ab_X E b Q nL (pc + 2) ls (vR x :: st) s) : ab_X E b Q nL pc ls st s := by
  obtain ⟨p, l, e, R, s0, m, args, below, meth, c, cells, slots⟩ := b
  intro H locs a hR hS hl ho hs
  exact lv_aload G.1 G.2.1 hd (ls_at hl hj) (k H locs a hR hS hl ho (okc (ho _ (List.mem_of_getElem? hj)) hs))
/-- a store of one word; of two -/
def ls_st1 (i : Nat) (v : AV) (ls : List (Nat × AV)) : List (Nat × AV) := (i, v) :: ls.filter (fun q => !(q.1 == i) && !(q.1 + 1 == i && ab_cat q.2 == 2))
def ls_st2 (i : Nat) (v : AV) (ls : List (Nat × AV)) : List (Nat × AV) := (i, v) :: ls.filter (fun q => !(q.1 == i) && (!(q.1 == i + 1) && !(q.1 + 1 == i && ab_cat q.2 == 2)))
theorem ls_m1 (E : En) (i : Nat) (v : AV) (ls : List (Nat × AV)) : (i, ab_c E v) :: (ls.map (ab_c2 E)).filter (fun q => !(q.1 == i) && !(q.1 + 1 == i && q.2.category == 2)) = (ls_st1 i v ls).map (ab_c2 E) := by
  unfold ls_st1
  rw [List.map_cons, List.filter_map]
  congr 2
  apply List.filter_congr
  intro q _
  simp only [Function.comp, ab_cat_c]
theorem ls_m2 (E : En) (i : Nat) (v : AV) (ls : List (Nat × AV)) : (i, ab_c E v) :: (ls.map (ab_c2 E)).filter (fun q => !(q.1 == i) && (!(q.1 == i + 1) && !(q.1 + 1 == i && q.2.category == 2))) = (ls_st2 i v ls).map (ab_c2 E) := by
  unfold ls_st2
  rw [List.map_cons, List.filter_map]
  congr 2
  apply List.filter_congr
  intro q _
  simp only [Function.comp, ab_cat_c]
theorem ls_o1 {i : Nat} {v : AV} (h : ab_ok E v) (ho : ∀ q ∈ ls, ab_ok E q.2) : ∀ q ∈ ls_st1 i v ls, ab_ok E q.2 := by
  intro q hq
  rcases List.mem_cons.mp hq with rfl | hq
  · exact h
  · exact ho q (List.mem_filter.mp hq).1
theorem ls_o2 {i : Nat} {v : AV} (h : ab_ok E v) (ho : ∀ q ∈ ls, ab_ok E q.2) : ∀ q ∈ ls_st2 i v ls, ab_ok E q.2 := by
  intro q hq
  rcases List.mem_cons.mp hq with rfl | hq
  · exact h
  · exact ho q (List.mem_filter.mp hq).1
theorem x_istore_n (G : ab_G E b cc nL own ret d) {i : Fin 4} {x : Int} {i' : Nat} {ls' : List (Nat × AV)} (hd : decode cc pc = .ok (.istore_n i, 1)) (hi : (i : Nat) = i') (hn : i' < nL) (hl' : ls_st1 i' (vI x) ls = ls') (k : ab_X E b Q nL (pc + 1) ls' st s) : ab_X E b Q nL pc ls (vI x :: st) s := by
  obtain ⟨p, l, e, R, s0, m, args, below, meth, c, cells, slots⟩ := b
  intro H locs a hR hS hl ho hs
  subst hl'
  exact lv_istore_n G.1 G.2.1 hd hi hl hn (ls_m1 E i' (vI x) ls) (fun a' hl' => k H locs a' hR hS hl' (ls_o1 (oks hs).1 ho) (oks hs).2)
theorem x_istore (G : ab_G E b cc nL own ret d) {i : Nat} {x : Int} {ls' : List (Nat × AV)} (hd : decode cc pc = .ok (.istore i, 2)) (hn : i < nL) (hl' : ls_st1 i (vI x) ls = ls') (k : ab_X E b Q nL (pc + 2) ls' st s) : ab_X E b Q nL pc ls (vI x :: st) s := by
  obtain ⟨p, l, e, R, s0, m, args, below, meth, c, cells, slots⟩ := b
  intro H locs a hR hS hl ho hs
  subst hl'
  exact lv_istore G.1 G.2.1 hd hl hn (ls_m1 E i (vI x) ls) (fun a' hl' => k H locs a' hR hS hl' (ls_o1 (oks hs).1 ho) (oks hs).2)
theorem x_astore_n (G : ab_G E b cc nL own ret d) {i : Fin 4} {x : Nat} {i' : Nat} {ls' : List (Nat × AV)} (hd : decode cc pc = .ok (.astore_n i, 1)) (hi : (i : Nat) = i') (hn : i' < nL) (hl' : ls_st1 i' (vR x) ls = ls') (k : ab_X E b Q nL (pc + 1) ls' st s) : ab_X E b Q nL pc ls (vR x :: st) s := by
  obtain ⟨p, l, e, R, s0, m, args, below, meth, c, cells, slots⟩ := b
  intro H locs a hR hS hl ho hs
  subst hl'
  exact lv_astore_n G.1 G.2.1 hd hi hl hn (ls_m1 E i' (vR x) ls) (fun a' hl' => k H locs a' hR hS hl' (ls_o1 (oks hs).1 ho) (oks hs).2)
theorem x_astore (G : ab_G E b cc nL own ret d) {i : Nat} {x : Nat} {ls' : List (Nat × AV)} (hd : decode cc pc = .ok (.astore i, 2)) (hn : i < nL) (hl' : ls_st1 i (vR x) ls = ls') (k : ab_X E b Q nL (pc + 2) ls' st s) : ab_X E b Q nL pc ls (vR x :: st) s := by
  obtain ⟨p, l, e, R, s0, m, args, below, meth, c, cells, slots⟩ := b
  intro H locs a hR hS hl ho hs
  subst hl'
  exact lv_astore G.1 G.2.1 hd hl hn (ls_m1 E i (vR x) ls) (fun a' hl' => k H locs a' hR hS hl' (ls_o1 (oks hs).1 ho) (oks hs).2)
theorem x_lstore_n (G : ab_G E b cc nL own ret d) {i : Fin 4} {x : Int} {i' : Nat} {ls' : List (Nat × AV)} (hd : decode cc pc = .ok (.lstore_n i, 1)) (hi : (i : Nat) = i') (hn : i' + 1 < nL) (hl' : ls_st2 i' (vL x) ls = ls') (k : ab_X E b Q nL (pc + 1) ls' st s) : ab_X E b Q nL pc ls (vL x :: st) s := by
  obtain ⟨p, l, e, R, s0, m, args, below, meth, c, cells, slots⟩ := b
  intro H locs a hR hS hl ho hs
  subst hl'
  exact lv_lstore_n G.1 G.2.1 hd hi hl hn (ls_m2 E i' (vL x) ls) (fun a' hl' => k H locs a' hR hS hl' (ls_o2 (oks hs).1 ho) (oks hs).2)
theorem x_lstore (G : ab_G E b cc nL own ret d) {i : Nat} {x : Int} {ls' : List (Nat × AV)} (hd : decode cc pc = .ok (.lstore i, 2)) (hn : i + 1 < nL) (hl' : ls_st2 i (vL x) ls = ls') (k : ab_X E b Q nL (pc + 2) ls' st s) : ab_X E b Q nL pc ls (vL x :: st) s := by
  obtain ⟨p, l, e, R, s0, m, args, below, meth, c, cells, slots⟩ := b
  intro H locs a hR hS hl ho hs
  subst hl'
  exact lv_lstore G.1 G.2.1 hd hl hn (ls_m2 E i (vL x) ls) (fun a' hl' => k H locs a' hR hS hl' (ls_o2 (oks hs).1 ho) (oks hs).2)
theorem x_iinc (G : ab_G E b cc nL own ret d) {i j : Nat} {n x : Int} {ls' : List (Nat × AV)} (hd : decode cc pc = .ok (.iinc i n, 3)) (hj : ls[j]? = some (i, vI x)) (hn : i < nL) (hl' : ls_st1 i (vI (w32 (x + n))) ls = ls') (k : ab_X E b Q nL (pc + 3) ls' st s) : ab_X E b Q nL pc ls st s := by
  obtain ⟨p, l, e, R, s0, m, args, below, meth, c, cells, slots⟩ := b
  intro H locs a hR hS hl ho hs
  subst hl'
  exact lv_iinc (k := j) G.1 G.2.1 hd hl (by rw [List.getElem?_map, hj]; rfl) (oi_add x n) hn (ls_m1 E i (vI (w32 (x + n))) ls) (fun a' hl' => k H locs a' hR hS hl' (ls_o1 (r32_w _) ho) hs)
theorem x_iadd (G : ab_G E b cc nL own ret d) {x y : Int} (hd : decode cc pc = .ok (.iadd, 1)) (k : ab_X E b Q nL (pc + 1) ls (vI (w32 (x + y)) :: st) s) : ab_X E b Q nL pc ls (vI y :: vI x :: st) s := by
  obtain ⟨p, l, e, R, s0, m, args, below, meth, c, cells, slots⟩ := b
  intro H locs a hR hS hl ho hs
  exact lv_iadd G.1 G.2.1 hd (by rw [oi_add]; exact k H locs a hR hS hl ho (okc (r32_w _) (oks (oks hs).2).2))
theorem x_isub (G : ab_G E b cc nL own ret d) {x y : Int} (hd : decode cc pc = .ok (.isub, 1)) (k : ab_X E b Q nL (pc + 1) ls (vI (w32 (x - y)) :: st) s) : ab_X E b Q nL pc ls (vI y :: vI x :: st) s := by
  obtain ⟨p, l, e, R, s0, m, args, below, meth, c, cells, slots⟩ := b
  intro H locs a hR hS hl ho hs
  exact lv_isub G.1 G.2.1 hd (by rw [oi_sub]; exact k H locs a hR hS hl ho (okc (r32_w _) (oks (oks hs).2).2))
theorem x_imul (G : ab_G E b cc nL own ret d) {x y : Int} (hd : decode cc pc = .ok (.imul, 1)) (k : ab_X E b Q nL (pc + 1) ls (vI (w32 (x * y)) :: st) s) : ab_X E b Q nL pc ls (vI y :: vI x :: st) s := by
  obtain ⟨p, l, e, R, s0, m, args, below, meth, c, cells, slots⟩ := b
  intro H locs a hR hS hl ho hs
  exact lv_imul G.1 G.2.1 hd (by rw [oi_mul]; exact k H locs a hR hS hl ho (okc (r32_w _) (oks (oks hs).2).2))
theorem x_idiv (G : ab_G E b cc nL own ret d) {x y : Int} (hd : decode cc pc = .ok (.idiv, 1)) (hy : y ≠ 0) (k : ab_X E b Q nL (pc + 1) ls (vI (w32 (x.tdiv y)) :: st) s) : ab_X E b Q nL pc ls (vI y :: vI x :: st) s := by
  obtain ⟨p, l, e, R, s0, m, args, below, meth, c, cells, slots⟩ := b
  intro H locs a hR hS hl ho hs
  have hy2 := (oks hs).1
  have hx2 := (oks (oks hs).2).1
  exact lv_idiv G.1 G.2.1 hd (by rw [oi_0, oi_eq hy2 (by unfold r32; omega)]; exact hy) (by rw [oi_div hx2 hy2]; exact k H locs a hR hS hl ho (okc (r32_w _) (oks (oks hs).2).2))
theorem x_iand (G : ab_G E b cc nL own ret d) {x y : Int} (hd : decode cc pc = .ok (.iand, 1)) (k : ab_X E b Q nL (pc + 1) ls (vI (andI x y) :: st) s) : ab_X E b Q nL pc ls (vI y :: vI x :: st) s := by
  obtain ⟨p, l, e, R, s0, m, args, below, meth, c, cells, slots⟩ := b
  intro H locs a hR hS hl ho hs
  exact lv_iand G.1 G.2.1 hd (by rw [oi_of (Int32.ofInt x &&& Int32.ofInt y) rfl]; exact k H locs a hR hS hl ho (okc (oi_rt _) (oks (oks hs).2).2))
theorem x_ior (G : ab_G E b cc nL own ret d) {x y : Int} (hd : decode cc pc = .ok (.ior, 1)) (k : ab_X E b Q nL (pc + 1) ls (vI (orI x y) :: st) s) : ab_X E b Q nL pc ls (vI y :: vI x :: st) s := by
  obtain ⟨p, l, e, R, s0, m, args, below, meth, c, cells, slots⟩ := b
  intro H locs a hR hS hl ho hs
  exact lv_ior G.1 G.2.1 hd (by rw [oi_of (Int32.ofInt x ||| Int32.ofInt y) rfl]; exact k H locs a hR hS hl ho (okc (oi_rt _) (oks (oks hs).2).2))
theorem x_ishl (G : ab_G E b cc nL own ret d) {x y : Int} (hd : decode cc pc = .ok (.ishl, 1)) (k : ab_X E b Q nL (pc + 1) ls (vI (shlI x y) :: st) s) : ab_X E b Q nL pc ls (vI y :: vI x :: st) s := by
  obtain ⟨p, l, e, R, s0, m, args, below, meth, c, cells, slots⟩ := b
  intro H locs a hR hS hl ho hs
  exact lv_ishl G.1 G.2.1 hd (by rw [oi_of (Int32.ofInt x <<< (Int32.ofInt y &&& 31)) rfl]; exact k H locs a hR hS hl ho (okc (oi_rt _) (oks (oks hs).2).2))
theorem x_ishr (G : ab_G E b cc nL own ret d) {x y : Int} (hd : decode cc pc = .ok (.ishr, 1)) (k : ab_X E b Q nL (pc + 1) ls (vI (shrI x y) :: st) s) : ab_X E b Q nL pc ls (vI y :: vI x :: st) s := by
  obtain ⟨p, l, e, R, s0, m, args, below, meth, c, cells, slots⟩ := b
  intro H locs a hR hS hl ho hs
  exact lv_ishr G.1 G.2.1 hd (by rw [oi_of (Int32.ofInt x >>> (Int32.ofInt y &&& 31)) rfl]; exact k H locs a hR hS hl ho (okc (oi_rt _) (oks (oks hs).2).2))
theorem x_ladd (G : ab_G E b cc nL own ret d) {x y : Int} (hd : decode cc pc = .ok (.ladd, 1)) (k : ab_X E b Q nL (pc + 1) ls (vL (w64 (x + y)) :: st) s) : ab_X E b Q nL pc ls (vL y :: vL x :: st) s := by
  obtain ⟨p, l, e, R, s0, m, args, below, meth, c, cells, slots⟩ := b
  intro H locs a hR hS hl ho hs
  exact lv_ladd G.1 G.2.1 hd (by rw [ol_add]; exact k H locs a hR hS hl ho (okc (r64_w _) (oks (oks hs).2).2))
theorem x_lsub (G : ab_G E b cc nL own ret d) {x y : Int} (hd : decode cc pc = .ok (.lsub, 1)) (k : ab_X E b Q nL (pc + 1) ls (vL (w64 (x - y)) :: st) s) : ab_X E b Q nL pc ls (vL y :: vL x :: st) s := by
  obtain ⟨p, l, e, R, s0, m, args, below, meth, c, cells, slots⟩ := b
  intro H locs a hR hS hl ho hs
  exact lv_lsub G.1 G.2.1 hd (by rw [ol_sub]; exact k H locs a hR hS hl ho (okc (r64_w _) (oks (oks hs).2).2))
theorem x_lmul (G : ab_G E b cc nL own ret d) {x y : Int} (hd : decode cc pc = .ok (.lmul, 1)) (k : ab_X E b Q nL (pc + 1) ls (vL (w64 (x * y)) :: st) s) : ab_X E b Q nL pc ls (vL y :: vL x :: st) s := by
  obtain ⟨p, l, e, R, s0, m, args, below, meth, c, cells, slots⟩ := b
  intro H locs a hR hS hl ho hs
  exact lv_lmul G.1 G.2.1 hd (by rw [ol_mul]; exact k H locs a hR hS hl ho (okc (r64_w _) (oks (oks hs).2).2))
theorem x_ldiv (G : ab_G E b cc nL own ret d) {x y : Int} (hd : decode cc pc = .ok (.ldiv, 1)) (hy : y ≠ 0) (k : ab_X E b Q nL (pc + 1) ls (vL (w64 (x.tdiv y)) :: st) s) : ab_X E b Q nL pc ls (vL y :: vL x :: st) s := by
  obtain ⟨p, l, e, R, s0, m, args, below, meth, c, cells, slots⟩ := b
  intro H locs a hR hS hl ho hs
  have hy2 := (oks hs).1
  have hx2 := (oks (oks hs).2).1
  exact lv_ldiv G.1 G.2.1 hd (by rw [show (0 : Int64) = Int64.ofInt 0 by decide, ol_eq hy2 (by unfold r64; omega)]; exact hy) (by rw [ol_div hx2 hy2]; exact k H locs a hR hS hl ho (okc (r64_w _) (oks (oks hs).2).2))
theorem x_lrem (G : ab_G E b cc nL own ret d) {x y : Int} (hd : decode cc pc = .ok (.lrem, 1)) (hy : y ≠ 0) (k : ab_X E b Q nL (pc + 1) ls (vL (w64 (x - w64 (w64 (x.tdiv y) * y))) :: st) s) : ab_X E b Q nL pc ls (vL y :: vL x :: st) s := by
  obtain ⟨p, l, e, R, s0, m, args, below, meth, c, cells, slots⟩ := b
  intro H locs a hR hS hl ho hs
  have hy2 := (oks hs).1
  have hx2 := (oks (oks hs).2).1
  exact lv_lrem G.1 G.2.1 hd (by rw [show (0 : Int64) = Int64.ofInt 0 by decide, ol_eq hy2 (by unfold r64; omega)]; exact hy) (by rw [ol_rem hx2 hy2]; exact k H locs a hR hS hl ho (okc (r64_w _) (oks (oks hs).2).2))
theorem x_land (G : ab_G E b cc nL own ret d) {x y : Int} (hd : decode cc pc = .ok (.land, 1)) (k : ab_X E b Q nL (pc + 1) ls (vL (andL x y) :: st) s) : ab_X E b Q nL pc ls (vL y :: vL x :: st) s := by
  obtain ⟨p, l, e, R, s0, m, args, below, meth, c, cells, slots⟩ := b
  intro H locs a hR hS hl ho hs
  exact lv_land G.1 G.2.1 hd (by rw [ol_of (Int64.ofInt x &&& Int64.ofInt y) rfl]; exact k H locs a hR hS hl ho (okc (ol_rt _) (oks (oks hs).2).2))
theorem x_lor (G : ab_G E b cc nL own ret d) {x y : Int} (hd : decode cc pc = .ok (.lor, 1)) (k : ab_X E b Q nL (pc + 1) ls (vL (orL x y) :: st) s) : ab_X E b Q nL pc ls (vL y :: vL x :: st) s := by
  obtain ⟨p, l, e, R, s0, m, args, below, meth, c, cells, slots⟩ := b
  intro H locs a hR hS hl ho hs
  exact lv_lor G.1 G.2.1 hd (by rw [ol_of (Int64.ofInt x ||| Int64.ofInt y) rfl]; exact k H locs a hR hS hl ho (okc (ol_rt _) (oks (oks hs).2).2))
theorem x_lshl (G : ab_G E b cc nL own ret d) {x y : Int} (hd : decode cc pc = .ok (.lshl, 1)) (k : ab_X E b Q nL (pc + 1) ls (vL (shlL x y) :: st) s) : ab_X E b Q nL pc ls (vI y :: vL x :: st) s := by
  obtain ⟨p, l, e, R, s0, m, args, below, meth, c, cells, slots⟩ := b
  intro H locs a hR hS hl ho hs
  exact lv_lshl G.1 G.2.1 hd (ol_of _ rfl) (k H locs a hR hS hl ho (okc (ol_rt _) (oks (oks hs).2).2))
theorem x_lshr (G : ab_G E b cc nL own ret d) {x y : Int} (hd : decode cc pc = .ok (.lshr, 1)) (k : ab_X E b Q nL (pc + 1) ls (vL (shrL x y) :: st) s) : ab_X E b Q nL pc ls (vI y :: vL x :: st) s := by
  obtain ⟨p, l, e, R, s0, m, args, below, meth, c, cells, slots⟩ := b
  intro H locs a hR hS hl ho hs
  exact lv_lshr G.1 G.2.1 hd (ol_of _ rfl) (k H locs a hR hS hl ho (okc (ol_rt _) (oks (oks hs).2).2))
theorem x_lushr (G : ab_G E b cc nL own ret d) {x y : Int} (hd : decode cc pc = .ok (.lushr, 1)) (k : ab_X E b Q nL (pc + 1) ls (vL (ushrL x y) :: st) s) : ab_X E b Q nL pc ls (vI y :: vL x :: st) s := by
  obtain ⟨p, l, e, R, s0, m, args, below, meth, c, cells, slots⟩ := b
  intro H locs a hR hS hl ho hs
  exact lv_lushr G.1 G.2.1 hd (ol_of _ rfl) (k H locs a hR hS hl ho (okc (ol_rt _) (oks (oks hs).2).2))
theorem x_i2l (G : ab_G E b cc nL own ret d) {x : Int} (hd : decode cc pc = .ok (.i2l, 1)) (k : ab_X E b Q nL (pc + 1) ls (vL x :: st) s) : ab_X E b Q nL pc ls (vI x :: st) s := by
  obtain ⟨p, l, e, R, s0, m, args, below, meth, c, cells, slots⟩ := b
  intro H locs a hR hS hl ho hs
  exact lv_i2l G.1 G.2.1 hd (oi_i2l (oks hs).1) (k H locs a hR hS hl ho (okc (r64_of (oks hs).1) (oks hs).2))
theorem x_l2i (G : ab_G E b cc nL own ret d) {x : Int} (hd : decode cc pc = .ok (.l2i, 1)) (k : ab_X E b Q nL (pc + 1) ls (vI (w32 x) :: st) s) : ab_X E b Q nL pc ls (vL x :: st) s := by
  obtain ⟨p, l, e, R, s0, m, args, below, meth, c, cells, slots⟩ := b
  intro H locs a hR hS hl ho hs
  exact lv_l2i G.1 G.2.1 hd (ol_l2i x) (k H locs a hR hS hl ho (okc (r32_w _) (oks hs).2))
theorem r32_w8 (x : Int) : r32 (w8 x) := by unfold r32 w8; omega
theorem x_i2b (G : ab_G E b cc nL own ret d) {x : Int} (hd : decode cc pc = .ok (.i2b, 1)) (k : ab_X E b Q nL (pc + 1) ls (vI (w8 x) :: st) s) : ab_X E b Q nL pc ls (vI x :: st) s := by
  obtain ⟨p, l, e, R, s0, m, args, below, meth, c, cells, slots⟩ := b
  intro H locs a hR hS hl ho hs
  exact lv_i2b G.1 G.2.1 hd (oi_i2b x) (k H locs a hR hS hl ho (okc (r32_w8 _) (oks hs).2))
theorem x_dup (G : ab_G E b cc nL own ret d) {v : AV} (hd : decode cc pc = .ok (.dup, 1)) (hv : ab_cat v = 1) (k : ab_X E b Q nL (pc + 1) ls (v :: v :: st) s) : ab_X E b Q nL pc ls (v :: st) s := by
  obtain ⟨p, l, e, R, s0, m, args, below, meth, c, cells, slots⟩ := b
  intro H locs a hR hS hl ho hs
  exact lv_dup G.1 G.2.1 hd (by rw [ab_cat_c]; exact hv) (k H locs a hR hS hl ho (okc (oks hs).1 hs))
theorem x_dup2 (G : ab_G E b cc nL own ret d) {v u : AV} (hd : decode cc pc = .ok (.dup2, 1)) (hv : ab_cat v = 1) (hu : ab_cat u = 1) (k : ab_X E b Q nL (pc + 1) ls (v :: u :: v :: u :: st) s) : ab_X E b Q nL pc ls (v :: u :: st) s := by
  obtain ⟨p, l, e, R, s0, m, args, below, meth, c, cells, slots⟩ := b
  intro H locs a hR hS hl ho hs
  exact lv_dup2_11 G.1 G.2.1 hd (by rw [ab_cat_c]; exact hv) (by rw [ab_cat_c]; exact hu) (k H locs a hR hS hl ho (okc (oks hs).1 (okc (oks (oks hs).2).1 hs)))
theorem x_pop (G : ab_G E b cc nL own ret d) {v : AV} (hd : decode cc pc = .ok (.pop, 1)) (hv : ab_cat v = 1) (k : ab_X E b Q nL (pc + 1) ls st s) : ab_X E b Q nL pc ls (v :: st) s := by
  obtain ⟨p, l, e, R, s0, m, args, below, meth, c, cells, slots⟩ := b
  intro H locs a hR hS hl ho hs
  exact lv_pop G.1 G.2.1 hd (by rw [ab_cat_c]; exact hv) (k H locs a hR hS hl ho (oks hs).2)
theorem x_pop2 (G : ab_G E b cc nL own ret d) {v : AV} (hd : decode cc pc = .ok (.pop2, 1)) (hv : ab_cat v = 2) (k : ab_X E b Q nL (pc + 1) ls st s) : ab_X E b Q nL pc ls (v :: st) s := by
  obtain ⟨p, l, e, R, s0, m, args, below, meth, c, cells, slots⟩ := b
  intro H locs a hR hS hl ho hs
  exact lv_pop2_2 G.1 G.2.1 hd (by rw [ab_cat_c]; exact hv) (k H locs a hR hS hl ho (oks hs).2)
theorem x_goto (G : ab_G E b cc nL own ret d) {off : Int} {tgt : Nat} (hd : decode cc pc = .ok (.goto off, 3)) (ht : (pc : Int) + off = (tgt : Int)) (k : ab_X E b Q nL tgt ls st s) : ab_X E b Q nL pc ls st s := by
  obtain ⟨p, l, e, R, s0, m, args, below, meth, c, cells, slots⟩ := b
  intro H locs a hR hS hl ho hs
  exact lv_goto G.1 G.2.1 hd ht (k H locs a hR hS hl ho hs)
theorem x_icmp_lt (G : ab_G E b cc nL own ret d) {x y : Int} {off : Int} {tgt : Nat} (hd : decode cc pc = .ok (.if_icmp .lt off, 3)) (ht : (pc : Int) + off = (tgt : Int)) (kt : x < y → ab_X E b Q nL tgt ls st s) (kf : (¬ x < y) → ab_X E b Q nL (pc + 3) ls st s) : ab_X E b Q nL pc ls (vI y :: vI x :: st) s := by
  obtain ⟨p, l, e, R, s0, m, args, below, meth, c, cells, slots⟩ := b
  intro H locs a hR hS hl ho hs
  have hy := (oks hs).1
  have hx := (oks (oks hs).2).1
  have hs2 := (oks (oks hs).2).2
  exact lv_icmp_lt G.1 G.2.1 hd ht (fun q => kt ((oi_lt hx hy).mp q) H locs a hR hS hl ho hs2) (fun q => kf (fun z => q ((oi_lt hx hy).mpr z)) H locs a hR hS hl ho hs2)
theorem x_if_lt (G : ab_G E b cc nL own ret d) {x : Int} {off : Int} {tgt : Nat} (hd : decode cc pc = .ok (.ifCond .lt off, 3)) (ht : (pc : Int) + off = (tgt : Int)) (kt : x < 0 → ab_X E b Q nL tgt ls st s) (kf : (¬ x < 0) → ab_X E b Q nL (pc + 3) ls st s) : ab_X E b Q nL pc ls (vI x :: st) s := by
  obtain ⟨p, l, e, R, s0, m, args, below, meth, c, cells, slots⟩ := b
  intro H locs a hR hS hl ho hs
  have hx := (oks hs).1
  have hy : r32 0 := by unfold r32; omega
  have hs2 := (oks hs).2
  exact lv_if_lt G.1 G.2.1 hd ht (fun q => kt ((oi_lt hx hy).mp q) H locs a hR hS hl ho hs2) (fun q => kf (fun z => q ((oi_lt hx hy).mpr z)) H locs a hR hS hl ho hs2)
theorem x_lcmp_lt (G : ab_G E b cc nL own ret d) {x y : Int} {off : Int} {tgt pc1 : Nat} (hd0 : decode cc pc = .ok (.lcmp, 1)) (h1 : pc + 1 = pc1) (hd : decode cc pc1 = .ok (.ifCond .lt off, 3)) (ht : (pc1 : Int) + off = (tgt : Int)) (kt : x < y → ab_X E b Q nL tgt ls st s) (kf : (¬ x < y) → ab_X E b Q nL (pc1 + 3) ls st s) : ab_X E b Q nL pc ls (vL y :: vL x :: st) s := by
  obtain ⟨p, l, e, R, s0, m, args, below, meth, c, cells, slots⟩ := b
  intro H locs a hR hS hl ho hs
  have hy := (oks hs).1
  have hx := (oks (oks hs).2).1
  have hs2 := (oks (oks hs).2).2
  subst h1
  exact W.lcmp G.1 G.2.1 hd0 (lv_if_lt G.1 G.2.1 hd ht (fun q => kt ((ol_lt hx hy).mp (lcm_lt.mp q)) H locs a hR hS hl ho hs2) (fun q => kf (fun z => q (lcm_lt.mpr ((ol_lt hx hy).mpr z))) H locs a hR hS hl ho hs2))
theorem x_icmp_ge (G : ab_G E b cc nL own ret d) {x y : Int} {off : Int} {tgt : Nat} (hd : decode cc pc = .ok (.if_icmp .ge off, 3)) (ht : (pc : Int) + off = (tgt : Int)) (kt : y ≤ x → ab_X E b Q nL tgt ls st s) (kf : (¬ y ≤ x) → ab_X E b Q nL (pc + 3) ls st s) : ab_X E b Q nL pc ls (vI y :: vI x :: st) s := by
  obtain ⟨p, l, e, R, s0, m, args, below, meth, c, cells, slots⟩ := b
  intro H locs a hR hS hl ho hs
  have hy := (oks hs).1
  have hx := (oks (oks hs).2).1
  have hs2 := (oks (oks hs).2).2
  exact lv_icmp_ge G.1 G.2.1 hd ht (fun q => kt ((oi_le hy hx).mp q) H locs a hR hS hl ho hs2) (fun q => kf (fun z => q ((oi_le hy hx).mpr z)) H locs a hR hS hl ho hs2)
theorem x_if_ge (G : ab_G E b cc nL own ret d) {x : Int} {off : Int} {tgt : Nat} (hd : decode cc pc = .ok (.ifCond .ge off, 3)) (ht : (pc : Int) + off = (tgt : Int)) (kt : 0 ≤ x → ab_X E b Q nL tgt ls st s) (kf : (¬ 0 ≤ x) → ab_X E b Q nL (pc + 3) ls st s) : ab_X E b Q nL pc ls (vI x :: st) s := by
  obtain ⟨p, l, e, R, s0, m, args, below, meth, c, cells, slots⟩ := b
  intro H locs a hR hS hl ho hs
  have hx := (oks hs).1
  have hy : r32 0 := by unfold r32; omega
  have hs2 := (oks hs).2
  exact lv_if_ge G.1 G.2.1 hd ht (fun q => kt ((oi_le hy hx).mp q) H locs a hR hS hl ho hs2) (fun q => kf (fun z => q ((oi_le hy hx).mpr z)) H locs a hR hS hl ho hs2)
theorem x_lcmp_ge (G : ab_G E b cc nL own ret d) {x y : Int} {off : Int} {tgt pc1 : Nat} (hd0 : decode cc pc = .ok (.lcmp, 1)) (h1 : pc + 1 = pc1) (hd : decode cc pc1 = .ok (.ifCond .ge off, 3)) (ht : (pc1 : Int) + off = (tgt : Int)) (kt : y ≤ x → ab_X E b Q nL tgt ls st s) (kf : (¬ y ≤ x) → ab_X E b Q nL (pc1 + 3) ls st s) : ab_X E b Q nL pc ls (vL y :: vL x :: st) s := by
  obtain ⟨p, l, e, R, s0, m, args, below, meth, c, cells, slots⟩ := b
  intro H locs a hR hS hl ho hs
  have hy := (oks hs).1
  have hx := (oks (oks hs).2).1
  have hs2 := (oks (oks hs).2).2
  subst h1
  exact W.lcmp G.1 G.2.1 hd0 (lv_if_ge G.1 G.2.1 hd ht (fun q => kt ((ol_le hy hx).mp (lcm_ge.mp q)) H locs a hR hS hl ho hs2) (fun q => kf (fun z => q (lcm_ge.mpr ((ol_le hy hx).mpr z))) H locs a hR hS hl ho hs2))
theorem x_icmp_gt (G : ab_G E b cc nL own ret d) {x y : Int} {off : Int} {tgt : Nat} (hd : decode cc pc = .ok (.if_icmp .gt off, 3)) (ht : (pc : Int) + off = (tgt : Int)) (kt : y < x → ab_X E b Q nL tgt ls st s) (kf : (¬ y < x) → ab_X E b Q nL (pc + 3) ls st s) : ab_X E b Q nL pc ls (vI y :: vI x :: st) s := by
  obtain ⟨p, l, e, R, s0, m, args, below, meth, c, cells, slots⟩ := b
  intro H locs a hR hS hl ho hs
  have hy := (oks hs).1
  have hx := (oks (oks hs).2).1
  have hs2 := (oks (oks hs).2).2
  exact lv_icmp_gt G.1 G.2.1 hd ht (fun q => kt ((oi_lt hy hx).mp q) H locs a hR hS hl ho hs2) (fun q => kf (fun z => q ((oi_lt hy hx).mpr z)) H locs a hR hS hl ho hs2)
theorem x_if_gt (G : ab_G E b cc nL own ret d) {x : Int} {off : Int} {tgt : Nat} (hd : decode cc pc = .ok (.ifCond .gt off, 3)) (ht : (pc : Int) + off = (tgt : Int)) (kt : 0 < x → ab_X E b Q nL tgt ls st s) (kf : (¬ 0 < x) → ab_X E b Q nL (pc + 3) ls st s) : ab_X E b Q nL pc ls (vI x :: st) s := by
  obtain ⟨p, l, e, R, s0, m, args, below, meth, c, cells, slots⟩ := b
  intro H locs a hR hS hl ho hs
  have hx := (oks hs).1
  have hy : r32 0 := by unfold r32; omega
  have hs2 := (oks hs).2
  exact lv_if_gt G.1 G.2.1 hd ht (fun q => kt ((oi_lt hy hx).mp q) H locs a hR hS hl ho hs2) (fun q => kf (fun z => q ((oi_lt hy hx).mpr z)) H locs a hR hS hl ho hs2)
theorem x_lcmp_gt (G : ab_G E b cc nL own ret d) {x y : Int} {off : Int} {tgt pc1 : Nat} (hd0 : decode cc pc = .ok (.lcmp, 1)) (h1 : pc + 1 = pc1) (hd : decode cc pc1 = .ok (.ifCond .gt off, 3)) (ht : (pc1 : Int) + off = (tgt : Int)) (kt : y < x → ab_X E b Q nL tgt ls st s) (kf : (¬ y < x) → ab_X E b Q nL (pc1 + 3) ls st s) : ab_X E b Q nL pc ls (vL y :: vL x :: st) s := by
  obtain ⟨p, l, e, R, s0, m, args, below, meth, c, cells, slots⟩ := b
  intro H locs a hR hS hl ho hs
  have hy := (oks hs).1
  have hx := (oks (oks hs).2).1
  have hs2 := (oks (oks hs).2).2
  subst h1
  exact W.lcmp G.1 G.2.1 hd0 (lv_if_gt G.1 G.2.1 hd ht (fun q => kt ((ol_lt hy hx).mp (lcm_gt.mp q)) H locs a hR hS hl ho hs2) (fun q => kf (fun z => q (lcm_gt.mpr ((ol_lt hy hx).mpr z))) H locs a hR hS hl ho hs2))
theorem x_icmp_le (G : ab_G E b cc nL own ret d) {x y : Int} {off : Int} {tgt : Nat} (hd : decode cc pc = .ok (.if_icmp .le off, 3)) (ht : (pc : Int) + off = (tgt : Int)) (kt : x ≤ y → ab_X E b Q nL tgt ls st s) (kf : (¬ x ≤ y) → ab_X E b Q nL (pc + 3) ls st s) : ab_X E b Q nL pc ls (vI y :: vI x :: st) s := by
  obtain ⟨p, l, e, R, s0, m, args, below, meth, c, cells, slots⟩ := b
  intro H locs a hR hS hl ho hs
  have hy := (oks hs).1
  have hx := (oks (oks hs).2).1
  have hs2 := (oks (oks hs).2).2
  exact lv_icmp_le G.1 G.2.1 hd ht (fun q => kt ((oi_le hx hy).mp q) H locs a hR hS hl ho hs2) (fun q => kf (fun z => q ((oi_le hx hy).mpr z)) H locs a hR hS hl ho hs2)
theorem x_if_le (G : ab_G E b cc nL own ret d) {x : Int} {off : Int} {tgt : Nat} (hd : decode cc pc = .ok (.ifCond .le off, 3)) (ht : (pc : Int) + off = (tgt : Int)) (kt : x ≤ 0 → ab_X E b Q nL tgt ls st s) (kf : (¬ x ≤ 0) → ab_X E b Q nL (pc + 3) ls st s) : ab_X E b Q nL pc ls (vI x :: st) s := by
  obtain ⟨p, l, e, R, s0, m, args, below, meth, c, cells, slots⟩ := b
  intro H locs a hR hS hl ho hs
  have hx := (oks hs).1
  have hy : r32 0 := by unfold r32; omega
  have hs2 := (oks hs).2
  exact lv_if_le G.1 G.2.1 hd ht (fun q => kt ((oi_le hx hy).mp q) H locs a hR hS hl ho hs2) (fun q => kf (fun z => q ((oi_le hx hy).mpr z)) H locs a hR hS hl ho hs2)
theorem x_lcmp_le (G : ab_G E b cc nL own ret d) {x y : Int} {off : Int} {tgt pc1 : Nat} (hd0 : decode cc pc = .ok (.lcmp, 1)) (h1 : pc + 1 = pc1) (hd : decode cc pc1 = .ok (.ifCond .le off, 3)) (ht : (pc1 : Int) + off = (tgt : Int)) (kt : x ≤ y → ab_X E b Q nL tgt ls st s) (kf : (¬ x ≤ y) → ab_X E b Q nL (pc1 + 3) ls st s) : ab_X E b Q nL pc ls (vL y :: vL x :: st) s := by
  obtain ⟨p, l, e, R, s0, m, args, below, meth, c, cells, slots⟩ := b
  intro H locs a hR hS hl ho hs
  have hy := (oks hs).1
  have hx := (oks (oks hs).2).1
  have hs2 := (oks (oks hs).2).2
  subst h1
  exact W.lcmp G.1 G.2.1 hd0 (lv_if_le G.1 G.2.1 hd ht (fun q => kt ((ol_le hx hy).mp (lcm_le.mp q)) H locs a hR hS hl ho hs2) (fun q => kf (fun z => q (lcm_le.mpr ((ol_le hx hy).mpr z))) H locs a hR hS hl ho hs2))
theorem x_icmp_eq (G : ab_G E b cc nL own ret d) {x y : Int} {off : Int} {tgt : Nat} (hd : decode cc pc = .ok (.if_icmp .eq off, 3)) (ht : (pc : Int) + off = (tgt : Int)) (kt : x = y → ab_X E b Q nL tgt ls st s) (kf : (¬ x = y) → ab_X E b Q nL (pc + 3) ls st s) : ab_X E b Q nL pc ls (vI y :: vI x :: st) s := by
  obtain ⟨p, l, e, R, s0, m, args, below, meth, c, cells, slots⟩ := b
  intro H locs a hR hS hl ho hs
  have hy := (oks hs).1
  have hx := (oks (oks hs).2).1
  have hs2 := (oks (oks hs).2).2
  exact lv_icmp_eq G.1 G.2.1 hd ht (fun q => kt ((oi_eq hx hy).mp q) H locs a hR hS hl ho hs2) (fun q => kf (fun z => q ((oi_eq hx hy).mpr z)) H locs a hR hS hl ho hs2)
theorem x_if_eq (G : ab_G E b cc nL own ret d) {x : Int} {off : Int} {tgt : Nat} (hd : decode cc pc = .ok (.ifCond .eq off, 3)) (ht : (pc : Int) + off = (tgt : Int)) (kt : x = 0 → ab_X E b Q nL tgt ls st s) (kf : (¬ x = 0) → ab_X E b Q nL (pc + 3) ls st s) : ab_X E b Q nL pc ls (vI x :: st) s := by
  obtain ⟨p, l, e, R, s0, m, args, below, meth, c, cells, slots⟩ := b
  intro H locs a hR hS hl ho hs
  have hx := (oks hs).1
  have hy : r32 0 := by unfold r32; omega
  have hs2 := (oks hs).2
  exact lv_if_eq G.1 G.2.1 hd ht (fun q => kt ((oi_eq hx hy).mp q) H locs a hR hS hl ho hs2) (fun q => kf (fun z => q ((oi_eq hx hy).mpr z)) H locs a hR hS hl ho hs2)
theorem x_lcmp_eq (G : ab_G E b cc nL own ret d) {x y : Int} {off : Int} {tgt pc1 : Nat} (hd0 : decode cc pc = .ok (.lcmp, 1)) (h1 : pc + 1 = pc1) (hd : decode cc pc1 = .ok (.ifCond .eq off, 3)) (ht : (pc1 : Int) + off = (tgt : Int)) (kt : x = y → ab_X E b Q nL tgt ls st s) (kf : (¬ x = y) → ab_X E b Q nL (pc1 + 3) ls st s) : ab_X E b Q nL pc ls (vL y :: vL x :: st) s := by
  obtain ⟨p, l, e, R, s0, m, args, below, meth, c, cells, slots⟩ := b
  intro H locs a hR hS hl ho hs
  have hy := (oks hs).1
  have hx := (oks (oks hs).2).1
  have hs2 := (oks (oks hs).2).2
  subst h1
  exact W.lcmp G.1 G.2.1 hd0 (lv_if_eq G.1 G.2.1 hd ht (fun q => kt ((ol_eq hx hy).mp (lcm_eq.mp q)) H locs a hR hS hl ho hs2) (fun q => kf (fun z => q (lcm_eq.mpr ((ol_eq hx hy).mpr z))) H locs a hR hS hl ho hs2))
theorem x_icmp_ne (G : ab_G E b cc nL own ret d) {x y : Int} {off : Int} {tgt : Nat} (hd : decode cc pc = .ok (.if_icmp .ne off, 3)) (ht : (pc : Int) + off = (tgt : Int)) (kt : (¬ x = y) → ab_X E b Q nL tgt ls st s) (kf : x = y → ab_X E b Q nL (pc + 3) ls st s) : ab_X E b Q nL pc ls (vI y :: vI x :: st) s := by
  obtain ⟨p, l, e, R, s0, m, args, below, meth, c, cells, slots⟩ := b
  intro H locs a hR hS hl ho hs
  have hy := (oks hs).1
  have hx := (oks (oks hs).2).1
  have hs2 := (oks (oks hs).2).2
  exact lv_icmp_ne G.1 G.2.1 hd ht (fun q => kt (fun z => q ((oi_eq hx hy).mpr z)) H locs a hR hS hl ho hs2) (fun q => kf ((oi_eq hx hy).mp q) H locs a hR hS hl ho hs2)
theorem x_if_ne (G : ab_G E b cc nL own ret d) {x : Int} {off : Int} {tgt : Nat} (hd : decode cc pc = .ok (.ifCond .ne off, 3)) (ht : (pc : Int) + off = (tgt : Int)) (kt : (¬ x = 0) → ab_X E b Q nL tgt ls st s) (kf : x = 0 → ab_X E b Q nL (pc + 3) ls st s) : ab_X E b Q nL pc ls (vI x :: st) s := by
  obtain ⟨p, l, e, R, s0, m, args, below, meth, c, cells, slots⟩ := b
  intro H locs a hR hS hl ho hs
  have hx := (oks hs).1
  have hy : r32 0 := by unfold r32; omega
  have hs2 := (oks hs).2
  exact lv_if_ne G.1 G.2.1 hd ht (fun q => kt (fun z => q ((oi_eq hx hy).mpr z)) H locs a hR hS hl ho hs2) (fun q => kf ((oi_eq hx hy).mp q) H locs a hR hS hl ho hs2)
theorem x_lcmp_ne (G : ab_G E b cc nL own ret d) {x y : Int} {off : Int} {tgt pc1 : Nat} (hd0 : decode cc pc = .ok (.lcmp, 1)) (h1 : pc + 1 = pc1) (hd : decode cc pc1 = .ok (.ifCond .ne off, 3)) (ht : (pc1 : Int) + off = (tgt : Int)) (kt : (¬ x = y) → ab_X E b Q nL tgt ls st s) (kf : x = y → ab_X E b Q nL (pc1 + 3) ls st s) : ab_X E b Q nL pc ls (vL y :: vL x :: st) s := by
  obtain ⟨p, l, e, R, s0, m, args, below, meth, c, cells, slots⟩ := b
  intro H locs a hR hS hl ho hs
  have hy := (oks hs).1
  have hx := (oks (oks hs).2).1
  have hs2 := (oks (oks hs).2).2
  subst h1
  exact W.lcmp G.1 G.2.1 hd0 (lv_if_ne G.1 G.2.1 hd ht (fun q => kt (fun z => q (lcm_eq.mpr ((ol_eq hx hy).mpr z))) H locs a hR hS hl ho hs2) (fun q => kf ((ol_eq hx hy).mp (lcm_eq.mp q)) H locs a hR hS hl ho hs2))
end RW
end
section
/-! ===== reads and writes, as functions that may fail ===== -/
def rdI (s : Mem) (k : Nat) (i : Int) : Option Int := if 0 ≤ i ∧ i < lenI k then some (s k i.toNat) else none
def rdB (s : Mem) (k : Nat) (i : Int) : Option Int := if 0 ≤ i ∧ i < lenB k then some (s k i.toNat) else none
def rdZ (s : Mem) (k : Nat) (i : Int) : Option Int := if 0 ≤ i ∧ i < lenZ k then some (s k i.toNat) else none
def rdL (s : Mem) (k : Nat) (i : Int) : Option Int := if 0 ≤ i ∧ i < lenL k then some (s k i.toNat) else none
def rdS (k : Nat) (i : Int) : Option Int := if 0 ≤ i ∧ i < st_l k then some (st_c k i.toNat) else none
def rdG (k : Nat) (i : Int) : Option Nat := if 0 ≤ i ∧ i < lenG k then some (rowG k + i.toNat) else none
def wrI (s : Mem) (k : Nat) (i x : Int) : Option Mem := if 0 ≤ i ∧ i < lenI k then some (mu s k i.toNat x) else none
def wrB (s : Mem) (k : Nat) (i x : Int) : Option Mem := if 0 ≤ i ∧ i < lenB k then some (mu s k i.toNat (w8 x)) else none
def wrZ (s : Mem) (k : Nat) (i x : Int) : Option Mem := if (0 ≤ i ∧ i < lenZ k) ∧ (x = 0 ∨ x = 1) then some (mu s k i.toNat x) else none
def wrL (s : Mem) (k : Nat) (i x : Int) : Option Mem := if 0 ≤ i ∧ i < lenL k then some (mu s k i.toNat x) else none
def lt' {α β : Type} (a : α) (g : α → Option β) : Option β := g a
def b2 {α β : Type} (o : Option (α × Mem)) (g : α → Mem → Option β) : Option β := o.bind (fun q => g q.1 q.2)
/-- a test that must hold -/
def ck {β : Type} (c : Prop) [Decidable c] (g : Option β) : Option β := if c then g else none
theorem ck_some {β : Type} {c : Prop} [Decidable c] {g : Option β} {z : β} (h : ck c g = some z) : c ∧ g = some z := by
  unfold ck at h
  split at h
  · exact ⟨by assumption, h⟩
  · cases h
theorem b2_some {α β : Type} {o : Option (α × Mem)} {g : α → Mem → Option β} {z : β} (h : b2 o g = some z) : ∃ (r : α) (s : Mem), o = some (r, s) ∧ g r s = some z := by
  unfold b2 at h
  obtain ⟨⟨r, s⟩, h1, h2⟩ := Option.bind_eq_some_iff.mp h
  exact ⟨r, s, h1, h2⟩
theorem bd_some {α β : Type} {o : Option α} {g : α → Option β} {z : β} (h : o.bind g = some z) : ∃ r : α, o = some r ∧ g r = some z := Option.bind_eq_some_iff.mp h
theorem lt_some {α β : Type} {a : α} {g : α → Option β} {z : β} (h : lt' a g = some z) : ∃ v : α, v = a ∧ g v = some z := ⟨a, rfl, h⟩
theorem if_some_t {β : Type} {c : Prop} [Decidable c] {A B : Option β} {z : β} (h : (if c then A else B) = some z) (hc : c) : A = some z := by rw [if_pos hc] at h; exact h
theorem if_some_f {β : Type} {c : Prop} [Decidable c] {A B : Option β} {z : β} (h : (if c then A else B) = some z) (hc : ¬ c) : B = some z := by rw [if_neg hc] at h; exact h
theorem ab_pl_ok : ∀ k, k < 137 → 17 ≤ k → ∀ t ∈ ab_pl.getD k [], ∀ n, t = some n → 17 ≤ n := by
  have h : ((List.range 137).all fun k => decide (k < 17) || (ab_pl.getD k []).all fun t => match t with | some n => decide (17 ≤ n) | none => true) = true := by decide +kernel
  intro k hk hk2 t ht n hn
  have h1 := List.all_eq_true.mp h k (List.mem_range.mpr hk)
  rw [Bool.or_eq_true] at h1
  rcases h1 with h1 | h1
  · exact absurd (of_decide_eq_true h1) (by omega)
  · have h2 := List.all_eq_true.mp h1 t ht
    subst hn
    exact of_decide_eq_true h2
theorem ab_ptr_ok {k f t : Nat} (hk : k < 137) (h : ab_ptr k f = some t) {E : En} {U : State} (hC : ab_C E U) (h1 : eLo E ≤ k) : eLo E ≤ t := by
  rcases hC.2.2.2.2.1 with h0 | h0
  · omega
  · rw [h0] at h1 ⊢
    unfold ab_ptr at h
    rw [List.getD_eq_getElem?_getD] at h
    cases hq : (ab_pl.getD k [])[f]? with
    | none => rw [hq] at h; cases h
    | some u =>
      rw [hq] at h
      exact ab_pl_ok k hk h1 u (List.mem_of_getElem? hq) t h
theorem ab_row_ok : ∀ k, k < 137 → 6 ≤ (ab_sh k).1 → k ≤ rowG k := by
  have h : ((List.range 137).all fun k => decide ((ab_sh k).1 < 6) || decide (k ≤ rowG k)) = true := by decide +kernel
  intro k hk h6
  have h1 := List.all_eq_true.mp h k (List.mem_range.mpr hk)
  rw [Bool.or_eq_true] at h1
  rcases h1 with h1 | h1
  · exact absurd (of_decide_eq_true h1) (by omega)
  · exact of_decide_eq_true h1
theorem ab_lt_of {k n : Nat} (h : (ab_sh k).1 = n) (h0 : n ≠ 0) (h9 : n ≠ 9) : k < 137 := by
  rcases Nat.lt_or_ge k 137 with q | q
  · exact q
  · exfalso
    have key : ∀ j, j < 8 → (ab_sh (137 + j)).1 = 9 := by decide +kernel
    rcases Nat.lt_or_ge (k - 137) 8 with p | p
    · have := key _ p
      rw [show 137 + (k - 137) = k by omega] at this
      omega
    · have : ab_sh k = (0, 0, 0) := by
        unfold ab_sh
        rw [List.getD_eq_getElem?_getD, List.getElem?_eq_none (by have : ab_tb.length = 137 + 8 := by decide +kernel
                                                                  omega)]
        rfl
      rw [this] at h
      exact h0 h.symm
theorem ab_R.rg {E : En} {s : Mem} {H : Heap} (h : ab_R E s H) {k : Nat} (hk : (ab_sh k).1 ≠ 5) (j : Nat) : r32 (s k j) := by
  have := h.2 k j
  unfold ab_rg at this
  rw [if_neg hk] at this
  exact this
theorem ab_R.rgL {E : En} {s : Mem} {H : Heap} (h : ab_R E s H) {k : Nat} (hk : (ab_sh k).1 = 5) (j : Nat) : r64 (s k j) := by
  have := h.2 k j
  unfold ab_rg at this
  rw [if_pos hk] at this
  exact this
theorem rg_mu {s : Mem} {k j : Nat} {x : Int} (h : ∀ a b, ab_rg a (s a b)) (hx : ab_rg k x) : ∀ a b, ab_rg a (mu s k j x a b) := by
  intro a b
  by_cases ha : a = k
  · subst ha
    rw [mu_same]
    unfold fu
    split
    · exact hx
    · exact h a b
  · rw [mu_ne s j x ha]; exact h a b
theorem ent_I {E : En} {s : Mem} {k : Nat} (h : (ab_sh k).1 = 2 ∨ (ab_sh k).1 = 3 ∨ (ab_sh k).1 = 4) : ab_ent E s k = .inl (eCA E k, (ab_sh k).2.1, .inl (fun j => Int32.ofInt (s k j))) := by
  unfold ab_ent
  rw [if_neg (by omega), if_neg (by omega), if_pos (by omega)]
theorem ent_L {E : En} {s : Mem} {k : Nat} (h : (ab_sh k).1 = 5) : ab_ent E s k = .inl (eCA E k, (ab_sh k).2.1, .inr (.inl (fun j => Int64.ofInt (s k j)))) := by
  unfold ab_ent
  rw [if_neg (by omega), if_pos h]
theorem ent_G {E : En} {s : Mem} {k : Nat} (h : 6 ≤ (ab_sh k).1) : ab_ent E s k = .inl (eCA E k, (ab_sh k).2.1, .inr (.inr (.inr (.inr (fun j => some (eAd E (rowG k + j))))))) := by
  unfold ab_ent
  rw [if_neg (by omega), if_neg (by omega), if_neg (by omega)]
  rfl
theorem ent_O {E : En} {s : Mem} {k ci : Nat} (h : ab_sh k = (1, ci, 0)) : ab_ent E s k = .inr (ci, (List.range (ab_nf.getD ci 0)).map (ab_fv E s k)) := by
  unfold ab_ent
  rw [h]
  rfl
theorem fun_mu (s : Mem) (k j : Nat) (x : Int) : (fun i => Int32.ofInt (mu s k j x k i)) = upd (fun i => Int32.ofInt (s k i)) j (Int32.ofInt x) := by
  funext i
  rw [mu_same]
  unfold fu upd
  split <;> rfl
theorem fun_muL (s : Mem) (k j : Nat) (x : Int) : (fun i => Int64.ofInt (mu s k j x k i)) = vp_updL (fun i => Int64.ofInt (s k i)) j (Int64.ofInt x) := by
  funext i
  rw [mu_same]
  unfold fu vp_updL
  split <;> rfl
theorem lenI_k {k : Nat} {i : Int} (h0 : 0 ≤ i) (h : i < lenI k) : (ab_sh k).1 = 2 ∧ i < (ab_sh k).2.1 := by
  unfold lenI at h
  split at h
  · exact ⟨by assumption, h⟩
  · omega
theorem lenB_k {k : Nat} {i : Int} (h0 : 0 ≤ i) (h : i < lenB k) : (ab_sh k).1 = 3 ∧ i < (ab_sh k).2.1 := by
  unfold lenB at h
  split at h
  · exact ⟨by assumption, h⟩
  · omega
theorem lenZ_k {k : Nat} {i : Int} (h0 : 0 ≤ i) (h : i < lenZ k) : (ab_sh k).1 = 4 ∧ i < (ab_sh k).2.1 := by
  unfold lenZ at h
  split at h
  · exact ⟨by assumption, h⟩
  · omega
theorem lenL_k {k : Nat} {i : Int} (h0 : 0 ≤ i) (h : i < lenL k) : (ab_sh k).1 = 5 ∧ i < (ab_sh k).2.1 := by
  unfold lenL at h
  split at h
  · exact ⟨by assumption, h⟩
  · omega
theorem lenG_k {k : Nat} {i : Int} (h0 : 0 ≤ i) (h : i < lenG k) : 6 ≤ (ab_sh k).1 ∧ (ab_sh k).1 ≤ 8 ∧ i < (ab_sh k).2.1 := by
  unfold lenG at h
  split at h
  · rename_i q; exact ⟨q.1, q.2, h⟩
  · omega
theorem ab_K1 {E : En} {U : State} (h : ab_C E U) {k : Nat} (h1 : eLo E ≤ k) (h2 : k < 137) (h3 : (ab_sh k).1 ≠ 1) {ty : FieldType} (ht : ab_ft k = ty) : va_K (eD E) vwCl [(eCA E k, ty)] U := by
  refine ⟨h.2.1.1, fun j q hq => ?_⟩
  have hj : j < 1 := (List.getElem?_eq_some_iff.mp hq).1
  rw [show j = 0 by omega] at hq
  cases hq
  rw [← ht]
  exact h.2.2.1 k h1 h2 h3
section MW
variable {E : En} {b : Bn} {Q : State → Prop} {nL pc : Nat} {ls : List (Nat × AV)} {st : List AV} {s : Mem} {cc : ByteArray} {own : String} {ret : Option FieldType} {d : Nat} {γ : Type} {z : γ}
theorem x_iald (G : ab_G E b cc nL own ret d) {k : Nat} {i : Int} {g : Int → Option γ} (hd : decode cc pc = .ok (.iaload, 1)) (h : (rdI s k i).bind g = some z) (kk : ∀ x, x = s k i.toNat → g x = some z → ab_X E b Q nL (pc + 1) ls (vI x :: st) s) : ab_X E b Q nL pc ls (vI i :: vR k :: st) s := by
  obtain ⟨x, h1, h2⟩ := bd_some h
  unfold rdI at h1
  split at h1
  · rename_i hc
    cases h1
    obtain ⟨hk2, hk3⟩ := lenI_k hc.1 hc.2
    have hkN := ab_lt_of hk2 (by decide) (by decide)
    have kk := kk _ rfl h2
    obtain ⟨p, l, e, R, s0, m, args, below, meth, c, cells, slots⟩ := b
    intro H locs a hR hS hl ho hs
    have hi := (oks hs).1
    have hk := (oks (oks hs).2).1
    refine va_iald (i := Int32.ofInt i) (f := fun j => Int32.ofInt (s k j)) G.1 G.2.1 (ab_K1 G.2.2.2.2.1 hk hkN (by omega) (ty := .int) (by unfold ab_ft; rw [hk2]; rfl)) hR.1 (k - eLo E) 0 (by rw [ab_ws_at E s hk hkN, ent_I (Or.inl hk2)]) rfl (oi_in hi hc.1 hk3) hd ?_
    try dsimp only
    rw [oi_clamp hi hc.1]
    exact kk H locs a hR hS hl ho (okc (hR.rg (by omega) _) (oks (oks hs).2).2)
  · cases h1
theorem x_bald (G : ab_G E b cc nL own ret d) {k : Nat} {i : Int} {g : Int → Option γ} (hd : decode cc pc = .ok (.baload, 1)) (h : (rdB s k i).bind g = some z) (kk : ∀ x, x = s k i.toNat → g x = some z → ab_X E b Q nL (pc + 1) ls (vI x :: st) s) : ab_X E b Q nL pc ls (vI i :: vR k :: st) s := by
  obtain ⟨x, h1, h2⟩ := bd_some h
  unfold rdB at h1
  split at h1
  · rename_i hc
    cases h1
    obtain ⟨hk2, hk3⟩ := lenB_k hc.1 hc.2
    have hkN := ab_lt_of hk2 (by decide) (by decide)
    have kk := kk _ rfl h2
    obtain ⟨p, l, e, R, s0, m, args, below, meth, c, cells, slots⟩ := b
    intro H locs a hR hS hl ho hs
    have hi := (oks hs).1
    have hk := (oks (oks hs).2).1
    refine va_bald (i := Int32.ofInt i) (f := fun j => Int32.ofInt (s k j)) G.1 G.2.1 (ab_K1 G.2.2.2.2.1 hk hkN (by omega) (ty := .byte) (by unfold ab_ft; rw [hk2]; rfl)) hR.1 (k - eLo E) 0 (by rw [ab_ws_at E s hk hkN, ent_I (Or.inr (Or.inl hk2))]) rfl (oi_in hi hc.1 hk3) hd ?_
    try dsimp only
    rw [oi_clamp hi hc.1]
    exact kk H locs a hR hS hl ho (okc (hR.rg (by omega) _) (oks (oks hs).2).2)
  · cases h1
theorem x_zald (G : ab_G E b cc nL own ret d) {k : Nat} {i : Int} {g : Int → Option γ} (hd : decode cc pc = .ok (.baload, 1)) (h : (rdZ s k i).bind g = some z) (kk : ∀ x, x = s k i.toNat → g x = some z → ab_X E b Q nL (pc + 1) ls (vI x :: st) s) : ab_X E b Q nL pc ls (vI i :: vR k :: st) s := by
  obtain ⟨x, h1, h2⟩ := bd_some h
  unfold rdZ at h1
  split at h1
  · rename_i hc
    cases h1
    obtain ⟨hk2, hk3⟩ := lenZ_k hc.1 hc.2
    have hkN := ab_lt_of hk2 (by decide) (by decide)
    have kk := kk _ rfl h2
    obtain ⟨p, l, e, R, s0, m, args, below, meth, c, cells, slots⟩ := b
    intro H locs a hR hS hl ho hs
    have hi := (oks hs).1
    have hk := (oks (oks hs).2).1
    refine va_zald (i := Int32.ofInt i) (f := fun j => Int32.ofInt (s k j)) G.1 G.2.1 (ab_K1 G.2.2.2.2.1 hk hkN (by omega) (ty := .boolean) (by unfold ab_ft; rw [hk2]; rfl)) hR.1 (k - eLo E) 0 (by rw [ab_ws_at E s hk hkN, ent_I (Or.inr (Or.inr hk2))]) rfl (oi_in hi hc.1 hk3) hd ?_
    try dsimp only
    rw [oi_clamp hi hc.1]
    exact kk H locs a hR hS hl ho (okc (hR.rg (by omega) _) (oks (oks hs).2).2)
  · cases h1
theorem x_lald (G : ab_G E b cc nL own ret d) {k : Nat} {i : Int} {g : Int → Option γ} (hd : decode cc pc = .ok (.laload, 1)) (h : (rdL s k i).bind g = some z) (kk : ∀ x, x = s k i.toNat → g x = some z → ab_X E b Q nL (pc + 1) ls (vL x :: st) s) : ab_X E b Q nL pc ls (vI i :: vR k :: st) s := by
  obtain ⟨x, h1, h2⟩ := bd_some h
  unfold rdL at h1
  split at h1
  · rename_i hc
    cases h1
    obtain ⟨hk2, hk3⟩ := lenL_k hc.1 hc.2
    have hkN := ab_lt_of hk2 (by decide) (by decide)
    have kk := kk _ rfl h2
    obtain ⟨p, l, e, R, s0, m, args, below, meth, c, cells, slots⟩ := b
    intro H locs a hR hS hl ho hs
    have hi := (oks hs).1
    have hk := (oks (oks hs).2).1
    refine va_lald (i := Int32.ofInt i) (f := fun j => Int64.ofInt (s k j)) G.1 G.2.1 (ab_K1 G.2.2.2.2.1 hk hkN (by omega) (ty := .long) (by unfold ab_ft; rw [hk2]; rfl)) hR.1 (k - eLo E) 0 (by rw [ab_ws_at E s hk hkN, ent_L hk2]) rfl (oi_in hi hc.1 hk3) hd ?_
    try dsimp only
    rw [oi_clamp hi hc.1]
    exact kk H locs a hR hS hl ho (okc (hR.rgL hk2 _) (oks (oks hs).2).2)
  · cases h1
theorem x_aald (G : ab_G E b cc nL own ret d) {k : Nat} {i : Int} {g : Nat → Option γ} (hd : decode cc pc = .ok (.aaload, 1)) (h : (rdG k i).bind g = some z) (kk : 0 ≤ i → i < lenG k → ∀ x, x = rowG k + i.toNat → g x = some z → ab_X E b Q nL (pc + 1) ls (vR x :: st) s) : ab_X E b Q nL pc ls (vI i :: vR k :: st) s := by
  obtain ⟨x, h1, h2⟩ := bd_some h
  unfold rdG at h1
  split at h1
  · rename_i hc
    cases h1
    obtain ⟨hk2, hk8, hk3⟩ := lenG_k hc.1 hc.2
    have hkN := ab_lt_of (k := k) rfl (by omega) (by omega)
    have kk := kk hc.1 hc.2 _ rfl h2
    obtain ⟨p, l, e, R, s0, m, args, below, meth, c, cells, slots⟩ := b
    intro H locs a hR hS hl ho hs
    have hi := (oks hs).1
    have hk := (oks (oks hs).2).1
    have ha : (ab_ws E s)[k - eLo E]? = some (eAd E k, .inl (eCA E k, (ab_sh k).2.1, .inr (.inr (.inr (.inr (fun j => some (eAd E (rowG k + j)))))))) := by rw [ab_ws_at E s hk hkN, ent_G hk2]
    have hin := oi_in hi hc.1 hk3
    have hcl := oi_clamp hi hc.1
    have hlt : (Int32.ofInt i).toNatClampNeg < (ab_sh k).2.1 := by
      rw [hcl]
      have h0 := hc.1
      omega
    refine W.aald (v := .ref (eAd E (rowG k + i.toNat))) (ty := ab_ft k) G.1 G.2.1 (hR.1 _ _ ha) ((G.2.2.2.2.1.2.2.1 k hk hkN (by omega)).1 _ (fun j => va_rf (some (eAd E (rowG k + j))))) ?_ (fun q => by cases q) (by show ¬ (_ ∨ (arrV _ _ _).slots.size ≤ _); rw [arrV_size]; exact hin) (by show (arrV _ _ _).slots[_]? = _; rw [arrV_read _ _ hlt, hcl]; rfl) rfl rfl hd ?_
    · unfold ab_ft
      rcases (show (ab_sh k).1 = 6 ∨ (ab_sh k).1 = 7 ∨ (ab_sh k).1 = 8 by omega) with q | q | q <;> rw [q] <;> rfl
    · refine kk H locs a hR hS hl ho (okc ?_ (oks (oks hs).2).2)
      have := ab_row_ok k hkN hk2
      show eLo E ≤ rowG k + i.toNat
      have hk' : eLo E ≤ k := hk
      omega
  · cases h1
theorem x_siald (G : ab_G E b cc nL own ret d) {k : Nat} {i : Int} {g : Int → Option γ} (hd : decode cc pc = .ok (.iaload, 1)) (h : (rdS k i).bind g = some z) (kk : ∀ x, x = st_c k i.toNat → g x = some z → ab_X E b Q nL (pc + 1) ls (vI x :: st) s) : ab_X E b Q nL pc ls (vI i :: vR k :: st) s := by
  obtain ⟨x, h1, h2⟩ := bd_some h
  unfold rdS at h1
  split at h1
  · rename_i hc
    have h1 := Option.some.inj h1
    subst h1
    have hk9 : (ab_sh k).1 = 9 ∧ i < (ab_sh k).2.1 := by
      have hc2 := hc.2
      unfold st_l at hc2
      split at hc2
      · exact ⟨by assumption, hc2⟩
      · omega
    have key : ∀ n, n < 137 → (ab_sh n).1 ≠ 9 := by
      have h : ((List.range 137).all fun k => decide ((ab_sh k).1 ≠ 9)) = true := by decide +kernel
      intro n hn
      exact of_decide_eq_true (List.all_eq_true.mp h n (List.mem_range.mpr hn))
    have hlo : 137 ≤ k := by
      rcases Nat.lt_or_ge k 137 with q | q
      · exact absurd hk9.1 (key k q)
      · exact q
    have hhi : k < 137 + 8 := by
      rcases Nat.lt_or_ge k (137 + 8) with q | q
      · exact q
      · exfalso
        have h9 := hk9.1
        unfold ab_sh at h9
        rw [List.getD_eq_getElem?_getD, List.getElem?_eq_none (by have : ab_tb.length = 137 + 8 := by decide +kernel
                                                                  omega)] at h9
        cases h9
    have kk := kk _ rfl h2
    have hrng : r32 (st_c k i.toNat) := by
      have h : ((List.range 8).all fun j => (st_tb.getD j []).all fun v => decide (-2147483648 ≤ v ∧ v < 2147483648)) = true := by decide +kernel
      have h1 := List.all_eq_true.mp h (k - 137) (List.mem_range.mpr (by omega))
      unfold st_c
      rw [List.getD_eq_getElem?_getD]
      cases hq : (st_tb.getD (k - 137) [])[i.toNat]? with
      | none => show r32 0; unfold r32; omega
      | some v =>
        have h2 : -2147483648 ≤ v ∧ v < 2147483648 := of_decide_eq_true (List.all_eq_true.mp h1 v (List.mem_of_getElem? hq))
        exact h2
    obtain ⟨p, l, e, R, s0, m, args, below, meth, c, cells, slots⟩ := b
    intro H locs a hR hS hl ho hs
    have hi := (oks hs).1
    have hT := (G.2.2.2.2.1.2.2.2.1 (k - 137) (by omega)).2
    rw [show 137 + (k - 137) = k by omega] at hT
    exact va_ti (i := Int32.ofInt i) (v := .int (Int32.ofInt (st_c k i.toNat))) G.1 G.2.1 hT hS (oi_in hi hc.1 hc.2) (by rw [oi_clamp hi hc.1]) hd (kk H locs a hR hS hl ho (okc hrng (oks (oks hs).2).2))
  · cases h1
theorem x_slen (G : ab_G E b cc nL own ret d) {k : Nat} (hd : decode cc pc = .ok (.arraylength, 1)) (hlo : 137 ≤ k) (hhi : k < 137 + 8) (kk : ab_X E b Q nL (pc + 1) ls (vI (st_l k) :: st) s) : ab_X E b Q nL pc ls (vR k :: st) s := by
  obtain ⟨p, l, e, R, s0, m, args, below, meth, c, cells, slots⟩ := b
  intro H locs a hR hS hl ho hs
  have hT := (G.2.2.2.2.1.2.2.2.1 (k - 137) (by omega)).2
  rw [show 137 + (k - 137) = k by omega] at hT
  have hb : st_l k < 100 := by
    have h : ∀ j, j < 8 → st_l (137 + j) < 100 := by decide +kernel
    have := h (k - 137) (by omega)
    rw [show 137 + (k - 137) = k by omega] at this
    exact this
  exact va_tlen (v := Int32.ofInt (st_l k)) G.1 G.2.1 hT hS rfl hd (kk H locs a hR hS hl ho (okc (by show r32 _; unfold r32; omega) (oks hs).2))
theorem x_ilen (G : ab_G E b cc nL own ret d) {k : Nat} (hd : decode cc pc = .ok (.arraylength, 1)) (hk2 : (ab_sh k).1 = 2) (hb : (ab_sh k).2.1 < 1000) (kk : ab_X E b Q nL (pc + 1) ls (vI (lenI k) :: st) s) : ab_X E b Q nL pc ls (vR k :: st) s := by
  have hkN := ab_lt_of hk2 (by decide) (by decide)
  obtain ⟨p, l, e, R, s0, m, args, below, meth, c, cells, slots⟩ := b
  intro H locs a hR hS hl ho hs
  have hk := (oks hs).1
  have he : lenI k = (ab_sh k).2.1 := by unfold lenI; rw [if_pos hk2]
  refine va_alen (x := ((ab_sh k).2.1, .inl (fun j => Int32.ofInt (s k j)))) (v := Int32.ofInt (lenI k)) G.1 G.2.1 (ab_K1 G.2.2.2.2.1 hk hkN (by omega) (ty := .int) (by unfold ab_ft; rw [hk2]; rfl)) hR.1 (k - eLo E) 0 (by rw [ab_ws_at E s hk hkN, ent_I (Or.inl hk2)]) rfl (by rw [he]; rfl) hd ?_
  exact kk H locs a hR hS hl ho (okc (by show r32 _; unfold r32; omega) (oks hs).2)
theorem x_iast (G : ab_G E b cc nL own ret d) {k : Nat} {i x : Int} {g : Mem → Option γ} (hd : decode cc pc = .ok (.iastore, 1)) (h : (wrI s k i x).bind g = some z) (kk : ∀ s', s' = mu s k i.toNat x → g s' = some z → ab_X E b Q nL (pc + 1) ls st s') : ab_X E b Q nL pc ls (vI x :: vI i :: vR k :: st) s := by
  obtain ⟨s', h1, h2⟩ := bd_some h
  unfold wrI at h1
  split at h1
  · rename_i hc
    cases h1
    obtain ⟨hk2, hk3⟩ := lenI_k hc.1 hc.2
    have hkN := ab_lt_of hk2 (by decide) (by decide)
    have kk := kk _ rfl h2
    obtain ⟨p, l, e, R, s0, m, args, below, meth, c, cells, slots⟩ := b
    intro H locs a hR hS hl ho hs
    have hx := (oks hs).1
    have hi := (oks (oks hs).2).1
    have hk := (oks (oks (oks hs).2).2).1
    have hws : (ab_ws E s)[k - eLo E]? = some (eAd E k, .inl (eCA E k, (ab_sh k).2.1, .inl (fun j => Int32.ofInt (s k j)))) := by rw [ab_ws_at E s hk hkN, ent_I (Or.inl hk2)]
    refine va_iast (i := Int32.ofInt i) (x := Int32.ofInt x) (f := fun j => Int32.ofInt (s k j)) G.1 G.2.1 (ab_K1 G.2.2.2.2.1 hk hkN (by omega) (ty := .int) (by unfold ab_ft; rw [hk2]; rfl)) hR.1 (ab_ws_D s G.2.2.2.2.1) hS (k - eLo E) 0 hws rfl (oi_in hi hc.1 hk3) hd (fun H1 locs1 hP _ hS1 => ?_)
    rw [oi_clamp hi hc.1, ← fun_mu, ← ent_I (E := E) (s := mu s k i.toNat x) (Or.inl hk2), ab_ws_set E s i.toNat x hk hkN] at hP
    exact kk H1 locs1 a ⟨hP, rg_mu hR.2 (by unfold ab_rg; rw [if_neg (by omega)]; exact hx)⟩ hS1 hl ho (oks (oks (oks hs).2).2).2
  · cases h1
theorem vpn_b {x : Int} : vp_nar .byte (Int32.ofInt x) = Int32.ofInt (w8 x) := by rw [vp_nar_byte, oi_i2b]
theorem x_bast (G : ab_G E b cc nL own ret d) {k : Nat} {i x : Int} {g : Mem → Option γ} (hd : decode cc pc = .ok (.bastore, 1)) (h : (wrB s k i x).bind g = some z) (kk : ∀ s', s' = mu s k i.toNat (w8 x) → g s' = some z → ab_X E b Q nL (pc + 1) ls st s') : ab_X E b Q nL pc ls (vI x :: vI i :: vR k :: st) s := by
  obtain ⟨s', h1, h2⟩ := bd_some h
  unfold wrB at h1
  split at h1
  · rename_i hc
    cases h1
    obtain ⟨hk2, hk3⟩ := lenB_k hc.1 hc.2
    have hkN := ab_lt_of hk2 (by decide) (by decide)
    have kk := kk _ rfl h2
    obtain ⟨p, l, e, R, s0, m, args, below, meth, c, cells, slots⟩ := b
    intro H locs a hR hS hl ho hs
    have hx := (oks hs).1
    have hi := (oks (oks hs).2).1
    have hk := (oks (oks (oks hs).2).2).1
    have hws : (ab_ws E s)[k - eLo E]? = some (eAd E k, .inl (eCA E k, (ab_sh k).2.1, .inl (fun j => Int32.ofInt (s k j)))) := by rw [ab_ws_at E s hk hkN, ent_I (Or.inr (Or.inl hk2))]
    refine va_bast (i := Int32.ofInt i) (x := Int32.ofInt x) (f := fun j => Int32.ofInt (s k j)) G.1 G.2.1 (ab_K1 G.2.2.2.2.1 hk hkN (by omega) (ty := .byte) (by unfold ab_ft; rw [hk2]; rfl)) hR.1 (ab_ws_D s G.2.2.2.2.1) hS (k - eLo E) 0 hws rfl (oi_in hi hc.1 hk3) hd (fun H1 locs1 hP _ hS1 => ?_)
    rw [vpn_b, oi_clamp hi hc.1, ← fun_mu, ← ent_I (E := E) (s := mu s k i.toNat (w8 x)) (Or.inr (Or.inl hk2)), ab_ws_set E s i.toNat _ hk hkN] at hP
    exact kk H1 locs1 a ⟨hP, rg_mu hR.2 (by unfold ab_rg; rw [if_neg (by omega)]; exact r32_w8 x)⟩ hS1 hl ho (oks (oks (oks hs).2).2).2
  · cases h1
theorem vpn_z {x : Int} (h : x = 0 ∨ x = 1) : vp_nar .boolean (Int32.ofInt x) = Int32.ofInt x := by rcases h with rfl | rfl <;> decide
theorem nar_z {x : Int} (h : x = 0 ∨ x = 1) : narrow .boolean (.int (Int32.ofInt x)) = .int (Int32.ofInt x) := by rcases h with rfl | rfl <;> decide
theorem x_zast (G : ab_G E b cc nL own ret d) {k : Nat} {i x : Int} {g : Mem → Option γ} (hd : decode cc pc = .ok (.bastore, 1)) (h : (wrZ s k i x).bind g = some z) (kk : ∀ s', s' = mu s k i.toNat x → g s' = some z → ab_X E b Q nL (pc + 1) ls st s') : ab_X E b Q nL pc ls (vI x :: vI i :: vR k :: st) s := by
  obtain ⟨s', h1, h2⟩ := bd_some h
  unfold wrZ at h1
  split at h1
  · rename_i hc0
    obtain ⟨hc, hx01⟩ := hc0
    cases h1
    obtain ⟨hk2, hk3⟩ := lenZ_k hc.1 hc.2
    have hkN := ab_lt_of hk2 (by decide) (by decide)
    have kk := kk _ rfl h2
    obtain ⟨p, l, e, R, s0, m, args, below, meth, c, cells, slots⟩ := b
    intro H locs a hR hS hl ho hs
    have hx := (oks hs).1
    have hi := (oks (oks hs).2).1
    have hk := (oks (oks (oks hs).2).2).1
    have hws : (ab_ws E s)[k - eLo E]? = some (eAd E k, .inl (eCA E k, (ab_sh k).2.1, .inl (fun j => Int32.ofInt (s k j)))) := by rw [ab_ws_at E s hk hkN, ent_I (Or.inr (Or.inr hk2))]
    refine va_zast (i := Int32.ofInt i) (x := Int32.ofInt x) (f := fun j => Int32.ofInt (s k j)) G.1 G.2.1 (ab_K1 G.2.2.2.2.1 hk hkN (by omega) (ty := .boolean) (by unfold ab_ft; rw [hk2]; rfl)) hR.1 (ab_ws_D s G.2.2.2.2.1) hS (k - eLo E) 0 hws rfl (oi_in hi hc.1 hk3) hd (fun H1 locs1 hP _ hS1 => ?_)
    rw [vpn_z hx01, oi_clamp hi hc.1, ← fun_mu, ← ent_I (E := E) (s := mu s k i.toNat x) (Or.inr (Or.inr hk2)), ab_ws_set E s i.toNat _ hk hkN] at hP
    exact kk H1 locs1 a ⟨hP, rg_mu hR.2 (by unfold ab_rg; rw [if_neg (by omega)]; exact hx)⟩ hS1 hl ho (oks (oks (oks hs).2).2).2
  · cases h1
theorem x_last (G : ab_G E b cc nL own ret d) {k : Nat} {i x : Int} {g : Mem → Option γ} (hd : decode cc pc = .ok (.lastore, 1)) (h : (wrL s k i x).bind g = some z) (kk : ∀ s', s' = mu s k i.toNat x → g s' = some z → ab_X E b Q nL (pc + 1) ls st s') : ab_X E b Q nL pc ls (vL x :: vI i :: vR k :: st) s := by
  obtain ⟨s', h1, h2⟩ := bd_some h
  unfold wrL at h1
  split at h1
  · rename_i hc
    cases h1
    obtain ⟨hk2, hk3⟩ := lenL_k hc.1 hc.2
    have hkN := ab_lt_of hk2 (by decide) (by decide)
    have kk := kk _ rfl h2
    obtain ⟨p, l, e, R, s0, m, args, below, meth, c, cells, slots⟩ := b
    intro H locs a hR hS hl ho hs
    have hx := (oks hs).1
    have hi := (oks (oks hs).2).1
    have hk := (oks (oks (oks hs).2).2).1
    have hws : (ab_ws E s)[k - eLo E]? = some (eAd E k, .inl (eCA E k, (ab_sh k).2.1, .inr (.inl (fun j => Int64.ofInt (s k j))))) := by rw [ab_ws_at E s hk hkN, ent_L hk2]
    refine va_last (i := Int32.ofInt i) (x := Int64.ofInt x) (f := fun j => Int64.ofInt (s k j)) G.1 G.2.1 (ab_K1 G.2.2.2.2.1 hk hkN (by omega) (ty := .long) (by unfold ab_ft; rw [hk2]; rfl)) hR.1 (ab_ws_D s G.2.2.2.2.1) hS (k - eLo E) 0 hws rfl (oi_in hi hc.1 hk3) hd (fun H1 locs1 hP _ hS1 => ?_)
    rw [oi_clamp hi hc.1, ← fun_muL, ← ent_L (E := E) (s := mu s k i.toNat x) hk2, ab_ws_set E s i.toNat x hk hkN] at hP
    exact kk H1 locs1 a ⟨hP, rg_mu hR.2 (by unfold ab_rg; rw [if_pos hk2]; exact hx)⟩ hS1 hl ho (oks (oks (oks hs).2).2).2
  · cases h1
end MW
end
