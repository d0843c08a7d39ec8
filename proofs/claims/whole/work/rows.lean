section
-- ===== PART A: goes FIRST, ahead of the names: the tables' words, and 'selects' of the private methods out of them =====
/-- a private method of a class that the tables say can be made, by its rows of tables_1 -/
def lw_okq (q : MethodName × Nat) : Prop := (q.1.cls ≠ "java/lang/invoke/MethodHandle" ∧ q.1.cls ≠ "java/lang/invoke/VarHandle") ∧ Cond.instantiable q.1.cls q.2 ∈ tables_1 ∧ Cond.privateMethod q.1 ∈ tables_1 ∧ Cond.instanceMethod q.1 ∈ tables_1
theorem lw_p0 : lw_okq (⟨"GapStations$Plane", "measure", "()Z"⟩, 10) := ⟨⟨by decide +kernel, by decide +kernel⟩, List.mem_of_getElem? (i := 27) (by decide +kernel), List.mem_of_getElem? (i := 210) (by decide +kernel), List.mem_of_getElem? (i := 211) (by decide +kernel)⟩
theorem lw_p1 : lw_okq (⟨"GapStations$Plane", "gapByRules", "(II)I"⟩, 10) := ⟨⟨by decide +kernel, by decide +kernel⟩, List.mem_of_getElem? (i := 27) (by decide +kernel), List.mem_of_getElem? (i := 214) (by decide +kernel), List.mem_of_getElem? (i := 215) (by decide +kernel)⟩
theorem lw_p2 : lw_okq (⟨"GapStations$Text", "expect", "(C)V"⟩, 9) := ⟨⟨by decide +kernel, by decide +kernel⟩, List.mem_of_getElem? (i := 119) (by decide +kernel), List.mem_of_getElem? (i := 298) (by decide +kernel), List.mem_of_getElem? (i := 299) (by decide +kernel)⟩
theorem lw_p3 : lw_okq (⟨"GapStations$Text", "isNext", "(C)Z"⟩, 9) := ⟨⟨by decide +kernel, by decide +kernel⟩, List.mem_of_getElem? (i := 119) (by decide +kernel), List.mem_of_getElem? (i := 302) (by decide +kernel), List.mem_of_getElem? (i := 303) (by decide +kernel)⟩
theorem lw_p4 : lw_okq (⟨"GapStations$Text", "readClause", "(I)V"⟩, 9) := ⟨⟨by decide +kernel, by decide +kernel⟩, List.mem_of_getElem? (i := 119) (by decide +kernel), List.mem_of_getElem? (i := 306) (by decide +kernel), List.mem_of_getElem? (i := 307) (by decide +kernel)⟩
theorem lw_p5 : lw_okq (⟨"GapStations$Text", "readNumber", "(I)I"⟩, 9) := ⟨⟨by decide +kernel, by decide +kernel⟩, List.mem_of_getElem? (i := 119) (by decide +kernel), List.mem_of_getElem? (i := 310) (by decide +kernel), List.mem_of_getElem? (i := 311) (by decide +kernel)⟩
theorem lw_p6 : lw_okq (⟨"GapStations$Text", "digit", "()I"⟩, 9) := ⟨⟨by decide +kernel, by decide +kernel⟩, List.mem_of_getElem? (i := 119) (by decide +kernel), List.mem_of_getElem? (i := 314) (by decide +kernel), List.mem_of_getElem? (i := 315) (by decide +kernel)⟩
theorem lw_p7 : lw_okq (⟨"GapStations$Plane", "tightest", "(I)I"⟩, 10) := ⟨⟨by decide +kernel, by decide +kernel⟩, List.mem_of_getElem? (i := 27) (by decide +kernel), List.mem_of_getElem? (i := 402) (by decide +kernel), List.mem_of_getElem? (i := 403) (by decide +kernel)⟩
theorem lw_p8 : lw_okq (⟨"GapStations$Plane", "give", "(II)V"⟩, 10) := ⟨⟨by decide +kernel, by decide +kernel⟩, List.mem_of_getElem? (i := 27) (by decide +kernel), List.mem_of_getElem? (i := 408) (by decide +kernel), List.mem_of_getElem? (i := 409) (by decide +kernel)⟩
theorem lw_p9 : lw_okq (⟨"GapStations$Plane", "chainOf", "(II)I"⟩, 10) := ⟨⟨by decide +kernel, by decide +kernel⟩, List.mem_of_getElem? (i := 27) (by decide +kernel), List.mem_of_getElem? (i := 421) (by decide +kernel), List.mem_of_getElem? (i := 422) (by decide +kernel)⟩
theorem lw_p10 : lw_okq (⟨"GapStations$Plane", "neighboursOn", "(II)I"⟩, 10) := ⟨⟨by decide +kernel, by decide +kernel⟩, List.mem_of_getElem? (i := 27) (by decide +kernel), List.mem_of_getElem? (i := 425) (by decide +kernel), List.mem_of_getElem? (i := 426) (by decide +kernel)⟩
theorem lw_p11 : lw_okq (⟨"GapStations$Plane", "swap", "(II)V"⟩, 10) := ⟨⟨by decide +kernel, by decide +kernel⟩, List.mem_of_getElem? (i := 27) (by decide +kernel), List.mem_of_getElem? (i := 434) (by decide +kernel), List.mem_of_getElem? (i := 435) (by decide +kernel)⟩
theorem lw_p12 : lw_okq (⟨"GapStations$Widths", "befriend", "(LGapStations$Plane;I)V"⟩, 2) := ⟨⟨by decide +kernel, by decide +kernel⟩, List.mem_of_getElem? (i := 106) (by decide +kernel), List.mem_of_getElem? (i := 464) (by decide +kernel), List.mem_of_getElem? (i := 465) (by decide +kernel)⟩
theorem lw_p13 : lw_okq (⟨"GapStations$Widths", "areFriends", "(II)Z"⟩, 2) := ⟨⟨by decide +kernel, by decide +kernel⟩, List.mem_of_getElem? (i := 106) (by decide +kernel), List.mem_of_getElem? (i := 470) (by decide +kernel), List.mem_of_getElem? (i := 471) (by decide +kernel)⟩
theorem lw_p14 : lw_okq (⟨"GapStations$Widths", "isWideEnough", "(LGapStations$Plane;I)Z"⟩, 2) := ⟨⟨by decide +kernel, by decide +kernel⟩, List.mem_of_getElem? (i := 106) (by decide +kernel), List.mem_of_getElem? (i := 482) (by decide +kernel), List.mem_of_getElem? (i := 483) (by decide +kernel)⟩
theorem lw_p15 : lw_okq (⟨"GapStations$Widths", "leave", "(III)V"⟩, 2) := ⟨⟨by decide +kernel, by decide +kernel⟩, List.mem_of_getElem? (i := 106) (by decide +kernel), List.mem_of_getElem? (i := 489) (by decide +kernel), List.mem_of_getElem? (i := 490) (by decide +kernel)⟩
def lw_privs_1 : List (MethodName × Nat) := [(⟨"GapStations$Plane", "measure", "()Z"⟩, 10), (⟨"GapStations$Plane", "gapByRules", "(II)I"⟩, 10), (⟨"GapStations$Text", "expect", "(C)V"⟩, 9), (⟨"GapStations$Text", "isNext", "(C)Z"⟩, 9), (⟨"GapStations$Text", "readClause", "(I)V"⟩, 9), (⟨"GapStations$Text", "readNumber", "(I)I"⟩, 9), (⟨"GapStations$Text", "digit", "()I"⟩, 9), (⟨"GapStations$Plane", "tightest", "(I)I"⟩, 10), (⟨"GapStations$Plane", "give", "(II)V"⟩, 10), (⟨"GapStations$Plane", "chainOf", "(II)I"⟩, 10), (⟨"GapStations$Plane", "neighboursOn", "(II)I"⟩, 10), (⟨"GapStations$Plane", "swap", "(II)V"⟩, 10), (⟨"GapStations$Widths", "befriend", "(LGapStations$Plane;I)V"⟩, 2), (⟨"GapStations$Widths", "areFriends", "(II)Z"⟩, 2), (⟨"GapStations$Widths", "isWideEnough", "(LGapStations$Plane;I)Z"⟩, 2), (⟨"GapStations$Widths", "leave", "(III)V"⟩, 2)]
theorem lw_r1 : ∀ q ∈ lw_privs_1, lw_okq q := List.forall_mem_cons.mpr ⟨lw_p0, List.forall_mem_cons.mpr ⟨lw_p1, List.forall_mem_cons.mpr ⟨lw_p2, List.forall_mem_cons.mpr ⟨lw_p3, List.forall_mem_cons.mpr ⟨lw_p4, List.forall_mem_cons.mpr ⟨lw_p5, List.forall_mem_cons.mpr ⟨lw_p6, List.forall_mem_cons.mpr ⟨lw_p7, List.forall_mem_cons.mpr ⟨lw_p8, List.forall_mem_cons.mpr ⟨lw_p9, List.forall_mem_cons.mpr ⟨lw_p10, List.forall_mem_cons.mpr ⟨lw_p11, List.forall_mem_cons.mpr ⟨lw_p12, List.forall_mem_cons.mpr ⟨lw_p13, List.forall_mem_cons.mpr ⟨lw_p14, List.forall_mem_cons.mpr ⟨lw_p15, fun _ h => absurd h List.not_mem_nil⟩⟩⟩⟩⟩⟩⟩⟩⟩⟩⟩⟩⟩⟩⟩⟩
theorem lw_p16 : lw_okq (⟨"GapStations$Widths", "tightest", "(LGapStations$Plane;II)I"⟩, 2) := ⟨⟨by decide +kernel, by decide +kernel⟩, List.mem_of_getElem? (i := 106) (by decide +kernel), List.mem_of_getElem? (i := 496) (by decide +kernel), List.mem_of_getElem? (i := 497) (by decide +kernel)⟩
theorem lw_p17 : lw_okq (⟨"GapStations$Widths", "leftAt", "(II)I"⟩, 2) := ⟨⟨by decide +kernel, by decide +kernel⟩, List.mem_of_getElem? (i := 106) (by decide +kernel), List.mem_of_getElem? (i := 500) (by decide +kernel), List.mem_of_getElem? (i := 501) (by decide +kernel)⟩
theorem lw_p18 : lw_okq (⟨"GapStations$Widths", "weightAmong", "(LGapStations$Plane;II)I"⟩, 2) := ⟨⟨by decide +kernel, by decide +kernel⟩, List.mem_of_getElem? (i := 106) (by decide +kernel), List.mem_of_getElem? (i := 504) (by decide +kernel), List.mem_of_getElem? (i := 505) (by decide +kernel)⟩
theorem lw_p19 : lw_okq (⟨"GapStations$Widths", "leaves", "(LGapStations$Plane;IIII)Z"⟩, 2) := ⟨⟨by decide +kernel, by decide +kernel⟩, List.mem_of_getElem? (i := 106) (by decide +kernel), List.mem_of_getElem? (i := 515) (by decide +kernel), List.mem_of_getElem? (i := 516) (by decide +kernel)⟩
theorem lw_p20 : lw_okq (⟨"GapStations", "goAhead", "(II)V"⟩, 7) := ⟨⟨by decide +kernel, by decide +kernel⟩, List.mem_of_getElem? (i := 13) (by decide +kernel), List.mem_of_getElem? (i := 607) (by decide +kernel), List.mem_of_getElem? (i := 608) (by decide +kernel)⟩
theorem lw_p21 : lw_okq (⟨"GapStations$Tape", "cut", "(J)J"⟩, 3) := ⟨⟨by decide +kernel, by decide +kernel⟩, List.mem_of_getElem? (i := 156) (by decide +kernel), List.mem_of_getElem? (i := 692) (by decide +kernel), List.mem_of_getElem? (i := 693) (by decide +kernel)⟩
theorem lw_p22 : lw_okq (⟨"GapStationsModel", "stationAt", "(II)I"⟩, 11) := ⟨⟨by decide +kernel, by decide +kernel⟩, List.mem_of_getElem? (i := 714) (by decide +kernel), List.mem_of_getElem? (i := 765) (by decide +kernel), List.mem_of_getElem? (i := 766) (by decide +kernel)⟩
theorem lw_p23 : lw_okq (⟨"GapStationsModel", "x", "(I)I"⟩, 11) := ⟨⟨by decide +kernel, by decide +kernel⟩, List.mem_of_getElem? (i := 714) (by decide +kernel), List.mem_of_getElem? (i := 769) (by decide +kernel), List.mem_of_getElem? (i := 770) (by decide +kernel)⟩
theorem lw_p24 : lw_okq (⟨"GapStationsModel", "y", "(I)I"⟩, 11) := ⟨⟨by decide +kernel, by decide +kernel⟩, List.mem_of_getElem? (i := 714) (by decide +kernel), List.mem_of_getElem? (i := 773) (by decide +kernel), List.mem_of_getElem? (i := 774) (by decide +kernel)⟩
theorem lw_p25 : lw_okq (⟨"GapStationsModel", "isStation", "(I)Z"⟩, 11) := ⟨⟨by decide +kernel, by decide +kernel⟩, List.mem_of_getElem? (i := 714) (by decide +kernel), List.mem_of_getElem? (i := 788) (by decide +kernel), List.mem_of_getElem? (i := 789) (by decide +kernel)⟩
theorem lw_p26 : lw_okq (⟨"GapStationsModel", "isFixed", "(I)Z"⟩, 11) := ⟨⟨by decide +kernel, by decide +kernel⟩, List.mem_of_getElem? (i := 714) (by decide +kernel), List.mem_of_getElem? (i := 794) (by decide +kernel), List.mem_of_getElem? (i := 795) (by decide +kernel)⟩
theorem lw_p27 : lw_okq (⟨"GapStationsModel", "channelOf", "(I)I"⟩, 11) := ⟨⟨by decide +kernel, by decide +kernel⟩, List.mem_of_getElem? (i := 714) (by decide +kernel), List.mem_of_getElem? (i := 798) (by decide +kernel), List.mem_of_getElem? (i := 799) (by decide +kernel)⟩
theorem lw_p28 : lw_okq (⟨"GapStationsModel", "has", "(II)V"⟩, 11) := ⟨⟨by decide +kernel, by decide +kernel⟩, List.mem_of_getElem? (i := 714) (by decide +kernel), List.mem_of_getElem? (i := 802) (by decide +kernel), List.mem_of_getElem? (i := 803) (by decide +kernel)⟩
theorem lw_p29 : lw_okq (⟨"GapStationsModel", "isClause", "(I)Z"⟩, 11) := ⟨⟨by decide +kernel, by decide +kernel⟩, List.mem_of_getElem? (i := 714) (by decide +kernel), List.mem_of_getElem? (i := 829) (by decide +kernel), List.mem_of_getElem? (i := 830) (by decide +kernel)⟩
theorem lw_p30 : lw_okq (⟨"GapStationsModel", "isNumber", "(II)Z"⟩, 11) := ⟨⟨by decide +kernel, by decide +kernel⟩, List.mem_of_getElem? (i := 714) (by decide +kernel), List.mem_of_getElem? (i := 833) (by decide +kernel), List.mem_of_getElem? (i := 834) (by decide +kernel)⟩
theorem lw_p31 : lw_okq (⟨"GapStationsModel", "byteAt", "(I)I"⟩, 11) := ⟨⟨by decide +kernel, by decide +kernel⟩, List.mem_of_getElem? (i := 714) (by decide +kernel), List.mem_of_getElem? (i := 837) (by decide +kernel), List.mem_of_getElem? (i := 838) (by decide +kernel)⟩
def lw_privs_2 : List (MethodName × Nat) := [(⟨"GapStations$Widths", "tightest", "(LGapStations$Plane;II)I"⟩, 2), (⟨"GapStations$Widths", "leftAt", "(II)I"⟩, 2), (⟨"GapStations$Widths", "weightAmong", "(LGapStations$Plane;II)I"⟩, 2), (⟨"GapStations$Widths", "leaves", "(LGapStations$Plane;IIII)Z"⟩, 2), (⟨"GapStations", "goAhead", "(II)V"⟩, 7), (⟨"GapStations$Tape", "cut", "(J)J"⟩, 3), (⟨"GapStationsModel", "stationAt", "(II)I"⟩, 11), (⟨"GapStationsModel", "x", "(I)I"⟩, 11), (⟨"GapStationsModel", "y", "(I)I"⟩, 11), (⟨"GapStationsModel", "isStation", "(I)Z"⟩, 11), (⟨"GapStationsModel", "isFixed", "(I)Z"⟩, 11), (⟨"GapStationsModel", "channelOf", "(I)I"⟩, 11), (⟨"GapStationsModel", "has", "(II)V"⟩, 11), (⟨"GapStationsModel", "isClause", "(I)Z"⟩, 11), (⟨"GapStationsModel", "isNumber", "(II)Z"⟩, 11), (⟨"GapStationsModel", "byteAt", "(I)I"⟩, 11)]
theorem lw_r2 : ∀ q ∈ lw_privs_2, lw_okq q := List.forall_mem_cons.mpr ⟨lw_p16, List.forall_mem_cons.mpr ⟨lw_p17, List.forall_mem_cons.mpr ⟨lw_p18, List.forall_mem_cons.mpr ⟨lw_p19, List.forall_mem_cons.mpr ⟨lw_p20, List.forall_mem_cons.mpr ⟨lw_p21, List.forall_mem_cons.mpr ⟨lw_p22, List.forall_mem_cons.mpr ⟨lw_p23, List.forall_mem_cons.mpr ⟨lw_p24, List.forall_mem_cons.mpr ⟨lw_p25, List.forall_mem_cons.mpr ⟨lw_p26, List.forall_mem_cons.mpr ⟨lw_p27, List.forall_mem_cons.mpr ⟨lw_p28, List.forall_mem_cons.mpr ⟨lw_p29, List.forall_mem_cons.mpr ⟨lw_p30, List.forall_mem_cons.mpr ⟨lw_p31, fun _ h => absurd h List.not_mem_nil⟩⟩⟩⟩⟩⟩⟩⟩⟩⟩⟩⟩⟩⟩⟩⟩
theorem lw_p32 : lw_okq (⟨"GapStationsModel", "allowed", "(II)I"⟩, 11) := ⟨⟨by decide +kernel, by decide +kernel⟩, List.mem_of_getElem? (i := 714) (by decide +kernel), List.mem_of_getElem? (i := 849) (by decide +kernel), List.mem_of_getElem? (i := 850) (by decide +kernel)⟩
theorem lw_p33 : lw_okq (⟨"GapStationsModel", "isAllowed", "(II)Z"⟩, 11) := ⟨⟨by decide +kernel, by decide +kernel⟩, List.mem_of_getElem? (i := 714) (by decide +kernel), List.mem_of_getElem? (i := 853) (by decide +kernel), List.mem_of_getElem? (i := 854) (by decide +kernel)⟩
theorem lw_p34 : lw_okq (⟨"GapStationsModel", "apartOf", "(II)I"⟩, 11) := ⟨⟨by decide +kernel, by decide +kernel⟩, List.mem_of_getElem? (i := 714) (by decide +kernel), List.mem_of_getElem? (i := 860) (by decide +kernel), List.mem_of_getElem? (i := 861) (by decide +kernel)⟩
theorem lw_p35 : lw_okq (⟨"GapStationsModel", "leastAllowed", "(I)I"⟩, 11) := ⟨⟨by decide +kernel, by decide +kernel⟩, List.mem_of_getElem? (i := 714) (by decide +kernel), List.mem_of_getElem? (i := 865) (by decide +kernel), List.mem_of_getElem? (i := 866) (by decide +kernel)⟩
theorem lw_p36 : lw_okq (⟨"GapStationsModel", "apartMany", "(I)I"⟩, 11) := ⟨⟨by decide +kernel, by decide +kernel⟩, List.mem_of_getElem? (i := 714) (by decide +kernel), List.mem_of_getElem? (i := 869) (by decide +kernel), List.mem_of_getElem? (i := 870) (by decide +kernel)⟩
theorem lw_p37 : lw_okq (⟨"GapStationsModel", "clashesOf", "(I)I"⟩, 11) := ⟨⟨by decide +kernel, by decide +kernel⟩, List.mem_of_getElem? (i := 714) (by decide +kernel), List.mem_of_getElem? (i := 873) (by decide +kernel), List.mem_of_getElem? (i := 874) (by decide +kernel)⟩
theorem lw_p38 : lw_okq (⟨"GapStationsModel", "isClash", "(II)Z"⟩, 11) := ⟨⟨by decide +kernel, by decide +kernel⟩, List.mem_of_getElem? (i := 714) (by decide +kernel), List.mem_of_getElem? (i := 877) (by decide +kernel), List.mem_of_getElem? (i := 878) (by decide +kernel)⟩
theorem lw_p39 : lw_okq (⟨"GapStationsModel", "assigned", "()I"⟩, 11) := ⟨⟨by decide +kernel, by decide +kernel⟩, List.mem_of_getElem? (i := 714) (by decide +kernel), List.mem_of_getElem? (i := 893) (by decide +kernel), List.mem_of_getElem? (i := 894) (by decide +kernel)⟩
theorem lw_p40 : lw_okq (⟨"GapStationsModel", "nextOne", "(I)I"⟩, 11) := ⟨⟨by decide +kernel, by decide +kernel⟩, List.mem_of_getElem? (i := 714) (by decide +kernel), List.mem_of_getElem? (i := 897) (by decide +kernel), List.mem_of_getElem? (i := 898) (by decide +kernel)⟩
theorem lw_p41 : lw_okq (⟨"GapStationsModel", "isAhead", "(II)Z"⟩, 11) := ⟨⟨by decide +kernel, by decide +kernel⟩, List.mem_of_getElem? (i := 714) (by decide +kernel), List.mem_of_getElem? (i := 901) (by decide +kernel), List.mem_of_getElem? (i := 902) (by decide +kernel)⟩
theorem lw_p42 : lw_okq (⟨"GapStationsModel", "clashes", "()I"⟩, 11) := ⟨⟨by decide +kernel, by decide +kernel⟩, List.mem_of_getElem? (i := 714) (by decide +kernel), List.mem_of_getElem? (i := 910) (by decide +kernel), List.mem_of_getElem? (i := 911) (by decide +kernel)⟩
theorem lw_p43 : lw_okq (⟨"GapStationsModel", "turns", "(II)V"⟩, 11) := ⟨⟨by decide +kernel, by decide +kernel⟩, List.mem_of_getElem? (i := 714) (by decide +kernel), List.mem_of_getElem? (i := 914) (by decide +kernel), List.mem_of_getElem? (i := 915) (by decide +kernel)⟩
theorem lw_p44 : lw_okq (⟨"GapStationsModel", "cliqueBy", "(I)I"⟩, 11) := ⟨⟨by decide +kernel, by decide +kernel⟩, List.mem_of_getElem? (i := 714) (by decide +kernel), List.mem_of_getElem? (i := 922) (by decide +kernel), List.mem_of_getElem? (i := 923) (by decide +kernel)⟩
theorem lw_p45 : lw_okq (⟨"GapStationsModel", "isClique", "(II)Z"⟩, 11) := ⟨⟨by decide +kernel, by decide +kernel⟩, List.mem_of_getElem? (i := 714) (by decide +kernel), List.mem_of_getElem? (i := 926) (by decide +kernel), List.mem_of_getElem? (i := 927) (by decide +kernel)⟩
theorem lw_p46 : lw_okq (⟨"GapStationsModel", "span", "()I"⟩, 11) := ⟨⟨by decide +kernel, by decide +kernel⟩, List.mem_of_getElem? (i := 714) (by decide +kernel), List.mem_of_getElem? (i := 934) (by decide +kernel), List.mem_of_getElem? (i := 935) (by decide +kernel)⟩
theorem lw_p47 : lw_okq (⟨"GapStationsModel", "bound", "()I"⟩, 11) := ⟨⟨by decide +kernel, by decide +kernel⟩, List.mem_of_getElem? (i := 714) (by decide +kernel), List.mem_of_getElem? (i := 939) (by decide +kernel), List.mem_of_getElem? (i := 940) (by decide +kernel)⟩
def lw_privs_3 : List (MethodName × Nat) := [(⟨"GapStationsModel", "allowed", "(II)I"⟩, 11), (⟨"GapStationsModel", "isAllowed", "(II)Z"⟩, 11), (⟨"GapStationsModel", "apartOf", "(II)I"⟩, 11), (⟨"GapStationsModel", "leastAllowed", "(I)I"⟩, 11), (⟨"GapStationsModel", "apartMany", "(I)I"⟩, 11), (⟨"GapStationsModel", "clashesOf", "(I)I"⟩, 11), (⟨"GapStationsModel", "isClash", "(II)Z"⟩, 11), (⟨"GapStationsModel", "assigned", "()I"⟩, 11), (⟨"GapStationsModel", "nextOne", "(I)I"⟩, 11), (⟨"GapStationsModel", "isAhead", "(II)Z"⟩, 11), (⟨"GapStationsModel", "clashes", "()I"⟩, 11), (⟨"GapStationsModel", "turns", "(II)V"⟩, 11), (⟨"GapStationsModel", "cliqueBy", "(I)I"⟩, 11), (⟨"GapStationsModel", "isClique", "(II)Z"⟩, 11), (⟨"GapStationsModel", "span", "()I"⟩, 11), (⟨"GapStationsModel", "bound", "()I"⟩, 11)]
theorem lw_r3 : ∀ q ∈ lw_privs_3, lw_okq q := List.forall_mem_cons.mpr ⟨lw_p32, List.forall_mem_cons.mpr ⟨lw_p33, List.forall_mem_cons.mpr ⟨lw_p34, List.forall_mem_cons.mpr ⟨lw_p35, List.forall_mem_cons.mpr ⟨lw_p36, List.forall_mem_cons.mpr ⟨lw_p37, List.forall_mem_cons.mpr ⟨lw_p38, List.forall_mem_cons.mpr ⟨lw_p39, List.forall_mem_cons.mpr ⟨lw_p40, List.forall_mem_cons.mpr ⟨lw_p41, List.forall_mem_cons.mpr ⟨lw_p42, List.forall_mem_cons.mpr ⟨lw_p43, List.forall_mem_cons.mpr ⟨lw_p44, List.forall_mem_cons.mpr ⟨lw_p45, List.forall_mem_cons.mpr ⟨lw_p46, List.forall_mem_cons.mpr ⟨lw_p47, fun _ h => absurd h List.not_mem_nil⟩⟩⟩⟩⟩⟩⟩⟩⟩⟩⟩⟩⟩⟩⟩⟩
theorem lw_p48 : lw_okq (⟨"GapStationsModel", "least", "()I"⟩, 11) := ⟨⟨by decide +kernel, by decide +kernel⟩, List.mem_of_getElem? (i := 714) (by decide +kernel), List.mem_of_getElem? (i := 943) (by decide +kernel), List.mem_of_getElem? (i := 944) (by decide +kernel)⟩
theorem lw_p49 : lw_okq (⟨"GapStationsModel", "can", "(I)Z"⟩, 11) := ⟨⟨by decide +kernel, by decide +kernel⟩, List.mem_of_getElem? (i := 714) (by decide +kernel), List.mem_of_getElem? (i := 950) (by decide +kernel), List.mem_of_getElem? (i := 951) (by decide +kernel)⟩
theorem lw_p50 : lw_okq (⟨"GapStationsModel", "having", "()I"⟩, 11) := ⟨⟨by decide +kernel, by decide +kernel⟩, List.mem_of_getElem? (i := 714) (by decide +kernel), List.mem_of_getElem? (i := 954) (by decide +kernel), List.mem_of_getElem? (i := 955) (by decide +kernel)⟩
theorem lw_p51 : lw_okq (⟨"GapStationsModel", "unlike", "()I"⟩, 11) := ⟨⟨by decide +kernel, by decide +kernel⟩, List.mem_of_getElem? (i := 714) (by decide +kernel), List.mem_of_getElem? (i := 958) (by decide +kernel), List.mem_of_getElem? (i := 959) (by decide +kernel)⟩
theorem lw_p52 : lw_okq (⟨"GapStationsModel", "fixedSet", "()I"⟩, 11) := ⟨⟨by decide +kernel, by decide +kernel⟩, List.mem_of_getElem? (i := 714) (by decide +kernel), List.mem_of_getElem? (i := 962) (by decide +kernel), List.mem_of_getElem? (i := 963) (by decide +kernel)⟩
theorem lw_p53 : lw_okq (⟨"GapStationsModel", "isSeen", "()Z"⟩, 11) := ⟨⟨by decide +kernel, by decide +kernel⟩, List.mem_of_getElem? (i := 714) (by decide +kernel), List.mem_of_getElem? (i := 978) (by decide +kernel), List.mem_of_getElem? (i := 979) (by decide +kernel)⟩
theorem lw_p54 : lw_okq (⟨"GapStationsModel", "planGoes", "(II)V"⟩, 11) := ⟨⟨by decide +kernel, by decide +kernel⟩, List.mem_of_getElem? (i := 714) (by decide +kernel), List.mem_of_getElem? (i := 1004) (by decide +kernel), List.mem_of_getElem? (i := 1005) (by decide +kernel)⟩
theorem lw_p55 : lw_okq (⟨"GapStationsModel", "rules", "()I"⟩, 11) := ⟨⟨by decide +kernel, by decide +kernel⟩, List.mem_of_getElem? (i := 714) (by decide +kernel), List.mem_of_getElem? (i := 1028) (by decide +kernel), List.mem_of_getElem? (i := 1029) (by decide +kernel)⟩
def lw_privs_4 : List (MethodName × Nat) := [(⟨"GapStationsModel", "least", "()I"⟩, 11), (⟨"GapStationsModel", "can", "(I)Z"⟩, 11), (⟨"GapStationsModel", "having", "()I"⟩, 11), (⟨"GapStationsModel", "unlike", "()I"⟩, 11), (⟨"GapStationsModel", "fixedSet", "()I"⟩, 11), (⟨"GapStationsModel", "isSeen", "()Z"⟩, 11), (⟨"GapStationsModel", "planGoes", "(II)V"⟩, 11), (⟨"GapStationsModel", "rules", "()I"⟩, 11)]
theorem lw_r4 : ∀ q ∈ lw_privs_4, lw_okq q := List.forall_mem_cons.mpr ⟨lw_p48, List.forall_mem_cons.mpr ⟨lw_p49, List.forall_mem_cons.mpr ⟨lw_p50, List.forall_mem_cons.mpr ⟨lw_p51, List.forall_mem_cons.mpr ⟨lw_p52, List.forall_mem_cons.mpr ⟨lw_p53, List.forall_mem_cons.mpr ⟨lw_p54, List.forall_mem_cons.mpr ⟨lw_p55, fun _ h => absurd h List.not_mem_nil⟩⟩⟩⟩⟩⟩⟩⟩
def lw_privs : List (MethodName × Nat) := lw_privs_1 ++ (lw_privs_2 ++ (lw_privs_3 ++ (lw_privs_4)))
def lw_tbl : List Cond := k2_sels lw_privs ++ tables_1
theorem lw_privs_ok : ∀ q ∈ lw_privs, lw_okq q := by
  show ∀ q ∈ lw_privs_1 ++ (lw_privs_2 ++ (lw_privs_3 ++ (lw_privs_4))), lw_okq q
  exact List.forall_mem_append.mpr ⟨lw_r1, List.forall_mem_append.mpr ⟨lw_r2, List.forall_mem_append.mpr ⟨lw_r3, lw_r4⟩⟩⟩
-- ===== end of PART A; then your names; then what follows =====
end
section
def RX0 : String := "GapStations$Plane"
def TX0 : u_T := fun k => match k with
  | 0 => ("GapStations$Plane", "xs", "[I", true)
  | 1 => ("GapStations$Plane", "ys", "[I", true)
  | 2 => ("GapStations$Plane", "channels", "[I", true)
  | 3 => ("GapStations$Plane", "nears", "[I", true)
  | 4 => ("GapStations$Plane", "gaps", "[I", true)
  | 5 => ("GapStations$Plane", "aparts", "[I", true)
  | 6 => ("GapStations$Plane", "neighbours", "[I", true)
  | 7 => ("GapStations$Plane", "open", "[I", true)
  | 8 => ("GapStations$Plane", "fixed", "I", false)
  | _ => ("GapStations$Plane", "size", "I", false)
def tyX0 : Nat → FieldType := fun k => match k with
  | 0 => .array .int
  | 1 => .array .int
  | 2 => .array .int
  | 3 => .array .int
  | 4 => .array .int
  | 5 => .array .int
  | 6 => .array .int
  | 7 => .array .int
  | 8 => .int
  | _ => .int
theorem nmX0 : ∀ a, a < 10 → ∀ b, b < 10 → a ≠ b → (TX0 a).2.1 ≠ (TX0 b).2.1 := by decide +kernel
theorem tyX0_ok : ∀ k, k < 10 → parseFieldDescriptor (TX0 k).2.2.1 = some (tyX0 k) := by decide +kernel
abbrev cX0_init : ByteArray := prog_2_method_1_code
def yX0_init : MethodName := ⟨RX0, "<init>", "()V"⟩
abbrev cX0_copyFrom : ByteArray := prog_2_method_2_code
def yX0_copyFrom : MethodName := ⟨RX0, "copyFrom", "(LGapStations$Plane;)V"⟩
abbrev cX0_size : ByteArray := prog_2_method_3_code
def yX0_size : MethodName := ⟨RX0, "size", "()I"⟩
abbrev cX0_has : ByteArray := prog_2_method_4_code
def yX0_has : MethodName := ⟨RX0, "has", "(I)Z"⟩
abbrev cX0_x : ByteArray := prog_2_method_5_code
def yX0_x : MethodName := ⟨RX0, "x", "(I)I"⟩
abbrev cX0_y : ByteArray := prog_2_method_6_code
def yX0_y : MethodName := ⟨RX0, "y", "(I)I"⟩
abbrev cX0_isFixed : ByteArray := prog_2_method_7_code
def yX0_isFixed : MethodName := ⟨RX0, "isFixed", "(I)Z"⟩
abbrev cX0_channelOf : ByteArray := prog_2_method_8_code
def yX0_channelOf : MethodName := ⟨RX0, "channelOf", "(I)I"⟩
abbrev cX0_channelOrAbsent : ByteArray := prog_2_method_9_code
def yX0_channelOrAbsent : MethodName := ⟨RX0, "channelOrAbsent", "(I)I"⟩
abbrev cX0_between : ByteArray := prog_2_method_10_code
def yX0_between : MethodName := ⟨RX0, "between", "(II)I"⟩
abbrev cX0_whoIsAt : ByteArray := prog_2_method_11_code
def yX0_whoIsAt : MethodName := ⟨RX0, "whoIsAt", "(II)I"⟩
abbrev cX0_settle : ByteArray := prog_2_method_12_code
def yX0_settle : MethodName := ⟨RX0, "settle", "(II)I"⟩
abbrev cX0_carry : ByteArray := prog_2_method_13_code
def yX0_carry : MethodName := ⟨RX0, "carry", "(III)I"⟩
abbrev cX0_change : ByteArray := prog_2_method_14_code
def yX0_change : MethodName := ⟨RX0, "change", "(III)I"⟩
abbrev cX0_changeNear : ByteArray := prog_2_method_15_code
def yX0_changeNear : MethodName := ⟨RX0, "changeNear", "(II)Z"⟩
abbrev cX0_tune : ByteArray := prog_2_method_16_code
def yX0_tune : MethodName := ⟨RX0, "tune", "(II)V"⟩
abbrev cX0_pin : ByteArray := prog_2_method_17_code
def yX0_pin : MethodName := ⟨RX0, "pin", "(IZ)V"⟩
abbrev cX0_measure : ByteArray := prog_2_method_18_code
def yX0_measure : MethodName := ⟨RX0, "measure", "()Z"⟩
abbrev cX0_gapByRules : ByteArray := prog_2_method_19_code
def yX0_gapByRules : MethodName := ⟨RX0, "gapByRules", "(II)I"⟩
abbrev cX0_rulesInForce : ByteArray := prog_2_method_20_code
def yX0_rulesInForce : MethodName := ⟨RX0, "rulesInForce", "()I"⟩
abbrev cX0_allowedFor : ByteArray := prog_2_method_21_code
def yX0_allowedFor : MethodName := ⟨RX0, "allowedFor", "(I)I"⟩
abbrev cX0_neighboursOf : ByteArray := prog_2_method_22_code
def yX0_neighboursOf : MethodName := ⟨RX0, "neighboursOf", "(I)I"⟩
abbrev cX0_clashesOf : ByteArray := prog_2_method_23_code
def yX0_clashesOf : MethodName := ⟨RX0, "clashesOf", "(I)I"⟩
abbrev cX0_clashes : ByteArray := prog_2_method_24_code
def yX0_clashes : MethodName := ⟨RX0, "clashes", "()I"⟩
abbrev cX0_span : ByteArray := prog_2_method_25_code
def yX0_span : MethodName := ⟨RX0, "span", "()I"⟩
abbrev cX0_usedChannels : ByteArray := prog_2_method_26_code
def yX0_usedChannels : MethodName := ⟨RX0, "usedChannels", "()I"⟩
abbrev cX0_tuned : ByteArray := prog_2_method_27_code
def yX0_tuned : MethodName := ⟨RX0, "tuned", "()I"⟩
abbrev cX0_channelSum : ByteArray := prog_2_method_28_code
def yX0_channelSum : MethodName := ⟨RX0, "channelSum", "()I"⟩
abbrev cX0_fixedBits : ByteArray := prog_2_method_29_code
def yX0_fixedBits : MethodName := ⟨RX0, "fixedBits", "()I"⟩
abbrev cX0_rankedAt : ByteArray := prog_2_method_30_code
def yX0_rankedAt : MethodName := ⟨RX0, "rankedAt", "(I)I"⟩
abbrev cX0_tuneAll : ByteArray := prog_2_method_31_code
def yX0_tuneAll : MethodName := ⟨RX0, "tuneAll", "()I"⟩
abbrev cX0_tightest : ByteArray := prog_2_method_32_code
def yX0_tightest : MethodName := ⟨RX0, "tightest", "(I)I"⟩
abbrev cX0_give : ByteArray := prog_2_method_33_code
def yX0_give : MethodName := ⟨RX0, "give", "(II)V"⟩
abbrev cX0_swapChain : ByteArray := prog_2_method_34_code
def yX0_swapChain : MethodName := ⟨RX0, "swapChain", "(II)I"⟩
abbrev cX0_chainOf : ByteArray := prog_2_method_35_code
def yX0_chainOf : MethodName := ⟨RX0, "chainOf", "(II)I"⟩
abbrev cX0_neighboursOn : ByteArray := prog_2_method_36_code
def yX0_neighboursOn : MethodName := ⟨RX0, "neighboursOn", "(II)I"⟩
abbrev cX0_swap : ByteArray := prog_2_method_37_code
def yX0_swap : MethodName := ⟨RX0, "swap", "(II)V"⟩
def RX1 : String := "GapStations$Rows"
def TX1 : u_T := fun k => match k with
  | 0 => ("GapStations$Rows", "limit", "I", true)
  | 1 => ("GapStations$Rows", "firsts", "[I", true)
  | 2 => ("GapStations$Rows", "seconds", "[I", true)
  | _ => ("GapStations$Rows", "size", "I", false)
def tyX1 : Nat → FieldType := fun k => match k with
  | 0 => .int
  | 1 => .array .int
  | 2 => .array .int
  | _ => .int
theorem nmX1 : ∀ a, a < 4 → ∀ b, b < 4 → a ≠ b → (TX1 a).2.1 ≠ (TX1 b).2.1 := by decide +kernel
theorem tyX1_ok : ∀ k, k < 4 → parseFieldDescriptor (TX1 k).2.2.1 = some (tyX1 k) := by decide +kernel
abbrev cX1_init : ByteArray := prog_3_method_1_code
def yX1_init : MethodName := ⟨RX1, "<init>", "(I)V"⟩
abbrev cX1_size : ByteArray := prog_3_method_2_code
def yX1_size : MethodName := ⟨RX1, "size", "()I"⟩
abbrev cX1_clear : ByteArray := prog_3_method_3_code
def yX1_clear : MethodName := ⟨RX1, "clear", "()I"⟩
abbrev cX1_append : ByteArray := prog_3_method_4_code
def yX1_append : MethodName := ⟨RX1, "append", "(II)I"⟩
abbrev cX1_first : ByteArray := prog_3_method_5_code
def yX1_first : MethodName := ⟨RX1, "first", "(I)I"⟩
abbrev cX1_second : ByteArray := prog_3_method_6_code
def yX1_second : MethodName := ⟨RX1, "second", "(I)I"⟩
abbrev cX1_copyFrom : ByteArray := prog_3_method_7_code
def yX1_copyFrom : MethodName := ⟨RX1, "copyFrom", "(LGapStations$Rows;)V"⟩
def RX2 : String := "GapStations$Sheet"
def TX2 : u_T := fun k => match k with
  | 0 => ("GapStations$Sheet", "plane", "LGapStations$Plane;", true)
  | 1 => ("GapStations$Sheet", "seen", "LGapStations$Rows;", true)
  | 2 => ("GapStations$Sheet", "plan", "LGapStations$Rows;", true)
  | _ => ("GapStations$Sheet", "book", "LGapStations$Rows;", true)
def tyX2 : Nat → FieldType := fun k => match k with
  | 0 => .object "GapStations$Plane"
  | 1 => .object "GapStations$Rows"
  | 2 => .object "GapStations$Rows"
  | _ => .object "GapStations$Rows"
theorem nmX2 : ∀ a, a < 4 → ∀ b, b < 4 → a ≠ b → (TX2 a).2.1 ≠ (TX2 b).2.1 := by decide +kernel
theorem tyX2_ok : ∀ k, k < 4 → parseFieldDescriptor (TX2 k).2.2.1 = some (tyX2 k) := by decide +kernel
abbrev cX2_init : ByteArray := prog_4_method_1_code
def yX2_init : MethodName := ⟨RX2, "<init>", "()V"⟩
abbrev cX2_copyFrom : ByteArray := prog_4_method_2_code
def yX2_copyFrom : MethodName := ⟨RX2, "copyFrom", "(LGapStations$Sheet;)V"⟩
def RX3 : String := "GapStations$Tape"
def TX3 : u_T := fun k => match k with
  | 0 => ("GapStations$Tape", "items", "[J", true)
  | 1 => ("GapStations$Tape", "sort", "I", false)
  | _ => ("GapStations$Tape", "length", "I", false)
def tyX3 : Nat → FieldType := fun k => match k with
  | 0 => .array .long
  | 1 => .int
  | _ => .int
theorem nmX3 : ∀ a, a < 3 → ∀ b, b < 3 → a ≠ b → (TX3 a).2.1 ≠ (TX3 b).2.1 := by decide +kernel
theorem tyX3_ok : ∀ k, k < 3 → parseFieldDescriptor (TX3 k).2.2.1 = some (tyX3 k) := by decide +kernel
abbrev cX3_init : ByteArray := prog_5_method_1_code
def yX3_init : MethodName := ⟨RX3, "<init>", "()V"⟩
abbrev cX3_isBlank : ByteArray := prog_5_method_2_code
def yX3_isBlank : MethodName := ⟨RX3, "isBlank", "()Z"⟩
abbrev cX3_sort : ByteArray := prog_5_method_3_code
def yX3_sort : MethodName := ⟨RX3, "sort", "()I"⟩
abbrev cX3_become : ByteArray := prog_5_method_4_code
def yX3_become : MethodName := ⟨RX3, "become", "(II)V"⟩
abbrev cX3_holds : ByteArray := prog_5_method_5_code
def yX3_holds : MethodName := ⟨RX3, "holds", "(I)Z"⟩
abbrev cX3_holdsRun : ByteArray := prog_5_method_6_code
def yX3_holdsRun : MethodName := ⟨RX3, "holdsRun", "(II)Z"⟩
abbrev cX3_get : ByteArray := prog_5_method_7_code
def yX3_get : MethodName := ⟨RX3, "get", "(I)J"⟩
abbrev cX3_put : ByteArray := prog_5_method_8_code
def yX3_put : MethodName := ⟨RX3, "put", "(IJ)V"⟩
abbrev cX3_take : ByteArray := prog_5_method_9_code
def yX3_take : MethodName := ⟨RX3, "take", "(ILGapStations$Tape;II)V"⟩
abbrev cX3_cut : ByteArray := prog_5_method_10_code
def yX3_cut : MethodName := ⟨RX3, "cut", "(J)J"⟩
def RX4 : String := "GapStations$Text"
def TX4 : u_T := fun k => match k with
  | 0 => ("GapStations$Text", "signs", "[B", true)
  | 1 => ("GapStations$Text", "length", "I", false)
  | 2 => ("GapStations$Text", "place", "I", false)
  | 3 => ("GapStations$Text", "fault", "I", false)
  | 4 => ("GapStations$Text", "clauses", "I", false)
  | 5 => ("GapStations$Text", "xs", "[I", true)
  | 6 => ("GapStations$Text", "ys", "[I", true)
  | 7 => ("GapStations$Text", "channels", "[I", true)
  | _ => ("GapStations$Text", "fixed", "[Z", true)
def tyX4 : Nat → FieldType := fun k => match k with
  | 0 => .array .byte
  | 1 => .int
  | 2 => .int
  | 3 => .int
  | 4 => .int
  | 5 => .array .int
  | 6 => .array .int
  | 7 => .array .int
  | _ => .array .boolean
theorem nmX4 : ∀ a, a < 9 → ∀ b, b < 9 → a ≠ b → (TX4 a).2.1 ≠ (TX4 b).2.1 := by decide +kernel
theorem tyX4_ok : ∀ k, k < 9 → parseFieldDescriptor (TX4 k).2.2.1 = some (tyX4 k) := by decide +kernel
abbrev cX4_init : ByteArray := prog_6_method_1_code
def yX4_init : MethodName := ⟨RX4, "<init>", "()V"⟩
abbrev cX4_length : ByteArray := prog_6_method_2_code
def yX4_length : MethodName := ⟨RX4, "length", "()I"⟩
abbrev cX4_append : ByteArray := prog_6_method_3_code
def yX4_append : MethodName := ⟨RX4, "append", "(I)I"⟩
abbrev cX4_clear : ByteArray := prog_6_method_4_code
def yX4_clear : MethodName := ⟨RX4, "clear", "()V"⟩
abbrev cX4_clauses : ByteArray := prog_6_method_5_code
def yX4_clauses : MethodName := ⟨RX4, "clauses", "()I"⟩
abbrev cX4_x : ByteArray := prog_6_method_6_code
def yX4_x : MethodName := ⟨RX4, "x", "(I)I"⟩
abbrev cX4_y : ByteArray := prog_6_method_7_code
def yX4_y : MethodName := ⟨RX4, "y", "(I)I"⟩
abbrev cX4_channelAt : ByteArray := prog_6_method_8_code
def yX4_channelAt : MethodName := ⟨RX4, "channelAt", "(I)I"⟩
abbrev cX4_isFixedAt : ByteArray := prog_6_method_9_code
def yX4_isFixedAt : MethodName := ⟨RX4, "isFixedAt", "(I)Z"⟩
abbrev cX4_parse : ByteArray := prog_6_method_10_code
def yX4_parse : MethodName := ⟨RX4, "parse", "()I"⟩
abbrev cX4_readClause : ByteArray := prog_6_method_11_code
def yX4_readClause : MethodName := ⟨RX4, "readClause", "(I)V"⟩
abbrev cX4_isNext : ByteArray := prog_6_method_12_code
def yX4_isNext : MethodName := ⟨RX4, "isNext", "(C)Z"⟩
abbrev cX4_expect : ByteArray := prog_6_method_13_code
def yX4_expect : MethodName := ⟨RX4, "expect", "(C)V"⟩
abbrev cX4_readNumber : ByteArray := prog_6_method_14_code
def yX4_readNumber : MethodName := ⟨RX4, "readNumber", "(I)I"⟩
abbrev cX4_digit : ByteArray := prog_6_method_15_code
def yX4_digit : MethodName := ⟨RX4, "digit", "()I"⟩
def RX5 : String := "GapStations$Widths"
def TX5 : u_T := fun k => match k with
  | 0 => ("GapStations$Widths", "friends", "[I", true)
  | _ => ("GapStations$Widths", "left", "[I", true)
def tyX5 : Nat → FieldType := fun k => match k with
  | 0 => .array .int
  | _ => .array .int
theorem nmX5 : ∀ a, a < 2 → ∀ b, b < 2 → a ≠ b → (TX5 a).2.1 ≠ (TX5 b).2.1 := by decide +kernel
theorem tyX5_ok : ∀ k, k < 2 → parseFieldDescriptor (TX5 k).2.2.1 = some (tyX5 k) := by decide +kernel
abbrev cX5_init : ByteArray := prog_7_method_1_code
def yX5_init : MethodName := ⟨RX5, "<init>", "()V"⟩
abbrev cX5_largestClique : ByteArray := prog_7_method_2_code
def yX5_largestClique : MethodName := ⟨RX5, "largestClique", "(LGapStations$Plane;I)I"⟩
abbrev cX5_befriend : ByteArray := prog_7_method_3_code
def yX5_befriend : MethodName := ⟨RX5, "befriend", "(LGapStations$Plane;I)V"⟩
abbrev cX5_areFriends : ByteArray := prog_7_method_4_code
def yX5_areFriends : MethodName := ⟨RX5, "areFriends", "(II)Z"⟩
abbrev cX5_bound : ByteArray := prog_7_method_5_code
def yX5_bound : MethodName := ⟨RX5, "bound", "(LGapStations$Plane;)I"⟩
abbrev cX5_leastWidth : ByteArray := prog_7_method_6_code
def yX5_leastWidth : MethodName := ⟨RX5, "leastWidth", "(LGapStations$Plane;)I"⟩
abbrev cX5_isWideEnough : ByteArray := prog_7_method_7_code
def yX5_isWideEnough : MethodName := ⟨RX5, "isWideEnough", "(LGapStations$Plane;I)Z"⟩
abbrev cX5_areSeated : ByteArray := prog_7_method_8_code
def yX5_areSeated : MethodName := ⟨RX5, "areSeated", "(LGapStations$Widths;LGapStations$Plane;II)Z"⟩
abbrev cX5_lowerHalf : ByteArray := prog_7_method_9_code
def yX5_lowerHalf : MethodName := ⟨RX5, "lowerHalf", "(I)I"⟩
abbrev cX5_tightest : ByteArray := prog_7_method_10_code
def yX5_tightest : MethodName := ⟨RX5, "tightest", "(LGapStations$Plane;II)I"⟩
abbrev cX5_weightAmong : ByteArray := prog_7_method_11_code
def yX5_weightAmong : MethodName := ⟨RX5, "weightAmong", "(LGapStations$Plane;II)I"⟩
abbrev cX5_leaves : ByteArray := prog_7_method_12_code
def yX5_leaves : MethodName := ⟨RX5, "leaves", "(LGapStations$Plane;IIII)Z"⟩
abbrev cX5_leftAt : ByteArray := prog_7_method_13_code
def yX5_leftAt : MethodName := ⟨RX5, "leftAt", "(II)I"⟩
abbrev cX5_leave : ByteArray := prog_7_method_14_code
def yX5_leave : MethodName := ⟨RX5, "leave", "(III)V"⟩
def RX6 : String := "GapStations"
def TX6 : u_T := fun k => match k with
  | 0 => ("GapStations", "now", "LGapStations$Sheet;", true)
  | 1 => ("GapStations", "kept", "LGapStations$Sheet;", true)
  | 2 => ("GapStations", "isKept", "Z", false)
  | 3 => ("GapStations", "trial", "LGapStations$Plane;", true)
  | 4 => ("GapStations", "widths", "LGapStations$Widths;", true)
  | 5 => ("GapStations", "text", "LGapStations$Text;", true)
  | _ => ("GapStations", "tapes", "[LGapStations$Tape;", true)
def tyX6 : Nat → FieldType := fun k => match k with
  | 0 => .object "GapStations$Sheet"
  | 1 => .object "GapStations$Sheet"
  | 2 => .boolean
  | 3 => .object "GapStations$Plane"
  | 4 => .object "GapStations$Widths"
  | 5 => .object "GapStations$Text"
  | _ => .array (.object "GapStations$Tape")
theorem nmX6 : ∀ a, a < 7 → ∀ b, b < 7 → a ≠ b → (TX6 a).2.1 ≠ (TX6 b).2.1 := by decide +kernel
theorem tyX6_ok : ∀ k, k < 7 → parseFieldDescriptor (TX6 k).2.2.1 = some (tyX6 k) := by decide +kernel
abbrev cX6_init : ByteArray := prog_1_method_1_code
def yX6_init : MethodName := ⟨RX6, "<init>", "()V"⟩
abbrev cX6_station : ByteArray := prog_1_method_2_code
def yX6_station : MethodName := ⟨RX6, "station", "(II)I"⟩
abbrev cX6_rule : ByteArray := prog_1_method_3_code
def yX6_rule : MethodName := ⟨RX6, "rule", "(III)I"⟩
abbrev cX6_channel : ByteArray := prog_1_method_4_code
def yX6_channel : MethodName := ⟨RX6, "channel", "(II)I"⟩
abbrev cX6_fix : ByteArray := prog_1_method_5_code
def yX6_fix : MethodName := ⟨RX6, "fix", "(IZ)I"⟩
abbrev cX6_move : ByteArray := prog_1_method_6_code
def yX6_move : MethodName := ⟨RX6, "move", "(III)I"⟩
abbrev cX6_feed : ByteArray := prog_1_method_7_code
def yX6_feed : MethodName := ⟨RX6, "feed", "(I)I"⟩
abbrev cX6_read : ByteArray := prog_1_method_8_code
def yX6_read : MethodName := ⟨RX6, "read", "()I"⟩
abbrev cX6_of : ByteArray := prog_1_method_9_code
def yX6_of : MethodName := ⟨RX6, "of", "(II)I"⟩
abbrev cX6_apart : ByteArray := prog_1_method_10_code
def yX6_apart : MethodName := ⟨RX6, "apart", "(II)I"⟩
abbrev cX6_at : ByteArray := prog_1_method_11_code
def yX6_at : MethodName := ⟨RX6, "at", "(II)I"⟩
abbrev cX6_assign : ByteArray := prog_1_method_12_code
def yX6_assign : MethodName := ⟨RX6, "assign", "()I"⟩
abbrev cX6_exchange : ByteArray := prog_1_method_13_code
def yX6_exchange : MethodName := ⟨RX6, "exchange", "(II)I"⟩
abbrev cX6_told : ByteArray := prog_1_method_14_code
def yX6_told : MethodName := ⟨RX6, "told", "(I)I"⟩
abbrev cX6_clique : ByteArray := prog_1_method_15_code
def yX6_clique : MethodName := ⟨RX6, "clique", "(I)I"⟩
abbrev cX6_sorted : ByteArray := prog_1_method_16_code
def yX6_sorted : MethodName := ⟨RX6, "sorted", "(I)I"⟩
abbrev cX6_see : ByteArray := prog_1_method_17_code
def yX6_see : MethodName := ⟨RX6, "see", "(II)I"⟩
abbrev cX6_fits : ByteArray := prog_1_method_18_code
def yX6_fits : MethodName := ⟨RX6, "fits", "(II)I"⟩
abbrev cX6_odds : ByteArray := prog_1_method_19_code
def yX6_odds : MethodName := ⟨RX6, "odds", "(II)J"⟩
abbrev cX6_mean : ByteArray := prog_1_method_20_code
def yX6_mean : MethodName := ⟨RX6, "mean", "(I)J"⟩
abbrev cX6_plan : ByteArray := prog_1_method_21_code
def yX6_plan : MethodName := ⟨RX6, "plan", "(II)I"⟩
abbrev cX6_ends : ByteArray := prog_1_method_22_code
def yX6_ends : MethodName := ⟨RX6, "ends", "(I)I"⟩
abbrev cX6_goAhead : ByteArray := prog_1_method_23_code
def yX6_goAhead : MethodName := ⟨RX6, "goAhead", "(II)V"⟩
abbrev cX6_book : ByteArray := prog_1_method_24_code
def yX6_book : MethodName := ⟨RX6, "book", "(II)I"⟩
abbrev cX6_looked : ByteArray := prog_1_method_25_code
def yX6_looked : MethodName := ⟨RX6, "looked", "()I"⟩
abbrev cX6_judge : ByteArray := prog_1_method_26_code
def yX6_judge : MethodName := ⟨RX6, "judge", "(II)I"⟩
abbrev cX6_image : ByteArray := prog_1_method_27_code
def yX6_image : MethodName := ⟨RX6, "image", "()I"⟩
abbrev cX6_undo : ByteArray := prog_1_method_28_code
def yX6_undo : MethodName := ⟨RX6, "undo", "()I"⟩
abbrev cX6_count : ByteArray := prog_1_method_29_code
def yX6_count : MethodName := ⟨RX6, "count", "(I)I"⟩
abbrev cX6_tape : ByteArray := prog_1_method_30_code
def yX6_tape : MethodName := ⟨RX6, "tape", "(III)I"⟩
abbrev cX6_item : ByteArray := prog_1_method_31_code
def yX6_item : MethodName := ⟨RX6, "item", "(IIJ)I"⟩
abbrev cX6_peek : ByteArray := prog_1_method_32_code
def yX6_peek : MethodName := ⟨RX6, "peek", "(II)J"⟩
abbrev cX6_shift : ByteArray := prog_1_method_33_code
def yX6_shift : MethodName := ⟨RX6, "shift", "(IIIII)I"⟩
abbrev cX6_isOnPlane : ByteArray := prog_1_method_34_code
def yX6_isOnPlane : MethodName := ⟨RX6, "isOnPlane", "(II)Z"⟩
abbrev cX6_isChannel : ByteArray := prog_1_method_35_code
def yX6_isChannel : MethodName := ⟨RX6, "isChannel", "(I)Z"⟩
abbrev cX6_isRule : ByteArray := prog_1_method_36_code
def yX6_isRule : MethodName := ⟨RX6, "isRule", "(I)Z"⟩
abbrev cX6_isNear : ByteArray := prog_1_method_37_code
def yX6_isNear : MethodName := ⟨RX6, "isNear", "(I)Z"⟩
abbrev cX6_isGap : ByteArray := prog_1_method_38_code
def yX6_isGap : MethodName := ⟨RX6, "isGap", "(I)Z"⟩
abbrev cX6_isPart : ByteArray := prog_1_method_39_code
def yX6_isPart : MethodName := ⟨RX6, "isPart", "(I)Z"⟩
abbrev cX6_isTape : ByteArray := prog_1_method_40_code
def yX6_isTape : MethodName := ⟨RX6, "isTape", "(I)Z"⟩
abbrev cX6_firstOtherwise : ByteArray := prog_1_method_41_code
def yX6_firstOtherwise : MethodName := ⟨RX6, "firstOtherwise", "(LGapStations$Rows;LGapStations$Plane;)I"⟩
abbrev cX6_band : ByteArray := prog_1_method_42_code
def yX6_band : MethodName := ⟨RX6, "band", "(II)I"⟩
abbrev cX6_leastOf : ByteArray := prog_1_method_43_code
def yX6_leastOf : MethodName := ⟨RX6, "leastOf", "(I)I"⟩
abbrev cX6_partOf : ByteArray := prog_1_method_44_code
def yX6_partOf : MethodName := ⟨RX6, "partOf", "(III)J"⟩
def RX7 : String := "GapStationsModel"
def TX7 : u_T := fun k => match k with
  | 0 => ("GapStationsModel", "g", "[I", true)
  | 1 => ("GapStationsModel", "was", "[I", true)
  | 2 => ("GapStationsModel", "kept", "[I", true)
  | 3 => ("GapStationsModel", "hasImage", "Z", false)
  | 4 => ("GapStationsModel", "text", "[I", true)
  | 5 => ("GapStationsModel", "texted", "I", false)
  | 6 => ("GapStationsModel", "place", "I", false)
  | 7 => ("GapStationsModel", "clauses", "[I", true)
  | 8 => ("GapStationsModel", "sorts", "[I", true)
  | 9 => ("GapStationsModel", "sizes", "[I", true)
  | _ => ("GapStationsModel", "items", "[J", true)
def tyX7 : Nat → FieldType := fun k => match k with
  | 0 => .array .int
  | 1 => .array .int
  | 2 => .array .int
  | 3 => .boolean
  | 4 => .array .int
  | 5 => .int
  | 6 => .int
  | 7 => .array .int
  | 8 => .array .int
  | 9 => .array .int
  | _ => .array .long
theorem nmX7 : ∀ a, a < 11 → ∀ b, b < 11 → a ≠ b → (TX7 a).2.1 ≠ (TX7 b).2.1 := by decide +kernel
theorem tyX7_ok : ∀ k, k < 11 → parseFieldDescriptor (TX7 k).2.2.1 = some (tyX7 k) := by decide +kernel
abbrev cX7_init : ByteArray := prog_9_method_1_code
def yX7_init : MethodName := ⟨RX7, "<init>", "()V"⟩
abbrev cX7_in : ByteArray := prog_9_method_2_code
def yX7_in : MethodName := ⟨RX7, "in", "(JJJ)Z"⟩
abbrev cX7_copies : ByteArray := prog_9_method_3_code
def yX7_copies : MethodName := ⟨RX7, "copies", "([I[I)V"⟩
abbrev cX7_isStation : ByteArray := prog_9_method_4_code
def yX7_isStation : MethodName := ⟨RX7, "isStation", "(I)Z"⟩
abbrev cX7_x : ByteArray := prog_9_method_5_code
def yX7_x : MethodName := ⟨RX7, "x", "(I)I"⟩
abbrev cX7_y : ByteArray := prog_9_method_6_code
def yX7_y : MethodName := ⟨RX7, "y", "(I)I"⟩
abbrev cX7_channelOf : ByteArray := prog_9_method_7_code
def yX7_channelOf : MethodName := ⟨RX7, "channelOf", "(I)I"⟩
abbrev cX7_isFixed : ByteArray := prog_9_method_8_code
def yX7_isFixed : MethodName := ⟨RX7, "isFixed", "(I)Z"⟩
abbrev cX7_has : ByteArray := prog_9_method_9_code
def yX7_has : MethodName := ⟨RX7, "has", "(II)V"⟩
abbrev cX7_stationAt : ByteArray := prog_9_method_10_code
def yX7_stationAt : MethodName := ⟨RX7, "stationAt", "(II)I"⟩
abbrev cX7_isPlace : ByteArray := prog_9_method_11_code
def yX7_isPlace : MethodName := ⟨RX7, "isPlace", "(II)Z"⟩
abbrev cX7_station : ByteArray := prog_9_method_12_code
def yX7_station : MethodName := ⟨RX7, "station", "(II)I"⟩
abbrev cX7_rule : ByteArray := prog_9_method_13_code
def yX7_rule : MethodName := ⟨RX7, "rule", "(III)I"⟩
abbrev cX7_toldOf : ByteArray := prog_9_method_14_code
def yX7_toldOf : MethodName := ⟨RX7, "toldOf", "(I)I"⟩
abbrev cX7_channel : ByteArray := prog_9_method_15_code
def yX7_channel : MethodName := ⟨RX7, "channel", "(II)I"⟩
abbrev cX7_fix : ByteArray := prog_9_method_16_code
def yX7_fix : MethodName := ⟨RX7, "fix", "(IZ)I"⟩
abbrev cX7_square : ByteArray := prog_9_method_17_code
def yX7_square : MethodName := ⟨RX7, "square", "(I)I"⟩
abbrev cX7_move : ByteArray := prog_9_method_18_code
def yX7_move : MethodName := ⟨RX7, "move", "(III)I"⟩
abbrev cX7_feed : ByteArray := prog_9_method_19_code
def yX7_feed : MethodName := ⟨RX7, "feed", "(I)I"⟩
abbrev cX7_byteAt : ByteArray := prog_9_method_20_code
def yX7_byteAt : MethodName := ⟨RX7, "byteAt", "(I)I"⟩
abbrev cX7_isNumber : ByteArray := prog_9_method_21_code
def yX7_isNumber : MethodName := ⟨RX7, "isNumber", "(II)Z"⟩
abbrev cX7_isClause : ByteArray := prog_9_method_22_code
def yX7_isClause : MethodName := ⟨RX7, "isClause", "(I)Z"⟩
abbrev cX7_read : ByteArray := prog_9_method_23_code
def yX7_read : MethodName := ⟨RX7, "read", "()I"⟩
abbrev cX7_apartOf : ByteArray := prog_9_method_24_code
def yX7_apartOf : MethodName := ⟨RX7, "apartOf", "(II)I"⟩
abbrev cX7_isClash : ByteArray := prog_9_method_25_code
def yX7_isClash : MethodName := ⟨RX7, "isClash", "(II)Z"⟩
abbrev cX7_clashesOf : ByteArray := prog_9_method_26_code
def yX7_clashesOf : MethodName := ⟨RX7, "clashesOf", "(I)I"⟩
abbrev cX7_clashes : ByteArray := prog_9_method_27_code
def yX7_clashes : MethodName := ⟨RX7, "clashes", "()I"⟩
abbrev cX7_isAllowed : ByteArray := prog_9_method_28_code
def yX7_isAllowed : MethodName := ⟨RX7, "isAllowed", "(II)Z"⟩
abbrev cX7_allowed : ByteArray := prog_9_method_29_code
def yX7_allowed : MethodName := ⟨RX7, "allowed", "(II)I"⟩
abbrev cX7_leastAllowed : ByteArray := prog_9_method_30_code
def yX7_leastAllowed : MethodName := ⟨RX7, "leastAllowed", "(I)I"⟩
abbrev cX7_apartMany : ByteArray := prog_9_method_31_code
def yX7_apartMany : MethodName := ⟨RX7, "apartMany", "(I)I"⟩
abbrev cX7_of : ByteArray := prog_9_method_32_code
def yX7_of : MethodName := ⟨RX7, "of", "(II)I"⟩
abbrev cX7_apart : ByteArray := prog_9_method_33_code
def yX7_apart : MethodName := ⟨RX7, "apart", "(II)I"⟩
abbrev cX7_at : ByteArray := prog_9_method_34_code
def yX7_at : MethodName := ⟨RX7, "at", "(II)I"⟩
abbrev cX7_nextOne : ByteArray := prog_9_method_35_code
def yX7_nextOne : MethodName := ⟨RX7, "nextOne", "(I)I"⟩
abbrev cX7_isAhead : ByteArray := prog_9_method_36_code
def yX7_isAhead : MethodName := ⟨RX7, "isAhead", "(II)Z"⟩
abbrev cX7_assigned : ByteArray := prog_9_method_37_code
def yX7_assigned : MethodName := ⟨RX7, "assigned", "()I"⟩
abbrev cX7_assign : ByteArray := prog_9_method_38_code
def yX7_assign : MethodName := ⟨RX7, "assign", "()I"⟩
abbrev cX7_exchange : ByteArray := prog_9_method_39_code
def yX7_exchange : MethodName := ⟨RX7, "exchange", "(II)I"⟩
abbrev cX7_turns : ByteArray := prog_9_method_40_code
def yX7_turns : MethodName := ⟨RX7, "turns", "(II)V"⟩
abbrev cX7_span : ByteArray := prog_9_method_41_code
def yX7_span : MethodName := ⟨RX7, "span", "()I"⟩
abbrev cX7_isClique : ByteArray := prog_9_method_42_code
def yX7_isClique : MethodName := ⟨RX7, "isClique", "(II)Z"⟩
abbrev cX7_cliqueBy : ByteArray := prog_9_method_43_code
def yX7_cliqueBy : MethodName := ⟨RX7, "cliqueBy", "(I)I"⟩
abbrev cX7_clique : ByteArray := prog_9_method_44_code
def yX7_clique : MethodName := ⟨RX7, "clique", "(I)I"⟩
abbrev cX7_bound : ByteArray := prog_9_method_45_code
def yX7_bound : MethodName := ⟨RX7, "bound", "()I"⟩
abbrev cX7_can : ByteArray := prog_9_method_46_code
def yX7_can : MethodName := ⟨RX7, "can", "(I)Z"⟩
abbrev cX7_least : ByteArray := prog_9_method_47_code
def yX7_least : MethodName := ⟨RX7, "least", "()I"⟩
abbrev cX7_unlike : ByteArray := prog_9_method_48_code
def yX7_unlike : MethodName := ⟨RX7, "unlike", "()I"⟩
abbrev cX7_having : ByteArray := prog_9_method_49_code
def yX7_having : MethodName := ⟨RX7, "having", "()I"⟩
abbrev cX7_fixedSet : ByteArray := prog_9_method_50_code
def yX7_fixedSet : MethodName := ⟨RX7, "fixedSet", "()I"⟩
abbrev cX7_told : ByteArray := prog_9_method_51_code
def yX7_told : MethodName := ⟨RX7, "told", "(I)I"⟩
abbrev cX7_sorted : ByteArray := prog_9_method_52_code
def yX7_sorted : MethodName := ⟨RX7, "sorted", "(I)I"⟩
abbrev cX7_see : ByteArray := prog_9_method_53_code
def yX7_see : MethodName := ⟨RX7, "see", "(II)I"⟩
abbrev cX7_isSeen : ByteArray := prog_9_method_54_code
def yX7_isSeen : MethodName := ⟨RX7, "isSeen", "()Z"⟩
abbrev cX7_fits : ByteArray := prog_9_method_55_code
def yX7_fits : MethodName := ⟨RX7, "fits", "(II)I"⟩
abbrev cX7_lowest : ByteArray := prog_9_method_56_code
def yX7_lowest : MethodName := ⟨RX7, "lowest", "(JJI)J"⟩
abbrev cX7_odds : ByteArray := prog_9_method_57_code
def yX7_odds : MethodName := ⟨RX7, "odds", "(II)J"⟩
abbrev cX7_mean : ByteArray := prog_9_method_58_code
def yX7_mean : MethodName := ⟨RX7, "mean", "(I)J"⟩
abbrev cX7_plan : ByteArray := prog_9_method_59_code
def yX7_plan : MethodName := ⟨RX7, "plan", "(II)I"⟩
abbrev cX7_planGoes : ByteArray := prog_9_method_60_code
def yX7_planGoes : MethodName := ⟨RX7, "planGoes", "(II)V"⟩
abbrev cX7_ends : ByteArray := prog_9_method_61_code
def yX7_ends : MethodName := ⟨RX7, "ends", "(I)I"⟩
abbrev cX7_book : ByteArray := prog_9_method_62_code
def yX7_book : MethodName := ⟨RX7, "book", "(II)I"⟩
abbrev cX7_looked : ByteArray := prog_9_method_63_code
def yX7_looked : MethodName := ⟨RX7, "looked", "()I"⟩
abbrev cX7_image : ByteArray := prog_9_method_64_code
def yX7_image : MethodName := ⟨RX7, "image", "()I"⟩
abbrev cX7_undo : ByteArray := prog_9_method_65_code
def yX7_undo : MethodName := ⟨RX7, "undo", "()I"⟩
abbrev cX7_rules : ByteArray := prog_9_method_66_code
def yX7_rules : MethodName := ⟨RX7, "rules", "()I"⟩
abbrev cX7_count : ByteArray := prog_9_method_67_code
def yX7_count : MethodName := ⟨RX7, "count", "(I)I"⟩
abbrev cX7_judge : ByteArray := prog_9_method_68_code
def yX7_judge : MethodName := ⟨RX7, "judge", "(II)I"⟩
abbrev cX7_tape : ByteArray := prog_9_method_69_code
def yX7_tape : MethodName := ⟨RX7, "tape", "(III)I"⟩
abbrev cX7_lowestBits : ByteArray := prog_9_method_70_code
def yX7_lowestBits : MethodName := ⟨RX7, "lowestBits", "(IJ)J"⟩
abbrev cX7_item : ByteArray := prog_9_method_71_code
def yX7_item : MethodName := ⟨RX7, "item", "(IIJ)I"⟩
abbrev cX7_peek : ByteArray := prog_9_method_72_code
def yX7_peek : MethodName := ⟨RX7, "peek", "(II)J"⟩
abbrev cX7_shift : ByteArray := prog_9_method_73_code
def yX7_shift : MethodName := ⟨RX7, "shift", "(IIIII)I"⟩
def RJ6 : String := "java/lang/Integer"
def TJ6 : u_T := fun k => match k with
  | _ => ("", "", "", false)
def tyJ6 : Nat → FieldType := fun k => match k with
  | _ => .int
theorem nmJ6 : ∀ a, a < 0 → ∀ b, b < 0 → a ≠ b → (TJ6 a).2.1 ≠ (TJ6 b).2.1 := by decide +kernel
theorem tyJ6_ok : ∀ k, k < 0 → parseFieldDescriptor (TJ6 k).2.2.1 = some (tyJ6 k) := by decide +kernel
abbrev cJ6_bitCount_0f7a4 : ByteArray := prog_10_method_49_code
def yJ6_bitCount_0f7a4 : MethodName := ⟨RJ6, "bitCount", "(I)I"⟩
def RJ9 : String := "java/lang/Math"
def TJ9 : u_T := fun k => match k with
  | _ => ("", "", "", false)
def tyJ9 : Nat → FieldType := fun k => match k with
  | _ => .int
theorem nmJ9 : ∀ a, a < 0 → ∀ b, b < 0 → a ≠ b → (TJ9 a).2.1 ≠ (TJ9 b).2.1 := by decide +kernel
theorem tyJ9_ok : ∀ k, k < 0 → parseFieldDescriptor (TJ9 k).2.2.1 = some (tyJ9 k) := by decide +kernel
abbrev cJ9_abs_0f7a4 : ByteArray := prog_11_method_59_code
def yJ9_abs_0f7a4 : MethodName := ⟨RJ9, "abs", "(I)I"⟩
abbrev cJ9_max_7cf53 : ByteArray := prog_11_method_65_code
def yJ9_max_7cf53 : MethodName := ⟨RJ9, "max", "(II)I"⟩
abbrev cJ9_min_7cf53 : ByteArray := prog_11_method_69_code
def yJ9_min_7cf53 : MethodName := ⟨RJ9, "min", "(II)I"⟩
def RJ10 : String := "java/lang/System"
def TJ10 : u_T := fun k => match k with
  | _ => ("", "", "", false)
def tyJ10 : Nat → FieldType := fun k => match k with
  | _ => .int
theorem nmJ10 : ∀ a, a < 0 → ∀ b, b < 0 → a ≠ b → (TJ10 a).2.1 ≠ (TJ10 b).2.1 := by decide +kernel
theorem tyJ10_ok : ∀ k, k < 0 → parseFieldDescriptor (TJ10 k).2.2.1 = some (tyJ10 k) := by decide +kernel
def RL : String := "GapStationsLaw"
abbrev cL_law : ByteArray := code
def yL_law : MethodName := ⟨RL, "law", "([I)Z"⟩
abbrev vwCl : List vw_C := [(RX0, TX0, 10), (RX1, TX1, 4), (RX2, TX2, 4), (RX3, TX3, 3), (RX4, TX4, 9), (RX5, TX5, 2), (RX6, TX6, 7), (RX7, TX7, 11)]
end
section
theorem dX0_init_0 : decode cX0_init 0 = .ok (.aload_n 0, 1) := by decide +kernel
theorem dX0_init_1 : decode cX0_init 1 = .ok (.invokespecial 3, 3) := by decide +kernel
theorem dX0_init_4 : decode cX0_init 4 = .ok (.aload_n 0, 1) := by decide +kernel
theorem dX0_init_5 : decode cX0_init 5 = .ok (.bipush 8, 2) := by decide +kernel
theorem dX0_init_7 : decode cX0_init 7 = .ok (.newarray .int, 2) := by decide +kernel
theorem dX0_init_9 : decode cX0_init 9 = .ok (.putfield 9, 3) := by decide +kernel
theorem dX0_init_12 : decode cX0_init 12 = .ok (.aload_n 0, 1) := by decide +kernel
theorem dX0_init_13 : decode cX0_init 13 = .ok (.bipush 8, 2) := by decide +kernel
theorem dX0_init_15 : decode cX0_init 15 = .ok (.newarray .int, 2) := by decide +kernel
theorem dX0_init_17 : decode cX0_init 17 = .ok (.putfield 15, 3) := by decide +kernel
theorem dX0_init_20 : decode cX0_init 20 = .ok (.aload_n 0, 1) := by decide +kernel
theorem dX0_init_21 : decode cX0_init 21 = .ok (.bipush 8, 2) := by decide +kernel
theorem dX0_init_23 : decode cX0_init 23 = .ok (.newarray .int, 2) := by decide +kernel
theorem dX0_init_25 : decode cX0_init 25 = .ok (.putfield 18, 3) := by decide +kernel
theorem dX0_init_28 : decode cX0_init 28 = .ok (.aload_n 0, 1) := by decide +kernel
theorem dX0_init_29 : decode cX0_init 29 = .ok (.iconst 3, 1) := by decide +kernel
theorem dX0_init_30 : decode cX0_init 30 = .ok (.newarray .int, 2) := by decide +kernel
theorem dX0_init_32 : decode cX0_init 32 = .ok (.putfield 21, 3) := by decide +kernel
theorem dX0_init_35 : decode cX0_init 35 = .ok (.aload_n 0, 1) := by decide +kernel
theorem dX0_init_36 : decode cX0_init 36 = .ok (.iconst 3, 1) := by decide +kernel
theorem dX0_init_37 : decode cX0_init 37 = .ok (.newarray .int, 2) := by decide +kernel
theorem dX0_init_39 : decode cX0_init 39 = .ok (.putfield 24, 3) := by decide +kernel
theorem dX0_init_42 : decode cX0_init 42 = .ok (.aload_n 0, 1) := by decide +kernel
theorem dX0_init_43 : decode cX0_init 43 = .ok (.bipush 64, 2) := by decide +kernel
theorem dX0_init_45 : decode cX0_init 45 = .ok (.newarray .int, 2) := by decide +kernel
theorem dX0_init_47 : decode cX0_init 47 = .ok (.putfield 27, 3) := by decide +kernel
theorem dX0_init_50 : decode cX0_init 50 = .ok (.aload_n 0, 1) := by decide +kernel
theorem dX0_init_51 : decode cX0_init 51 = .ok (.bipush 8, 2) := by decide +kernel
theorem dX0_init_53 : decode cX0_init 53 = .ok (.newarray .int, 2) := by decide +kernel
theorem dX0_init_55 : decode cX0_init 55 = .ok (.putfield 30, 3) := by decide +kernel
theorem dX0_init_58 : decode cX0_init 58 = .ok (.aload_n 0, 1) := by decide +kernel
theorem dX0_init_59 : decode cX0_init 59 = .ok (.bipush 8, 2) := by decide +kernel
theorem dX0_init_61 : decode cX0_init 61 = .ok (.newarray .int, 2) := by decide +kernel
theorem dX0_init_63 : decode cX0_init 63 = .ok (.putfield 33, 3) := by decide +kernel
theorem dX0_init_66 : decode cX0_init 66 = .ok (.aload_n 0, 1) := by decide +kernel
theorem dX0_init_67 : decode cX0_init 67 = .ok (.iconst 0, 1) := by decide +kernel
theorem dX0_init_68 : decode cX0_init 68 = .ok (.putfield 36, 3) := by decide +kernel
theorem dX0_init_71 : decode cX0_init 71 = .ok (.aload_n 0, 1) := by decide +kernel
theorem dX0_init_72 : decode cX0_init 72 = .ok (.iconst 0, 1) := by decide +kernel
theorem dX0_init_73 : decode cX0_init 73 = .ok (.putfield 40, 3) := by decide +kernel
theorem dX0_init_76 : decode cX0_init 76 = .ok (.iconst 0, 1) := by decide +kernel
theorem dX0_init_77 : decode cX0_init 77 = .ok (.istore_n 1, 1) := by decide +kernel
theorem dX0_init_78 : decode cX0_init 78 = .ok (.iload_n 1, 1) := by decide +kernel
theorem dX0_init_79 : decode cX0_init 79 = .ok (.iconst 3, 1) := by decide +kernel
theorem dX0_init_80 : decode cX0_init 80 = .ok (.if_icmp .ge 16, 3) := by decide +kernel
theorem dX0_init_83 : decode cX0_init 83 = .ok (.aload_n 0, 1) := by decide +kernel
theorem dX0_init_84 : decode cX0_init 84 = .ok (.getfield 24, 3) := by decide +kernel
theorem dX0_init_87 : decode cX0_init 87 = .ok (.iload_n 1, 1) := by decide +kernel
theorem dX0_init_88 : decode cX0_init 88 = .ok (.iconst 1, 1) := by decide +kernel
theorem dX0_init_89 : decode cX0_init 89 = .ok (.iastore, 1) := by decide +kernel
theorem dX0_init_90 : decode cX0_init 90 = .ok (.iinc 1 1, 3) := by decide +kernel
theorem dX0_init_93 : decode cX0_init 93 = .ok (.goto (-15), 3) := by decide +kernel
theorem dX0_init_96 : decode cX0_init 96 = .ok (.return_, 1) := by decide +kernel
theorem dX0_copyFrom_0 : decode cX0_copyFrom 0 = .ok (.aload_n 1, 1) := by decide +kernel
theorem dX0_copyFrom_1 : decode cX0_copyFrom 1 = .ok (.getfield 9, 3) := by decide +kernel
theorem dX0_copyFrom_4 : decode cX0_copyFrom 4 = .ok (.iconst 0, 1) := by decide +kernel
theorem dX0_copyFrom_5 : decode cX0_copyFrom 5 = .ok (.aload_n 0, 1) := by decide +kernel
theorem dX0_copyFrom_6 : decode cX0_copyFrom 6 = .ok (.getfield 9, 3) := by decide +kernel
theorem dX0_copyFrom_9 : decode cX0_copyFrom 9 = .ok (.iconst 0, 1) := by decide +kernel
theorem dX0_copyFrom_10 : decode cX0_copyFrom 10 = .ok (.bipush 8, 2) := by decide +kernel
theorem dX0_copyFrom_12 : decode cX0_copyFrom 12 = .ok (.invokestatic 43, 3) := by decide +kernel
theorem dX0_copyFrom_15 : decode cX0_copyFrom 15 = .ok (.aload_n 1, 1) := by decide +kernel
theorem dX0_copyFrom_16 : decode cX0_copyFrom 16 = .ok (.getfield 15, 3) := by decide +kernel
theorem dX0_copyFrom_19 : decode cX0_copyFrom 19 = .ok (.iconst 0, 1) := by decide +kernel
theorem dX0_copyFrom_20 : decode cX0_copyFrom 20 = .ok (.aload_n 0, 1) := by decide +kernel
theorem dX0_copyFrom_21 : decode cX0_copyFrom 21 = .ok (.getfield 15, 3) := by decide +kernel
theorem dX0_copyFrom_24 : decode cX0_copyFrom 24 = .ok (.iconst 0, 1) := by decide +kernel
theorem dX0_copyFrom_25 : decode cX0_copyFrom 25 = .ok (.bipush 8, 2) := by decide +kernel
theorem dX0_copyFrom_27 : decode cX0_copyFrom 27 = .ok (.invokestatic 43, 3) := by decide +kernel
theorem dX0_copyFrom_30 : decode cX0_copyFrom 30 = .ok (.aload_n 1, 1) := by decide +kernel
theorem dX0_copyFrom_31 : decode cX0_copyFrom 31 = .ok (.getfield 18, 3) := by decide +kernel
theorem dX0_copyFrom_34 : decode cX0_copyFrom 34 = .ok (.iconst 0, 1) := by decide +kernel
theorem dX0_copyFrom_35 : decode cX0_copyFrom 35 = .ok (.aload_n 0, 1) := by decide +kernel
theorem dX0_copyFrom_36 : decode cX0_copyFrom 36 = .ok (.getfield 18, 3) := by decide +kernel
theorem dX0_copyFrom_39 : decode cX0_copyFrom 39 = .ok (.iconst 0, 1) := by decide +kernel
theorem dX0_copyFrom_40 : decode cX0_copyFrom 40 = .ok (.bipush 8, 2) := by decide +kernel
theorem dX0_copyFrom_42 : decode cX0_copyFrom 42 = .ok (.invokestatic 43, 3) := by decide +kernel
theorem dX0_copyFrom_45 : decode cX0_copyFrom 45 = .ok (.aload_n 1, 1) := by decide +kernel
theorem dX0_copyFrom_46 : decode cX0_copyFrom 46 = .ok (.getfield 21, 3) := by decide +kernel
theorem dX0_copyFrom_49 : decode cX0_copyFrom 49 = .ok (.iconst 0, 1) := by decide +kernel
theorem dX0_copyFrom_50 : decode cX0_copyFrom 50 = .ok (.aload_n 0, 1) := by decide +kernel
theorem dX0_copyFrom_51 : decode cX0_copyFrom 51 = .ok (.getfield 21, 3) := by decide +kernel
theorem dX0_copyFrom_54 : decode cX0_copyFrom 54 = .ok (.iconst 0, 1) := by decide +kernel
theorem dX0_copyFrom_55 : decode cX0_copyFrom 55 = .ok (.iconst 3, 1) := by decide +kernel
theorem dX0_copyFrom_56 : decode cX0_copyFrom 56 = .ok (.invokestatic 43, 3) := by decide +kernel
theorem dX0_copyFrom_59 : decode cX0_copyFrom 59 = .ok (.aload_n 1, 1) := by decide +kernel
theorem dX0_copyFrom_60 : decode cX0_copyFrom 60 = .ok (.getfield 24, 3) := by decide +kernel
theorem dX0_copyFrom_63 : decode cX0_copyFrom 63 = .ok (.iconst 0, 1) := by decide +kernel
theorem dX0_copyFrom_64 : decode cX0_copyFrom 64 = .ok (.aload_n 0, 1) := by decide +kernel
theorem dX0_copyFrom_65 : decode cX0_copyFrom 65 = .ok (.getfield 24, 3) := by decide +kernel
theorem dX0_copyFrom_68 : decode cX0_copyFrom 68 = .ok (.iconst 0, 1) := by decide +kernel
theorem dX0_copyFrom_69 : decode cX0_copyFrom 69 = .ok (.iconst 3, 1) := by decide +kernel
theorem dX0_copyFrom_70 : decode cX0_copyFrom 70 = .ok (.invokestatic 43, 3) := by decide +kernel
theorem dX0_copyFrom_73 : decode cX0_copyFrom 73 = .ok (.aload_n 1, 1) := by decide +kernel
theorem dX0_copyFrom_74 : decode cX0_copyFrom 74 = .ok (.getfield 27, 3) := by decide +kernel
theorem dX0_copyFrom_77 : decode cX0_copyFrom 77 = .ok (.iconst 0, 1) := by decide +kernel
theorem dX0_copyFrom_78 : decode cX0_copyFrom 78 = .ok (.aload_n 0, 1) := by decide +kernel
theorem dX0_copyFrom_79 : decode cX0_copyFrom 79 = .ok (.getfield 27, 3) := by decide +kernel
theorem dX0_copyFrom_82 : decode cX0_copyFrom 82 = .ok (.iconst 0, 1) := by decide +kernel
theorem dX0_copyFrom_83 : decode cX0_copyFrom 83 = .ok (.bipush 64, 2) := by decide +kernel
theorem dX0_copyFrom_85 : decode cX0_copyFrom 85 = .ok (.invokestatic 43, 3) := by decide +kernel
theorem dX0_copyFrom_88 : decode cX0_copyFrom 88 = .ok (.aload_n 1, 1) := by decide +kernel
theorem dX0_copyFrom_89 : decode cX0_copyFrom 89 = .ok (.getfield 30, 3) := by decide +kernel
theorem dX0_copyFrom_92 : decode cX0_copyFrom 92 = .ok (.iconst 0, 1) := by decide +kernel
theorem dX0_copyFrom_93 : decode cX0_copyFrom 93 = .ok (.aload_n 0, 1) := by decide +kernel
theorem dX0_copyFrom_94 : decode cX0_copyFrom 94 = .ok (.getfield 30, 3) := by decide +kernel
theorem dX0_copyFrom_97 : decode cX0_copyFrom 97 = .ok (.iconst 0, 1) := by decide +kernel
theorem dX0_copyFrom_98 : decode cX0_copyFrom 98 = .ok (.bipush 8, 2) := by decide +kernel
theorem dX0_copyFrom_100 : decode cX0_copyFrom 100 = .ok (.invokestatic 43, 3) := by decide +kernel
theorem dX0_copyFrom_103 : decode cX0_copyFrom 103 = .ok (.aload_n 0, 1) := by decide +kernel
theorem dX0_copyFrom_104 : decode cX0_copyFrom 104 = .ok (.aload_n 1, 1) := by decide +kernel
theorem dX0_copyFrom_105 : decode cX0_copyFrom 105 = .ok (.getfield 36, 3) := by decide +kernel
theorem dX0_copyFrom_108 : decode cX0_copyFrom 108 = .ok (.putfield 36, 3) := by decide +kernel
theorem dX0_copyFrom_111 : decode cX0_copyFrom 111 = .ok (.aload_n 0, 1) := by decide +kernel
theorem dX0_copyFrom_112 : decode cX0_copyFrom 112 = .ok (.aload_n 1, 1) := by decide +kernel
theorem dX0_copyFrom_113 : decode cX0_copyFrom 113 = .ok (.getfield 40, 3) := by decide +kernel
theorem dX0_copyFrom_116 : decode cX0_copyFrom 116 = .ok (.putfield 40, 3) := by decide +kernel
theorem dX0_copyFrom_119 : decode cX0_copyFrom 119 = .ok (.return_, 1) := by decide +kernel
theorem dX0_size_0 : decode cX0_size 0 = .ok (.aload_n 0, 1) := by decide +kernel
theorem dX0_size_1 : decode cX0_size 1 = .ok (.getfield 40, 3) := by decide +kernel
theorem dX0_size_4 : decode cX0_size 4 = .ok (.ireturn, 1) := by decide +kernel
theorem dX0_has_0 : decode cX0_has 0 = .ok (.iload_n 1, 1) := by decide +kernel
theorem dX0_has_1 : decode cX0_has 1 = .ok (.ifCond .lt 15, 3) := by decide +kernel
theorem dX0_has_4 : decode cX0_has 4 = .ok (.iload_n 1, 1) := by decide +kernel
theorem dX0_has_5 : decode cX0_has 5 = .ok (.aload_n 0, 1) := by decide +kernel
theorem dX0_has_6 : decode cX0_has 6 = .ok (.getfield 40, 3) := by decide +kernel
theorem dX0_has_9 : decode cX0_has 9 = .ok (.if_icmp .ge 7, 3) := by decide +kernel
theorem dX0_has_12 : decode cX0_has 12 = .ok (.iconst 1, 1) := by decide +kernel
theorem dX0_has_13 : decode cX0_has 13 = .ok (.goto 4, 3) := by decide +kernel
theorem dX0_has_16 : decode cX0_has 16 = .ok (.iconst 0, 1) := by decide +kernel
theorem dX0_has_17 : decode cX0_has 17 = .ok (.ireturn, 1) := by decide +kernel
theorem dX0_x_0 : decode cX0_x 0 = .ok (.aload_n 0, 1) := by decide +kernel
theorem dX0_x_1 : decode cX0_x 1 = .ok (.iload_n 1, 1) := by decide +kernel
theorem dX0_x_2 : decode cX0_x 2 = .ok (.invokevirtual 49, 3) := by decide +kernel
theorem dX0_x_5 : decode cX0_x 5 = .ok (.ifCond .eq 12, 3) := by decide +kernel
theorem dX0_x_8 : decode cX0_x 8 = .ok (.aload_n 0, 1) := by decide +kernel
theorem dX0_x_9 : decode cX0_x 9 = .ok (.getfield 9, 3) := by decide +kernel
theorem dX0_x_12 : decode cX0_x 12 = .ok (.iload_n 1, 1) := by decide +kernel
theorem dX0_x_13 : decode cX0_x 13 = .ok (.iaload, 1) := by decide +kernel
theorem dX0_x_14 : decode cX0_x 14 = .ok (.goto 4, 3) := by decide +kernel
theorem dX0_x_17 : decode cX0_x 17 = .ok (.iconst (-1), 1) := by decide +kernel
theorem dX0_x_18 : decode cX0_x 18 = .ok (.ireturn, 1) := by decide +kernel
theorem dX0_y_0 : decode cX0_y 0 = .ok (.aload_n 0, 1) := by decide +kernel
theorem dX0_y_1 : decode cX0_y 1 = .ok (.iload_n 1, 1) := by decide +kernel
theorem dX0_y_2 : decode cX0_y 2 = .ok (.invokevirtual 49, 3) := by decide +kernel
theorem dX0_y_5 : decode cX0_y 5 = .ok (.ifCond .eq 12, 3) := by decide +kernel
theorem dX0_y_8 : decode cX0_y 8 = .ok (.aload_n 0, 1) := by decide +kernel
theorem dX0_y_9 : decode cX0_y 9 = .ok (.getfield 15, 3) := by decide +kernel
theorem dX0_y_12 : decode cX0_y 12 = .ok (.iload_n 1, 1) := by decide +kernel
theorem dX0_y_13 : decode cX0_y 13 = .ok (.iaload, 1) := by decide +kernel
theorem dX0_y_14 : decode cX0_y 14 = .ok (.goto 4, 3) := by decide +kernel
theorem dX0_y_17 : decode cX0_y 17 = .ok (.iconst (-1), 1) := by decide +kernel
theorem dX0_y_18 : decode cX0_y 18 = .ok (.ireturn, 1) := by decide +kernel
theorem dX0_isFixed_0 : decode cX0_isFixed 0 = .ok (.aload_n 0, 1) := by decide +kernel
theorem dX0_isFixed_1 : decode cX0_isFixed 1 = .ok (.iload_n 1, 1) := by decide +kernel
theorem dX0_isFixed_2 : decode cX0_isFixed 2 = .ok (.invokevirtual 49, 3) := by decide +kernel
theorem dX0_isFixed_5 : decode cX0_isFixed 5 = .ok (.ifCond .eq 19, 3) := by decide +kernel
theorem dX0_isFixed_8 : decode cX0_isFixed 8 = .ok (.aload_n 0, 1) := by decide +kernel
theorem dX0_isFixed_9 : decode cX0_isFixed 9 = .ok (.getfield 36, 3) := by decide +kernel
theorem dX0_isFixed_12 : decode cX0_isFixed 12 = .ok (.iload_n 1, 1) := by decide +kernel
theorem dX0_isFixed_13 : decode cX0_isFixed 13 = .ok (.ishr, 1) := by decide +kernel
theorem dX0_isFixed_14 : decode cX0_isFixed 14 = .ok (.iconst 1, 1) := by decide +kernel
theorem dX0_isFixed_15 : decode cX0_isFixed 15 = .ok (.iand, 1) := by decide +kernel
theorem dX0_isFixed_16 : decode cX0_isFixed 16 = .ok (.iconst 1, 1) := by decide +kernel
theorem dX0_isFixed_17 : decode cX0_isFixed 17 = .ok (.if_icmp .ne 7, 3) := by decide +kernel
theorem dX0_isFixed_20 : decode cX0_isFixed 20 = .ok (.iconst 1, 1) := by decide +kernel
theorem dX0_isFixed_21 : decode cX0_isFixed 21 = .ok (.goto 4, 3) := by decide +kernel
theorem dX0_isFixed_24 : decode cX0_isFixed 24 = .ok (.iconst 0, 1) := by decide +kernel
theorem dX0_isFixed_25 : decode cX0_isFixed 25 = .ok (.ireturn, 1) := by decide +kernel
theorem dX0_channelOf_0 : decode cX0_channelOf 0 = .ok (.aload_n 0, 1) := by decide +kernel
theorem dX0_channelOf_1 : decode cX0_channelOf 1 = .ok (.iload_n 1, 1) := by decide +kernel
theorem dX0_channelOf_2 : decode cX0_channelOf 2 = .ok (.invokevirtual 49, 3) := by decide +kernel
theorem dX0_channelOf_5 : decode cX0_channelOf 5 = .ok (.ifCond .eq 12, 3) := by decide +kernel
theorem dX0_channelOf_8 : decode cX0_channelOf 8 = .ok (.aload_n 0, 1) := by decide +kernel
theorem dX0_channelOf_9 : decode cX0_channelOf 9 = .ok (.getfield 18, 3) := by decide +kernel
theorem dX0_channelOf_12 : decode cX0_channelOf 12 = .ok (.iload_n 1, 1) := by decide +kernel
theorem dX0_channelOf_13 : decode cX0_channelOf 13 = .ok (.iaload, 1) := by decide +kernel
theorem dX0_channelOf_14 : decode cX0_channelOf 14 = .ok (.goto 4, 3) := by decide +kernel
theorem dX0_channelOf_17 : decode cX0_channelOf 17 = .ok (.iconst (-1), 1) := by decide +kernel
theorem dX0_channelOf_18 : decode cX0_channelOf 18 = .ok (.ireturn, 1) := by decide +kernel
theorem dX0_channelOrAbsent_0 : decode cX0_channelOrAbsent 0 = .ok (.aload_n 0, 1) := by decide +kernel
theorem dX0_channelOrAbsent_1 : decode cX0_channelOrAbsent 1 = .ok (.iload_n 1, 1) := by decide +kernel
theorem dX0_channelOrAbsent_2 : decode cX0_channelOrAbsent 2 = .ok (.invokevirtual 53, 3) := by decide +kernel
theorem dX0_channelOrAbsent_5 : decode cX0_channelOrAbsent 5 = .ok (.istore_n 2, 1) := by decide +kernel
theorem dX0_channelOrAbsent_6 : decode cX0_channelOrAbsent 6 = .ok (.iload_n 2, 1) := by decide +kernel
theorem dX0_channelOrAbsent_7 : decode cX0_channelOrAbsent 7 = .ok (.iconst (-1), 1) := by decide +kernel
theorem dX0_channelOrAbsent_8 : decode cX0_channelOrAbsent 8 = .ok (.if_icmp .ne 8, 3) := by decide +kernel
theorem dX0_channelOrAbsent_11 : decode cX0_channelOrAbsent 11 = .ok (.bipush (-5), 2) := by decide +kernel
theorem dX0_channelOrAbsent_13 : decode cX0_channelOrAbsent 13 = .ok (.goto 4, 3) := by decide +kernel
theorem dX0_channelOrAbsent_16 : decode cX0_channelOrAbsent 16 = .ok (.iload_n 2, 1) := by decide +kernel
theorem dX0_channelOrAbsent_17 : decode cX0_channelOrAbsent 17 = .ok (.ireturn, 1) := by decide +kernel
theorem dX0_between_0 : decode cX0_between 0 = .ok (.iload_n 1, 1) := by decide +kernel
theorem dX0_between_1 : decode cX0_between 1 = .ok (.ifCond .lt 37, 3) := by decide +kernel
theorem dX0_between_4 : decode cX0_between 4 = .ok (.iload_n 1, 1) := by decide +kernel
theorem dX0_between_5 : decode cX0_between 5 = .ok (.aload_n 0, 1) := by decide +kernel
theorem dX0_between_6 : decode cX0_between 6 = .ok (.getfield 40, 3) := by decide +kernel
theorem dX0_between_9 : decode cX0_between 9 = .ok (.if_icmp .ge 29, 3) := by decide +kernel
theorem dX0_between_12 : decode cX0_between 12 = .ok (.iload_n 2, 1) := by decide +kernel
theorem dX0_between_13 : decode cX0_between 13 = .ok (.ifCond .lt 25, 3) := by decide +kernel
theorem dX0_between_16 : decode cX0_between 16 = .ok (.iload_n 2, 1) := by decide +kernel
theorem dX0_between_17 : decode cX0_between 17 = .ok (.aload_n 0, 1) := by decide +kernel
theorem dX0_between_18 : decode cX0_between 18 = .ok (.getfield 40, 3) := by decide +kernel
theorem dX0_between_21 : decode cX0_between 21 = .ok (.if_icmp .ge 17, 3) := by decide +kernel
theorem dX0_between_24 : decode cX0_between 24 = .ok (.aload_n 0, 1) := by decide +kernel
theorem dX0_between_25 : decode cX0_between 25 = .ok (.getfield 27, 3) := by decide +kernel
theorem dX0_between_28 : decode cX0_between 28 = .ok (.iload_n 1, 1) := by decide +kernel
theorem dX0_between_29 : decode cX0_between 29 = .ok (.bipush 8, 2) := by decide +kernel
theorem dX0_between_31 : decode cX0_between 31 = .ok (.imul, 1) := by decide +kernel
theorem dX0_between_32 : decode cX0_between 32 = .ok (.iload_n 2, 1) := by decide +kernel
theorem dX0_between_33 : decode cX0_between 33 = .ok (.iadd, 1) := by decide +kernel
theorem dX0_between_34 : decode cX0_between 34 = .ok (.iaload, 1) := by decide +kernel
theorem dX0_between_35 : decode cX0_between 35 = .ok (.goto 4, 3) := by decide +kernel
theorem dX0_between_38 : decode cX0_between 38 = .ok (.iconst 0, 1) := by decide +kernel
theorem dX0_between_39 : decode cX0_between 39 = .ok (.ireturn, 1) := by decide +kernel
theorem dX0_whoIsAt_0 : decode cX0_whoIsAt 0 = .ok (.iconst 0, 1) := by decide +kernel
theorem dX0_whoIsAt_1 : decode cX0_whoIsAt 1 = .ok (.istore_n 3, 1) := by decide +kernel
theorem dX0_whoIsAt_2 : decode cX0_whoIsAt 2 = .ok (.iload_n 3, 1) := by decide +kernel
theorem dX0_whoIsAt_3 : decode cX0_whoIsAt 3 = .ok (.aload_n 0, 1) := by decide +kernel
theorem dX0_whoIsAt_4 : decode cX0_whoIsAt 4 = .ok (.getfield 40, 3) := by decide +kernel
theorem dX0_whoIsAt_7 : decode cX0_whoIsAt 7 = .ok (.if_icmp .ge 31, 3) := by decide +kernel
theorem dX0_whoIsAt_10 : decode cX0_whoIsAt 10 = .ok (.aload_n 0, 1) := by decide +kernel
theorem dX0_whoIsAt_11 : decode cX0_whoIsAt 11 = .ok (.getfield 9, 3) := by decide +kernel
theorem dX0_whoIsAt_14 : decode cX0_whoIsAt 14 = .ok (.iload_n 3, 1) := by decide +kernel
theorem dX0_whoIsAt_15 : decode cX0_whoIsAt 15 = .ok (.iaload, 1) := by decide +kernel
theorem dX0_whoIsAt_16 : decode cX0_whoIsAt 16 = .ok (.iload_n 1, 1) := by decide +kernel
theorem dX0_whoIsAt_17 : decode cX0_whoIsAt 17 = .ok (.if_icmp .ne 15, 3) := by decide +kernel
theorem dX0_whoIsAt_20 : decode cX0_whoIsAt 20 = .ok (.aload_n 0, 1) := by decide +kernel
theorem dX0_whoIsAt_21 : decode cX0_whoIsAt 21 = .ok (.getfield 15, 3) := by decide +kernel
theorem dX0_whoIsAt_24 : decode cX0_whoIsAt 24 = .ok (.iload_n 3, 1) := by decide +kernel
theorem dX0_whoIsAt_25 : decode cX0_whoIsAt 25 = .ok (.iaload, 1) := by decide +kernel
theorem dX0_whoIsAt_26 : decode cX0_whoIsAt 26 = .ok (.iload_n 2, 1) := by decide +kernel
theorem dX0_whoIsAt_27 : decode cX0_whoIsAt 27 = .ok (.if_icmp .ne 5, 3) := by decide +kernel
theorem dX0_whoIsAt_30 : decode cX0_whoIsAt 30 = .ok (.iload_n 3, 1) := by decide +kernel
theorem dX0_whoIsAt_31 : decode cX0_whoIsAt 31 = .ok (.ireturn, 1) := by decide +kernel
theorem dX0_whoIsAt_32 : decode cX0_whoIsAt 32 = .ok (.iinc 3 1, 3) := by decide +kernel
theorem dX0_whoIsAt_35 : decode cX0_whoIsAt 35 = .ok (.goto (-33), 3) := by decide +kernel
theorem dX0_whoIsAt_38 : decode cX0_whoIsAt 38 = .ok (.iconst (-1), 1) := by decide +kernel
theorem dX0_whoIsAt_39 : decode cX0_whoIsAt 39 = .ok (.ireturn, 1) := by decide +kernel
theorem dX0_settle_0 : decode cX0_settle 0 = .ok (.aload_n 0, 1) := by decide +kernel
theorem dX0_settle_1 : decode cX0_settle 1 = .ok (.iload_n 1, 1) := by decide +kernel
theorem dX0_settle_2 : decode cX0_settle 2 = .ok (.iload_n 2, 1) := by decide +kernel
theorem dX0_settle_3 : decode cX0_settle 3 = .ok (.invokevirtual 57, 3) := by decide +kernel
theorem dX0_settle_6 : decode cX0_settle 6 = .ok (.ifCond .lt 6, 3) := by decide +kernel
theorem dX0_settle_9 : decode cX0_settle 9 = .ok (.bipush (-3), 2) := by decide +kernel
theorem dX0_settle_11 : decode cX0_settle 11 = .ok (.ireturn, 1) := by decide +kernel
theorem dX0_settle_12 : decode cX0_settle 12 = .ok (.aload_n 0, 1) := by decide +kernel
theorem dX0_settle_13 : decode cX0_settle 13 = .ok (.getfield 40, 3) := by decide +kernel
theorem dX0_settle_16 : decode cX0_settle 16 = .ok (.bipush 8, 2) := by decide +kernel
theorem dX0_settle_18 : decode cX0_settle 18 = .ok (.if_icmp .lt 6, 3) := by decide +kernel
theorem dX0_settle_21 : decode cX0_settle 21 = .ok (.bipush (-4), 2) := by decide +kernel
theorem dX0_settle_23 : decode cX0_settle 23 = .ok (.ireturn, 1) := by decide +kernel
theorem dX0_settle_24 : decode cX0_settle 24 = .ok (.aload_n 0, 1) := by decide +kernel
theorem dX0_settle_25 : decode cX0_settle 25 = .ok (.getfield 40, 3) := by decide +kernel
theorem dX0_settle_28 : decode cX0_settle 28 = .ok (.istore_n 3, 1) := by decide +kernel
theorem dX0_settle_29 : decode cX0_settle 29 = .ok (.aload_n 0, 1) := by decide +kernel
theorem dX0_settle_30 : decode cX0_settle 30 = .ok (.getfield 9, 3) := by decide +kernel
theorem dX0_settle_33 : decode cX0_settle 33 = .ok (.iload_n 3, 1) := by decide +kernel
theorem dX0_settle_34 : decode cX0_settle 34 = .ok (.iload_n 1, 1) := by decide +kernel
theorem dX0_settle_35 : decode cX0_settle 35 = .ok (.iastore, 1) := by decide +kernel
theorem dX0_settle_36 : decode cX0_settle 36 = .ok (.aload_n 0, 1) := by decide +kernel
theorem dX0_settle_37 : decode cX0_settle 37 = .ok (.getfield 15, 3) := by decide +kernel
theorem dX0_settle_40 : decode cX0_settle 40 = .ok (.iload_n 3, 1) := by decide +kernel
theorem dX0_settle_41 : decode cX0_settle 41 = .ok (.iload_n 2, 1) := by decide +kernel
theorem dX0_settle_42 : decode cX0_settle 42 = .ok (.iastore, 1) := by decide +kernel
theorem dX0_settle_43 : decode cX0_settle 43 = .ok (.aload_n 0, 1) := by decide +kernel
theorem dX0_settle_44 : decode cX0_settle 44 = .ok (.getfield 18, 3) := by decide +kernel
theorem dX0_settle_47 : decode cX0_settle 47 = .ok (.iload_n 3, 1) := by decide +kernel
theorem dX0_settle_48 : decode cX0_settle 48 = .ok (.iconst (-1), 1) := by decide +kernel
theorem dX0_settle_49 : decode cX0_settle 49 = .ok (.iastore, 1) := by decide +kernel
theorem dX0_settle_50 : decode cX0_settle 50 = .ok (.aload_n 0, 1) := by decide +kernel
theorem dX0_settle_51 : decode cX0_settle 51 = .ok (.dup, 1) := by decide +kernel
theorem dX0_settle_52 : decode cX0_settle 52 = .ok (.getfield 36, 3) := by decide +kernel
theorem dX0_settle_55 : decode cX0_settle 55 = .ok (.iconst 1, 1) := by decide +kernel
theorem dX0_settle_56 : decode cX0_settle 56 = .ok (.iload_n 3, 1) := by decide +kernel
theorem dX0_settle_57 : decode cX0_settle 57 = .ok (.ishl, 1) := by decide +kernel
theorem dX0_settle_58 : decode cX0_settle 58 = .ok (.iconst (-1), 1) := by decide +kernel
theorem dX0_settle_59 : decode cX0_settle 59 = .ok (.ixor, 1) := by decide +kernel
theorem dX0_settle_60 : decode cX0_settle 60 = .ok (.iand, 1) := by decide +kernel
theorem dX0_settle_61 : decode cX0_settle 61 = .ok (.putfield 36, 3) := by decide +kernel
theorem dX0_settle_64 : decode cX0_settle 64 = .ok (.aload_n 0, 1) := by decide +kernel
theorem dX0_settle_65 : decode cX0_settle 65 = .ok (.dup, 1) := by decide +kernel
theorem dX0_settle_66 : decode cX0_settle 66 = .ok (.getfield 40, 3) := by decide +kernel
theorem dX0_settle_69 : decode cX0_settle 69 = .ok (.iconst 1, 1) := by decide +kernel
theorem dX0_settle_70 : decode cX0_settle 70 = .ok (.iadd, 1) := by decide +kernel
theorem dX0_settle_71 : decode cX0_settle 71 = .ok (.putfield 40, 3) := by decide +kernel
theorem dX0_settle_74 : decode cX0_settle 74 = .ok (.aload_n 0, 1) := by decide +kernel
theorem dX0_settle_75 : decode cX0_settle 75 = .ok (.invokevirtual 61, 3) := by decide +kernel
theorem dX0_settle_78 : decode cX0_settle 78 = .ok (.pop, 1) := by decide +kernel
theorem dX0_settle_79 : decode cX0_settle 79 = .ok (.iload_n 3, 1) := by decide +kernel
theorem dX0_settle_80 : decode cX0_settle 80 = .ok (.ireturn, 1) := by decide +kernel
theorem dX0_carry_0 : decode cX0_carry 0 = .ok (.aload_n 0, 1) := by decide +kernel
theorem dX0_carry_1 : decode cX0_carry 1 = .ok (.iload_n 1, 1) := by decide +kernel
theorem dX0_carry_2 : decode cX0_carry 2 = .ok (.invokevirtual 49, 3) := by decide +kernel
theorem dX0_carry_5 : decode cX0_carry 5 = .ok (.ifCond .ne 5, 3) := by decide +kernel
theorem dX0_carry_8 : decode cX0_carry 8 = .ok (.iconst (-1), 1) := by decide +kernel
theorem dX0_carry_9 : decode cX0_carry 9 = .ok (.ireturn, 1) := by decide +kernel
theorem dX0_carry_10 : decode cX0_carry 10 = .ok (.iload_n 2, 1) := by decide +kernel
theorem dX0_carry_11 : decode cX0_carry 11 = .ok (.aload_n 0, 1) := by decide +kernel
theorem dX0_carry_12 : decode cX0_carry 12 = .ok (.getfield 9, 3) := by decide +kernel
theorem dX0_carry_15 : decode cX0_carry 15 = .ok (.iload_n 1, 1) := by decide +kernel
theorem dX0_carry_16 : decode cX0_carry 16 = .ok (.iaload, 1) := by decide +kernel
theorem dX0_carry_17 : decode cX0_carry 17 = .ok (.isub, 1) := by decide +kernel
theorem dX0_carry_18 : decode cX0_carry 18 = .ok (.istore 4, 2) := by decide +kernel
theorem dX0_carry_20 : decode cX0_carry 20 = .ok (.iload_n 3, 1) := by decide +kernel
theorem dX0_carry_21 : decode cX0_carry 21 = .ok (.aload_n 0, 1) := by decide +kernel
theorem dX0_carry_22 : decode cX0_carry 22 = .ok (.getfield 15, 3) := by decide +kernel
theorem dX0_carry_25 : decode cX0_carry 25 = .ok (.iload_n 1, 1) := by decide +kernel
theorem dX0_carry_26 : decode cX0_carry 26 = .ok (.iaload, 1) := by decide +kernel
theorem dX0_carry_27 : decode cX0_carry 27 = .ok (.isub, 1) := by decide +kernel
theorem dX0_carry_28 : decode cX0_carry 28 = .ok (.istore 5, 2) := by decide +kernel
theorem dX0_carry_30 : decode cX0_carry 30 = .ok (.aload_n 0, 1) := by decide +kernel
theorem dX0_carry_31 : decode cX0_carry 31 = .ok (.getfield 9, 3) := by decide +kernel
theorem dX0_carry_34 : decode cX0_carry 34 = .ok (.iload_n 1, 1) := by decide +kernel
theorem dX0_carry_35 : decode cX0_carry 35 = .ok (.iload_n 2, 1) := by decide +kernel
theorem dX0_carry_36 : decode cX0_carry 36 = .ok (.iastore, 1) := by decide +kernel
theorem dX0_carry_37 : decode cX0_carry 37 = .ok (.aload_n 0, 1) := by decide +kernel
theorem dX0_carry_38 : decode cX0_carry 38 = .ok (.getfield 15, 3) := by decide +kernel
theorem dX0_carry_41 : decode cX0_carry 41 = .ok (.iload_n 1, 1) := by decide +kernel
theorem dX0_carry_42 : decode cX0_carry 42 = .ok (.iload_n 3, 1) := by decide +kernel
theorem dX0_carry_43 : decode cX0_carry 43 = .ok (.iastore, 1) := by decide +kernel
theorem dX0_carry_44 : decode cX0_carry 44 = .ok (.aload_n 0, 1) := by decide +kernel
theorem dX0_carry_45 : decode cX0_carry 45 = .ok (.invokevirtual 61, 3) := by decide +kernel
theorem dX0_carry_48 : decode cX0_carry 48 = .ok (.pop, 1) := by decide +kernel
theorem dX0_carry_49 : decode cX0_carry 49 = .ok (.iload 4, 2) := by decide +kernel
theorem dX0_carry_51 : decode cX0_carry 51 = .ok (.iload 4, 2) := by decide +kernel
theorem dX0_carry_53 : decode cX0_carry 53 = .ok (.imul, 1) := by decide +kernel
theorem dX0_carry_54 : decode cX0_carry 54 = .ok (.iload 5, 2) := by decide +kernel
theorem dX0_carry_56 : decode cX0_carry 56 = .ok (.iload 5, 2) := by decide +kernel
theorem dX0_carry_58 : decode cX0_carry 58 = .ok (.imul, 1) := by decide +kernel
theorem dX0_carry_59 : decode cX0_carry 59 = .ok (.iadd, 1) := by decide +kernel
theorem dX0_carry_60 : decode cX0_carry 60 = .ok (.ireturn, 1) := by decide +kernel
theorem dX0_change_0 : decode cX0_change 0 = .ok (.iload_n 1, 1) := by decide +kernel
theorem dX0_change_1 : decode cX0_change 1 = .ok (.invokestatic 65, 3) := by decide +kernel
theorem dX0_change_4 : decode cX0_change 4 = .ok (.ifCond .ne 5, 3) := by decide +kernel
theorem dX0_change_7 : decode cX0_change 7 = .ok (.iconst (-1), 1) := by decide +kernel
theorem dX0_change_8 : decode cX0_change 8 = .ok (.ireturn, 1) := by decide +kernel
theorem dX0_change_9 : decode cX0_change 9 = .ok (.bipush 100, 2) := by decide +kernel
theorem dX0_change_11 : decode cX0_change 11 = .ok (.aload_n 0, 1) := by decide +kernel
theorem dX0_change_12 : decode cX0_change 12 = .ok (.getfield 21, 3) := by decide +kernel
theorem dX0_change_15 : decode cX0_change 15 = .ok (.iload_n 1, 1) := by decide +kernel
theorem dX0_change_16 : decode cX0_change 16 = .ok (.iaload, 1) := by decide +kernel
theorem dX0_change_17 : decode cX0_change 17 = .ok (.imul, 1) := by decide +kernel
theorem dX0_change_18 : decode cX0_change 18 = .ok (.aload_n 0, 1) := by decide +kernel
theorem dX0_change_19 : decode cX0_change 19 = .ok (.getfield 24, 3) := by decide +kernel
theorem dX0_change_22 : decode cX0_change 22 = .ok (.iload_n 1, 1) := by decide +kernel
theorem dX0_change_23 : decode cX0_change 23 = .ok (.iaload, 1) := by decide +kernel
theorem dX0_change_24 : decode cX0_change 24 = .ok (.iadd, 1) := by decide +kernel
theorem dX0_change_25 : decode cX0_change 25 = .ok (.istore 4, 2) := by decide +kernel
theorem dX0_change_27 : decode cX0_change 27 = .ok (.aload_n 0, 1) := by decide +kernel
theorem dX0_change_28 : decode cX0_change 28 = .ok (.getfield 21, 3) := by decide +kernel
theorem dX0_change_31 : decode cX0_change 31 = .ok (.iload_n 1, 1) := by decide +kernel
theorem dX0_change_32 : decode cX0_change 32 = .ok (.iload_n 2, 1) := by decide +kernel
theorem dX0_change_33 : decode cX0_change 33 = .ok (.iastore, 1) := by decide +kernel
theorem dX0_change_34 : decode cX0_change 34 = .ok (.aload_n 0, 1) := by decide +kernel
theorem dX0_change_35 : decode cX0_change 35 = .ok (.getfield 24, 3) := by decide +kernel
theorem dX0_change_38 : decode cX0_change 38 = .ok (.iload_n 1, 1) := by decide +kernel
theorem dX0_change_39 : decode cX0_change 39 = .ok (.iload_n 3, 1) := by decide +kernel
theorem dX0_change_40 : decode cX0_change 40 = .ok (.iastore, 1) := by decide +kernel
theorem dX0_change_41 : decode cX0_change 41 = .ok (.aload_n 0, 1) := by decide +kernel
theorem dX0_change_42 : decode cX0_change 42 = .ok (.invokevirtual 61, 3) := by decide +kernel
theorem dX0_change_45 : decode cX0_change 45 = .ok (.pop, 1) := by decide +kernel
theorem dX0_change_46 : decode cX0_change 46 = .ok (.iload 4, 2) := by decide +kernel
theorem dX0_change_48 : decode cX0_change 48 = .ok (.ireturn, 1) := by decide +kernel
theorem dX0_changeNear_0 : decode cX0_changeNear 0 = .ok (.iload_n 1, 1) := by decide +kernel
theorem dX0_changeNear_1 : decode cX0_changeNear 1 = .ok (.invokestatic 65, 3) := by decide +kernel
theorem dX0_changeNear_4 : decode cX0_changeNear 4 = .ok (.ifCond .ne 5, 3) := by decide +kernel
theorem dX0_changeNear_7 : decode cX0_changeNear 7 = .ok (.iconst 0, 1) := by decide +kernel
theorem dX0_changeNear_8 : decode cX0_changeNear 8 = .ok (.ireturn, 1) := by decide +kernel
theorem dX0_changeNear_9 : decode cX0_changeNear 9 = .ok (.aload_n 0, 1) := by decide +kernel
theorem dX0_changeNear_10 : decode cX0_changeNear 10 = .ok (.getfield 21, 3) := by decide +kernel
theorem dX0_changeNear_13 : decode cX0_changeNear 13 = .ok (.iload_n 1, 1) := by decide +kernel
theorem dX0_changeNear_14 : decode cX0_changeNear 14 = .ok (.iload_n 2, 1) := by decide +kernel
theorem dX0_changeNear_15 : decode cX0_changeNear 15 = .ok (.iastore, 1) := by decide +kernel
theorem dX0_changeNear_16 : decode cX0_changeNear 16 = .ok (.aload_n 0, 1) := by decide +kernel
theorem dX0_changeNear_17 : decode cX0_changeNear 17 = .ok (.invokevirtual 61, 3) := by decide +kernel
theorem dX0_changeNear_20 : decode cX0_changeNear 20 = .ok (.ireturn, 1) := by decide +kernel
theorem dX0_tune_0 : decode cX0_tune 0 = .ok (.aload_n 0, 1) := by decide +kernel
theorem dX0_tune_1 : decode cX0_tune 1 = .ok (.iload_n 1, 1) := by decide +kernel
theorem dX0_tune_2 : decode cX0_tune 2 = .ok (.invokevirtual 49, 3) := by decide +kernel
theorem dX0_tune_5 : decode cX0_tune 5 = .ok (.ifCond .eq 36, 3) := by decide +kernel
theorem dX0_tune_8 : decode cX0_tune 8 = .ok (.aload_n 0, 1) := by decide +kernel
theorem dX0_tune_9 : decode cX0_tune 9 = .ok (.getfield 18, 3) := by decide +kernel
theorem dX0_tune_12 : decode cX0_tune 12 = .ok (.iload_n 1, 1) := by decide +kernel
theorem dX0_tune_13 : decode cX0_tune 13 = .ok (.iload_n 2, 1) := by decide +kernel
theorem dX0_tune_14 : decode cX0_tune 14 = .ok (.iastore, 1) := by decide +kernel
theorem dX0_tune_15 : decode cX0_tune 15 = .ok (.aload_n 0, 1) := by decide +kernel
theorem dX0_tune_16 : decode cX0_tune 16 = .ok (.dup, 1) := by decide +kernel
theorem dX0_tune_17 : decode cX0_tune 17 = .ok (.getfield 36, 3) := by decide +kernel
theorem dX0_tune_20 : decode cX0_tune 20 = .ok (.iload_n 2, 1) := by decide +kernel
theorem dX0_tune_21 : decode cX0_tune 21 = .ok (.iconst (-1), 1) := by decide +kernel
theorem dX0_tune_22 : decode cX0_tune 22 = .ok (.if_icmp .ne 11, 3) := by decide +kernel
theorem dX0_tune_25 : decode cX0_tune 25 = .ok (.iconst 1, 1) := by decide +kernel
theorem dX0_tune_26 : decode cX0_tune 26 = .ok (.iload_n 1, 1) := by decide +kernel
theorem dX0_tune_27 : decode cX0_tune 27 = .ok (.ishl, 1) := by decide +kernel
theorem dX0_tune_28 : decode cX0_tune 28 = .ok (.iconst (-1), 1) := by decide +kernel
theorem dX0_tune_29 : decode cX0_tune 29 = .ok (.ixor, 1) := by decide +kernel
theorem dX0_tune_30 : decode cX0_tune 30 = .ok (.goto 7, 3) := by decide +kernel
theorem dX0_tune_33 : decode cX0_tune 33 = .ok (.aload_n 0, 1) := by decide +kernel
theorem dX0_tune_34 : decode cX0_tune 34 = .ok (.getfield 36, 3) := by decide +kernel
theorem dX0_tune_37 : decode cX0_tune 37 = .ok (.iand, 1) := by decide +kernel
theorem dX0_tune_38 : decode cX0_tune 38 = .ok (.putfield 36, 3) := by decide +kernel
theorem dX0_tune_41 : decode cX0_tune 41 = .ok (.return_, 1) := by decide +kernel
theorem dX0_pin_0 : decode cX0_pin 0 = .ok (.aload_n 0, 1) := by decide +kernel
theorem dX0_pin_1 : decode cX0_pin 1 = .ok (.iload_n 1, 1) := by decide +kernel
theorem dX0_pin_2 : decode cX0_pin 2 = .ok (.invokevirtual 49, 3) := by decide +kernel
theorem dX0_pin_5 : decode cX0_pin 5 = .ok (.ifCond .eq 52, 3) := by decide +kernel
theorem dX0_pin_8 : decode cX0_pin 8 = .ok (.iload_n 2, 1) := by decide +kernel
theorem dX0_pin_9 : decode cX0_pin 9 = .ok (.ifCond .eq 17, 3) := by decide +kernel
theorem dX0_pin_12 : decode cX0_pin 12 = .ok (.aload_n 0, 1) := by decide +kernel
theorem dX0_pin_13 : decode cX0_pin 13 = .ok (.getfield 18, 3) := by decide +kernel
theorem dX0_pin_16 : decode cX0_pin 16 = .ok (.iload_n 1, 1) := by decide +kernel
theorem dX0_pin_17 : decode cX0_pin 17 = .ok (.iaload, 1) := by decide +kernel
theorem dX0_pin_18 : decode cX0_pin 18 = .ok (.iconst (-1), 1) := by decide +kernel
theorem dX0_pin_19 : decode cX0_pin 19 = .ok (.if_icmp .eq 7, 3) := by decide +kernel
theorem dX0_pin_22 : decode cX0_pin 22 = .ok (.iconst 1, 1) := by decide +kernel
theorem dX0_pin_23 : decode cX0_pin 23 = .ok (.goto 4, 3) := by decide +kernel
theorem dX0_pin_26 : decode cX0_pin 26 = .ok (.iconst 0, 1) := by decide +kernel
theorem dX0_pin_27 : decode cX0_pin 27 = .ok (.istore_n 3, 1) := by decide +kernel
theorem dX0_pin_28 : decode cX0_pin 28 = .ok (.aload_n 0, 1) := by decide +kernel
theorem dX0_pin_29 : decode cX0_pin 29 = .ok (.iload_n 3, 1) := by decide +kernel
theorem dX0_pin_30 : decode cX0_pin 30 = .ok (.ifCond .eq 14, 3) := by decide +kernel
theorem dX0_pin_33 : decode cX0_pin 33 = .ok (.aload_n 0, 1) := by decide +kernel
theorem dX0_pin_34 : decode cX0_pin 34 = .ok (.getfield 36, 3) := by decide +kernel
theorem dX0_pin_37 : decode cX0_pin 37 = .ok (.iconst 1, 1) := by decide +kernel
theorem dX0_pin_38 : decode cX0_pin 38 = .ok (.iload_n 1, 1) := by decide +kernel
theorem dX0_pin_39 : decode cX0_pin 39 = .ok (.ishl, 1) := by decide +kernel
theorem dX0_pin_40 : decode cX0_pin 40 = .ok (.ior, 1) := by decide +kernel
theorem dX0_pin_41 : decode cX0_pin 41 = .ok (.goto 13, 3) := by decide +kernel
theorem dX0_pin_44 : decode cX0_pin 44 = .ok (.aload_n 0, 1) := by decide +kernel
theorem dX0_pin_45 : decode cX0_pin 45 = .ok (.getfield 36, 3) := by decide +kernel
theorem dX0_pin_48 : decode cX0_pin 48 = .ok (.iconst 1, 1) := by decide +kernel
theorem dX0_pin_49 : decode cX0_pin 49 = .ok (.iload_n 1, 1) := by decide +kernel
theorem dX0_pin_50 : decode cX0_pin 50 = .ok (.ishl, 1) := by decide +kernel
theorem dX0_pin_51 : decode cX0_pin 51 = .ok (.iconst (-1), 1) := by decide +kernel
theorem dX0_pin_52 : decode cX0_pin 52 = .ok (.ixor, 1) := by decide +kernel
theorem dX0_pin_53 : decode cX0_pin 53 = .ok (.iand, 1) := by decide +kernel
theorem dX0_pin_54 : decode cX0_pin 54 = .ok (.putfield 36, 3) := by decide +kernel
theorem dX0_pin_57 : decode cX0_pin 57 = .ok (.return_, 1) := by decide +kernel
theorem dX0_measure_0 : decode cX0_measure 0 = .ok (.iconst 0, 1) := by decide +kernel
theorem dX0_measure_1 : decode cX0_measure 1 = .ok (.istore_n 1, 1) := by decide +kernel
theorem dX0_measure_2 : decode cX0_measure 2 = .ok (.iconst 0, 1) := by decide +kernel
theorem dX0_measure_3 : decode cX0_measure 3 = .ok (.istore_n 2, 1) := by decide +kernel
theorem dX0_measure_4 : decode cX0_measure 4 = .ok (.iload_n 2, 1) := by decide +kernel
theorem dX0_measure_5 : decode cX0_measure 5 = .ok (.aload_n 0, 1) := by decide +kernel
theorem dX0_measure_6 : decode cX0_measure 6 = .ok (.getfield 40, 3) := by decide +kernel
theorem dX0_measure_9 : decode cX0_measure 9 = .ok (.if_icmp .ge 125, 3) := by decide +kernel
theorem dX0_measure_12 : decode cX0_measure 12 = .ok (.aload_n 0, 1) := by decide +kernel
theorem dX0_measure_13 : decode cX0_measure 13 = .ok (.getfield 30, 3) := by decide +kernel
theorem dX0_measure_16 : decode cX0_measure 16 = .ok (.iload_n 2, 1) := by decide +kernel
theorem dX0_measure_17 : decode cX0_measure 17 = .ok (.iconst 0, 1) := by decide +kernel
theorem dX0_measure_18 : decode cX0_measure 18 = .ok (.iastore, 1) := by decide +kernel
theorem dX0_measure_19 : decode cX0_measure 19 = .ok (.iconst 0, 1) := by decide +kernel
theorem dX0_measure_20 : decode cX0_measure 20 = .ok (.istore_n 3, 1) := by decide +kernel
theorem dX0_measure_21 : decode cX0_measure 21 = .ok (.iload_n 3, 1) := by decide +kernel
theorem dX0_measure_22 : decode cX0_measure 22 = .ok (.iload_n 2, 1) := by decide +kernel
theorem dX0_measure_23 : decode cX0_measure 23 = .ok (.if_icmp .ge 105, 3) := by decide +kernel
theorem dX0_measure_26 : decode cX0_measure 26 = .ok (.aload_n 0, 1) := by decide +kernel
theorem dX0_measure_27 : decode cX0_measure 27 = .ok (.iload_n 2, 1) := by decide +kernel
theorem dX0_measure_28 : decode cX0_measure 28 = .ok (.iload_n 3, 1) := by decide +kernel
theorem dX0_measure_29 : decode cX0_measure 29 = .ok (.invokevirtual 68, 3) := by decide +kernel
theorem dX0_measure_32 : decode cX0_measure 32 = .ok (.istore 4, 2) := by decide +kernel
theorem dX0_measure_34 : decode cX0_measure 34 = .ok (.iload_n 1, 1) := by decide +kernel
theorem dX0_measure_35 : decode cX0_measure 35 = .ok (.iload 4, 2) := by decide +kernel
theorem dX0_measure_37 : decode cX0_measure 37 = .ok (.aload_n 0, 1) := by decide +kernel
theorem dX0_measure_38 : decode cX0_measure 38 = .ok (.getfield 27, 3) := by decide +kernel
theorem dX0_measure_41 : decode cX0_measure 41 = .ok (.iload_n 2, 1) := by decide +kernel
theorem dX0_measure_42 : decode cX0_measure 42 = .ok (.bipush 8, 2) := by decide +kernel
theorem dX0_measure_44 : decode cX0_measure 44 = .ok (.imul, 1) := by decide +kernel
theorem dX0_measure_45 : decode cX0_measure 45 = .ok (.iload_n 3, 1) := by decide +kernel
theorem dX0_measure_46 : decode cX0_measure 46 = .ok (.iadd, 1) := by decide +kernel
theorem dX0_measure_47 : decode cX0_measure 47 = .ok (.iaload, 1) := by decide +kernel
theorem dX0_measure_48 : decode cX0_measure 48 = .ok (.if_icmp .eq 7, 3) := by decide +kernel
theorem dX0_measure_51 : decode cX0_measure 51 = .ok (.iconst 1, 1) := by decide +kernel
theorem dX0_measure_52 : decode cX0_measure 52 = .ok (.goto 4, 3) := by decide +kernel
theorem dX0_measure_55 : decode cX0_measure 55 = .ok (.iconst 0, 1) := by decide +kernel
theorem dX0_measure_56 : decode cX0_measure 56 = .ok (.ior, 1) := by decide +kernel
theorem dX0_measure_57 : decode cX0_measure 57 = .ok (.istore_n 1, 1) := by decide +kernel
theorem dX0_measure_58 : decode cX0_measure 58 = .ok (.aload_n 0, 1) := by decide +kernel
theorem dX0_measure_59 : decode cX0_measure 59 = .ok (.getfield 27, 3) := by decide +kernel
theorem dX0_measure_62 : decode cX0_measure 62 = .ok (.iload_n 2, 1) := by decide +kernel
theorem dX0_measure_63 : decode cX0_measure 63 = .ok (.bipush 8, 2) := by decide +kernel
theorem dX0_measure_65 : decode cX0_measure 65 = .ok (.imul, 1) := by decide +kernel
theorem dX0_measure_66 : decode cX0_measure 66 = .ok (.iload_n 3, 1) := by decide +kernel
theorem dX0_measure_67 : decode cX0_measure 67 = .ok (.iadd, 1) := by decide +kernel
theorem dX0_measure_68 : decode cX0_measure 68 = .ok (.iload 4, 2) := by decide +kernel
theorem dX0_measure_70 : decode cX0_measure 70 = .ok (.iastore, 1) := by decide +kernel
theorem dX0_measure_71 : decode cX0_measure 71 = .ok (.aload_n 0, 1) := by decide +kernel
theorem dX0_measure_72 : decode cX0_measure 72 = .ok (.getfield 27, 3) := by decide +kernel
theorem dX0_measure_75 : decode cX0_measure 75 = .ok (.iload_n 3, 1) := by decide +kernel
theorem dX0_measure_76 : decode cX0_measure 76 = .ok (.bipush 8, 2) := by decide +kernel
theorem dX0_measure_78 : decode cX0_measure 78 = .ok (.imul, 1) := by decide +kernel
theorem dX0_measure_79 : decode cX0_measure 79 = .ok (.iload_n 2, 1) := by decide +kernel
theorem dX0_measure_80 : decode cX0_measure 80 = .ok (.iadd, 1) := by decide +kernel
theorem dX0_measure_81 : decode cX0_measure 81 = .ok (.iload 4, 2) := by decide +kernel
theorem dX0_measure_83 : decode cX0_measure 83 = .ok (.iastore, 1) := by decide +kernel
theorem dX0_measure_84 : decode cX0_measure 84 = .ok (.aload_n 0, 1) := by decide +kernel
theorem dX0_measure_85 : decode cX0_measure 85 = .ok (.getfield 30, 3) := by decide +kernel
theorem dX0_measure_88 : decode cX0_measure 88 = .ok (.iload_n 2, 1) := by decide +kernel
theorem dX0_measure_89 : decode cX0_measure 89 = .ok (.dup2, 1) := by decide +kernel
theorem dX0_measure_90 : decode cX0_measure 90 = .ok (.iaload, 1) := by decide +kernel
theorem dX0_measure_91 : decode cX0_measure 91 = .ok (.iload 4, 2) := by decide +kernel
theorem dX0_measure_93 : decode cX0_measure 93 = .ok (.ifCond .le 7, 3) := by decide +kernel
theorem dX0_measure_96 : decode cX0_measure 96 = .ok (.iconst 1, 1) := by decide +kernel
theorem dX0_measure_97 : decode cX0_measure 97 = .ok (.goto 4, 3) := by decide +kernel
theorem dX0_measure_100 : decode cX0_measure 100 = .ok (.iconst 0, 1) := by decide +kernel
theorem dX0_measure_101 : decode cX0_measure 101 = .ok (.iadd, 1) := by decide +kernel
theorem dX0_measure_102 : decode cX0_measure 102 = .ok (.iastore, 1) := by decide +kernel
theorem dX0_measure_103 : decode cX0_measure 103 = .ok (.aload_n 0, 1) := by decide +kernel
theorem dX0_measure_104 : decode cX0_measure 104 = .ok (.getfield 30, 3) := by decide +kernel
theorem dX0_measure_107 : decode cX0_measure 107 = .ok (.iload_n 3, 1) := by decide +kernel
theorem dX0_measure_108 : decode cX0_measure 108 = .ok (.dup2, 1) := by decide +kernel
theorem dX0_measure_109 : decode cX0_measure 109 = .ok (.iaload, 1) := by decide +kernel
theorem dX0_measure_110 : decode cX0_measure 110 = .ok (.iload 4, 2) := by decide +kernel
theorem dX0_measure_112 : decode cX0_measure 112 = .ok (.ifCond .le 7, 3) := by decide +kernel
theorem dX0_measure_115 : decode cX0_measure 115 = .ok (.iconst 1, 1) := by decide +kernel
theorem dX0_measure_116 : decode cX0_measure 116 = .ok (.goto 4, 3) := by decide +kernel
theorem dX0_measure_119 : decode cX0_measure 119 = .ok (.iconst 0, 1) := by decide +kernel
theorem dX0_measure_120 : decode cX0_measure 120 = .ok (.iadd, 1) := by decide +kernel
theorem dX0_measure_121 : decode cX0_measure 121 = .ok (.iastore, 1) := by decide +kernel
theorem dX0_measure_122 : decode cX0_measure 122 = .ok (.iinc 3 1, 3) := by decide +kernel
theorem dX0_measure_125 : decode cX0_measure 125 = .ok (.goto (-104), 3) := by decide +kernel
theorem dX0_measure_128 : decode cX0_measure 128 = .ok (.iinc 2 1, 3) := by decide +kernel
theorem dX0_measure_131 : decode cX0_measure 131 = .ok (.goto (-127), 3) := by decide +kernel
theorem dX0_measure_134 : decode cX0_measure 134 = .ok (.iload_n 1, 1) := by decide +kernel
theorem dX0_measure_135 : decode cX0_measure 135 = .ok (.ireturn, 1) := by decide +kernel
theorem dX0_gapByRules_0 : decode cX0_gapByRules 0 = .ok (.aload_n 0, 1) := by decide +kernel
theorem dX0_gapByRules_1 : decode cX0_gapByRules 1 = .ok (.getfield 9, 3) := by decide +kernel
theorem dX0_gapByRules_4 : decode cX0_gapByRules 4 = .ok (.iload_n 1, 1) := by decide +kernel
theorem dX0_gapByRules_5 : decode cX0_gapByRules 5 = .ok (.iaload, 1) := by decide +kernel
theorem dX0_gapByRules_6 : decode cX0_gapByRules 6 = .ok (.aload_n 0, 1) := by decide +kernel
theorem dX0_gapByRules_7 : decode cX0_gapByRules 7 = .ok (.getfield 9, 3) := by decide +kernel
theorem dX0_gapByRules_10 : decode cX0_gapByRules 10 = .ok (.iload_n 2, 1) := by decide +kernel
theorem dX0_gapByRules_11 : decode cX0_gapByRules 11 = .ok (.iaload, 1) := by decide +kernel
theorem dX0_gapByRules_12 : decode cX0_gapByRules 12 = .ok (.isub, 1) := by decide +kernel
theorem dX0_gapByRules_13 : decode cX0_gapByRules 13 = .ok (.istore_n 3, 1) := by decide +kernel
theorem dX0_gapByRules_14 : decode cX0_gapByRules 14 = .ok (.aload_n 0, 1) := by decide +kernel
theorem dX0_gapByRules_15 : decode cX0_gapByRules 15 = .ok (.getfield 15, 3) := by decide +kernel
theorem dX0_gapByRules_18 : decode cX0_gapByRules 18 = .ok (.iload_n 1, 1) := by decide +kernel
theorem dX0_gapByRules_19 : decode cX0_gapByRules 19 = .ok (.iaload, 1) := by decide +kernel
theorem dX0_gapByRules_20 : decode cX0_gapByRules 20 = .ok (.aload_n 0, 1) := by decide +kernel
theorem dX0_gapByRules_21 : decode cX0_gapByRules 21 = .ok (.getfield 15, 3) := by decide +kernel
theorem dX0_gapByRules_24 : decode cX0_gapByRules 24 = .ok (.iload_n 2, 1) := by decide +kernel
theorem dX0_gapByRules_25 : decode cX0_gapByRules 25 = .ok (.iaload, 1) := by decide +kernel
theorem dX0_gapByRules_26 : decode cX0_gapByRules 26 = .ok (.isub, 1) := by decide +kernel
theorem dX0_gapByRules_27 : decode cX0_gapByRules 27 = .ok (.istore 4, 2) := by decide +kernel
theorem dX0_gapByRules_29 : decode cX0_gapByRules 29 = .ok (.iload_n 3, 1) := by decide +kernel
theorem dX0_gapByRules_30 : decode cX0_gapByRules 30 = .ok (.iload_n 3, 1) := by decide +kernel
theorem dX0_gapByRules_31 : decode cX0_gapByRules 31 = .ok (.imul, 1) := by decide +kernel
theorem dX0_gapByRules_32 : decode cX0_gapByRules 32 = .ok (.iload 4, 2) := by decide +kernel
theorem dX0_gapByRules_34 : decode cX0_gapByRules 34 = .ok (.iload 4, 2) := by decide +kernel
theorem dX0_gapByRules_36 : decode cX0_gapByRules 36 = .ok (.imul, 1) := by decide +kernel
theorem dX0_gapByRules_37 : decode cX0_gapByRules 37 = .ok (.iadd, 1) := by decide +kernel
theorem dX0_gapByRules_38 : decode cX0_gapByRules 38 = .ok (.istore 5, 2) := by decide +kernel
theorem dX0_gapByRules_40 : decode cX0_gapByRules 40 = .ok (.iconst 0, 1) := by decide +kernel
theorem dX0_gapByRules_41 : decode cX0_gapByRules 41 = .ok (.istore 6, 2) := by decide +kernel
theorem dX0_gapByRules_43 : decode cX0_gapByRules 43 = .ok (.iconst 0, 1) := by decide +kernel
theorem dX0_gapByRules_44 : decode cX0_gapByRules 44 = .ok (.istore 7, 2) := by decide +kernel
theorem dX0_gapByRules_46 : decode cX0_gapByRules 46 = .ok (.iload 7, 2) := by decide +kernel
theorem dX0_gapByRules_48 : decode cX0_gapByRules 48 = .ok (.iconst 3, 1) := by decide +kernel
theorem dX0_gapByRules_49 : decode cX0_gapByRules 49 = .ok (.if_icmp .ge 50, 3) := by decide +kernel
theorem dX0_gapByRules_52 : decode cX0_gapByRules 52 = .ok (.iload 5, 2) := by decide +kernel
theorem dX0_gapByRules_54 : decode cX0_gapByRules 54 = .ok (.aload_n 0, 1) := by decide +kernel
theorem dX0_gapByRules_55 : decode cX0_gapByRules 55 = .ok (.getfield 21, 3) := by decide +kernel
theorem dX0_gapByRules_58 : decode cX0_gapByRules 58 = .ok (.iload 7, 2) := by decide +kernel
theorem dX0_gapByRules_60 : decode cX0_gapByRules 60 = .ok (.iaload, 1) := by decide +kernel
theorem dX0_gapByRules_61 : decode cX0_gapByRules 61 = .ok (.aload_n 0, 1) := by decide +kernel
theorem dX0_gapByRules_62 : decode cX0_gapByRules 62 = .ok (.getfield 21, 3) := by decide +kernel
theorem dX0_gapByRules_65 : decode cX0_gapByRules 65 = .ok (.iload 7, 2) := by decide +kernel
theorem dX0_gapByRules_67 : decode cX0_gapByRules 67 = .ok (.iaload, 1) := by decide +kernel
theorem dX0_gapByRules_68 : decode cX0_gapByRules 68 = .ok (.imul, 1) := by decide +kernel
theorem dX0_gapByRules_69 : decode cX0_gapByRules 69 = .ok (.if_icmp .gt 24, 3) := by decide +kernel
theorem dX0_gapByRules_72 : decode cX0_gapByRules 72 = .ok (.aload_n 0, 1) := by decide +kernel
theorem dX0_gapByRules_73 : decode cX0_gapByRules 73 = .ok (.getfield 24, 3) := by decide +kernel
theorem dX0_gapByRules_76 : decode cX0_gapByRules 76 = .ok (.iload 7, 2) := by decide +kernel
theorem dX0_gapByRules_78 : decode cX0_gapByRules 78 = .ok (.iaload, 1) := by decide +kernel
theorem dX0_gapByRules_79 : decode cX0_gapByRules 79 = .ok (.iload 6, 2) := by decide +kernel
theorem dX0_gapByRules_81 : decode cX0_gapByRules 81 = .ok (.if_icmp .le 12, 3) := by decide +kernel
theorem dX0_gapByRules_84 : decode cX0_gapByRules 84 = .ok (.aload_n 0, 1) := by decide +kernel
theorem dX0_gapByRules_85 : decode cX0_gapByRules 85 = .ok (.getfield 24, 3) := by decide +kernel
theorem dX0_gapByRules_88 : decode cX0_gapByRules 88 = .ok (.iload 7, 2) := by decide +kernel
theorem dX0_gapByRules_90 : decode cX0_gapByRules 90 = .ok (.iaload, 1) := by decide +kernel
theorem dX0_gapByRules_91 : decode cX0_gapByRules 91 = .ok (.istore 6, 2) := by decide +kernel
theorem dX0_gapByRules_93 : decode cX0_gapByRules 93 = .ok (.iinc 7 1, 3) := by decide +kernel
theorem dX0_gapByRules_96 : decode cX0_gapByRules 96 = .ok (.goto (-50), 3) := by decide +kernel
theorem dX0_gapByRules_99 : decode cX0_gapByRules 99 = .ok (.iload 6, 2) := by decide +kernel
theorem dX0_gapByRules_101 : decode cX0_gapByRules 101 = .ok (.ireturn, 1) := by decide +kernel
theorem dX0_rulesInForce_0 : decode cX0_rulesInForce 0 = .ok (.iconst 0, 1) := by decide +kernel
theorem dX0_rulesInForce_1 : decode cX0_rulesInForce 1 = .ok (.istore_n 1, 1) := by decide +kernel
theorem dX0_rulesInForce_2 : decode cX0_rulesInForce 2 = .ok (.iconst 0, 1) := by decide +kernel
theorem dX0_rulesInForce_3 : decode cX0_rulesInForce 3 = .ok (.istore_n 2, 1) := by decide +kernel
theorem dX0_rulesInForce_4 : decode cX0_rulesInForce 4 = .ok (.iload_n 2, 1) := by decide +kernel
theorem dX0_rulesInForce_5 : decode cX0_rulesInForce 5 = .ok (.iconst 3, 1) := by decide +kernel
theorem dX0_rulesInForce_6 : decode cX0_rulesInForce 6 = .ok (.if_icmp .ge 26, 3) := by decide +kernel
theorem dX0_rulesInForce_9 : decode cX0_rulesInForce 9 = .ok (.iload_n 1, 1) := by decide +kernel
theorem dX0_rulesInForce_10 : decode cX0_rulesInForce 10 = .ok (.aload_n 0, 1) := by decide +kernel
theorem dX0_rulesInForce_11 : decode cX0_rulesInForce 11 = .ok (.getfield 21, 3) := by decide +kernel
theorem dX0_rulesInForce_14 : decode cX0_rulesInForce 14 = .ok (.iload_n 2, 1) := by decide +kernel
theorem dX0_rulesInForce_15 : decode cX0_rulesInForce 15 = .ok (.iaload, 1) := by decide +kernel
theorem dX0_rulesInForce_16 : decode cX0_rulesInForce 16 = .ok (.ifCond .le 7, 3) := by decide +kernel
theorem dX0_rulesInForce_19 : decode cX0_rulesInForce 19 = .ok (.iconst 1, 1) := by decide +kernel
theorem dX0_rulesInForce_20 : decode cX0_rulesInForce 20 = .ok (.goto 4, 3) := by decide +kernel
theorem dX0_rulesInForce_23 : decode cX0_rulesInForce 23 = .ok (.iconst 0, 1) := by decide +kernel
theorem dX0_rulesInForce_24 : decode cX0_rulesInForce 24 = .ok (.iadd, 1) := by decide +kernel
theorem dX0_rulesInForce_25 : decode cX0_rulesInForce 25 = .ok (.istore_n 1, 1) := by decide +kernel
theorem dX0_rulesInForce_26 : decode cX0_rulesInForce 26 = .ok (.iinc 2 1, 3) := by decide +kernel
theorem dX0_rulesInForce_29 : decode cX0_rulesInForce 29 = .ok (.goto (-25), 3) := by decide +kernel
theorem dX0_rulesInForce_32 : decode cX0_rulesInForce 32 = .ok (.iload_n 1, 1) := by decide +kernel
theorem dX0_rulesInForce_33 : decode cX0_rulesInForce 33 = .ok (.ireturn, 1) := by decide +kernel
theorem dX0_allowedFor_0 : decode cX0_allowedFor 0 = .ok (.ldc 71, 2) := by decide +kernel
theorem dX0_allowedFor_2 : decode cX0_allowedFor 2 = .ok (.istore_n 2, 1) := by decide +kernel
theorem dX0_allowedFor_3 : decode cX0_allowedFor 3 = .ok (.iconst 0, 1) := by decide +kernel
theorem dX0_allowedFor_4 : decode cX0_allowedFor 4 = .ok (.istore_n 3, 1) := by decide +kernel
theorem dX0_allowedFor_5 : decode cX0_allowedFor 5 = .ok (.iload_n 3, 1) := by decide +kernel
theorem dX0_allowedFor_6 : decode cX0_allowedFor 6 = .ok (.aload_n 0, 1) := by decide +kernel
theorem dX0_allowedFor_7 : decode cX0_allowedFor 7 = .ok (.getfield 40, 3) := by decide +kernel
theorem dX0_allowedFor_10 : decode cX0_allowedFor 10 = .ok (.if_icmp .ge 29, 3) := by decide +kernel
theorem dX0_allowedFor_13 : decode cX0_allowedFor 13 = .ok (.iload_n 2, 1) := by decide +kernel
theorem dX0_allowedFor_14 : decode cX0_allowedFor 14 = .ok (.aload_n 0, 1) := by decide +kernel
theorem dX0_allowedFor_15 : decode cX0_allowedFor 15 = .ok (.getfield 18, 3) := by decide +kernel
theorem dX0_allowedFor_18 : decode cX0_allowedFor 18 = .ok (.iload_n 3, 1) := by decide +kernel
theorem dX0_allowedFor_19 : decode cX0_allowedFor 19 = .ok (.iaload, 1) := by decide +kernel
theorem dX0_allowedFor_20 : decode cX0_allowedFor 20 = .ok (.aload_n 0, 1) := by decide +kernel
theorem dX0_allowedFor_21 : decode cX0_allowedFor 21 = .ok (.iload_n 1, 1) := by decide +kernel
theorem dX0_allowedFor_22 : decode cX0_allowedFor 22 = .ok (.iload_n 3, 1) := by decide +kernel
theorem dX0_allowedFor_23 : decode cX0_allowedFor 23 = .ok (.invokevirtual 72, 3) := by decide +kernel
theorem dX0_allowedFor_26 : decode cX0_allowedFor 26 = .ok (.invokestatic 75, 3) := by decide +kernel
theorem dX0_allowedFor_29 : decode cX0_allowedFor 29 = .ok (.iconst (-1), 1) := by decide +kernel
theorem dX0_allowedFor_30 : decode cX0_allowedFor 30 = .ok (.ixor, 1) := by decide +kernel
theorem dX0_allowedFor_31 : decode cX0_allowedFor 31 = .ok (.iand, 1) := by decide +kernel
theorem dX0_allowedFor_32 : decode cX0_allowedFor 32 = .ok (.istore_n 2, 1) := by decide +kernel
theorem dX0_allowedFor_33 : decode cX0_allowedFor 33 = .ok (.iinc 3 1, 3) := by decide +kernel
theorem dX0_allowedFor_36 : decode cX0_allowedFor 36 = .ok (.goto (-31), 3) := by decide +kernel
theorem dX0_allowedFor_39 : decode cX0_allowedFor 39 = .ok (.iload_n 2, 1) := by decide +kernel
theorem dX0_allowedFor_40 : decode cX0_allowedFor 40 = .ok (.ireturn, 1) := by decide +kernel
theorem dX0_neighboursOf_0 : decode cX0_neighboursOf 0 = .ok (.aload_n 0, 1) := by decide +kernel
theorem dX0_neighboursOf_1 : decode cX0_neighboursOf 1 = .ok (.iload_n 1, 1) := by decide +kernel
theorem dX0_neighboursOf_2 : decode cX0_neighboursOf 2 = .ok (.invokevirtual 49, 3) := by decide +kernel
theorem dX0_neighboursOf_5 : decode cX0_neighboursOf 5 = .ok (.ifCond .eq 12, 3) := by decide +kernel
theorem dX0_neighboursOf_8 : decode cX0_neighboursOf 8 = .ok (.aload_n 0, 1) := by decide +kernel
theorem dX0_neighboursOf_9 : decode cX0_neighboursOf 9 = .ok (.getfield 30, 3) := by decide +kernel
theorem dX0_neighboursOf_12 : decode cX0_neighboursOf 12 = .ok (.iload_n 1, 1) := by decide +kernel
theorem dX0_neighboursOf_13 : decode cX0_neighboursOf 13 = .ok (.iaload, 1) := by decide +kernel
theorem dX0_neighboursOf_14 : decode cX0_neighboursOf 14 = .ok (.goto 4, 3) := by decide +kernel
theorem dX0_neighboursOf_17 : decode cX0_neighboursOf 17 = .ok (.iconst (-1), 1) := by decide +kernel
theorem dX0_neighboursOf_18 : decode cX0_neighboursOf 18 = .ok (.ireturn, 1) := by decide +kernel
theorem dX0_clashesOf_0 : decode cX0_clashesOf 0 = .ok (.aload_n 0, 1) := by decide +kernel
theorem dX0_clashesOf_1 : decode cX0_clashesOf 1 = .ok (.iload_n 1, 1) := by decide +kernel
theorem dX0_clashesOf_2 : decode cX0_clashesOf 2 = .ok (.invokevirtual 53, 3) := by decide +kernel
theorem dX0_clashesOf_5 : decode cX0_clashesOf 5 = .ok (.istore_n 2, 1) := by decide +kernel
theorem dX0_clashesOf_6 : decode cX0_clashesOf 6 = .ok (.iload_n 2, 1) := by decide +kernel
theorem dX0_clashesOf_7 : decode cX0_clashesOf 7 = .ok (.iconst (-1), 1) := by decide +kernel
theorem dX0_clashesOf_8 : decode cX0_clashesOf 8 = .ok (.if_icmp .ne 5, 3) := by decide +kernel
theorem dX0_clashesOf_11 : decode cX0_clashesOf 11 = .ok (.iconst 0, 1) := by decide +kernel
theorem dX0_clashesOf_12 : decode cX0_clashesOf 12 = .ok (.ireturn, 1) := by decide +kernel
theorem dX0_clashesOf_13 : decode cX0_clashesOf 13 = .ok (.iconst 0, 1) := by decide +kernel
theorem dX0_clashesOf_14 : decode cX0_clashesOf 14 = .ok (.istore_n 3, 1) := by decide +kernel
theorem dX0_clashesOf_15 : decode cX0_clashesOf 15 = .ok (.iconst 0, 1) := by decide +kernel
theorem dX0_clashesOf_16 : decode cX0_clashesOf 16 = .ok (.istore 4, 2) := by decide +kernel
theorem dX0_clashesOf_18 : decode cX0_clashesOf 18 = .ok (.iload 4, 2) := by decide +kernel
theorem dX0_clashesOf_20 : decode cX0_clashesOf 20 = .ok (.aload_n 0, 1) := by decide +kernel
theorem dX0_clashesOf_21 : decode cX0_clashesOf 21 = .ok (.getfield 40, 3) := by decide +kernel
theorem dX0_clashesOf_24 : decode cX0_clashesOf 24 = .ok (.if_icmp .ge 33, 3) := by decide +kernel
theorem dX0_clashesOf_27 : decode cX0_clashesOf 27 = .ok (.iload_n 3, 1) := by decide +kernel
theorem dX0_clashesOf_28 : decode cX0_clashesOf 28 = .ok (.aload_n 0, 1) := by decide +kernel
theorem dX0_clashesOf_29 : decode cX0_clashesOf 29 = .ok (.getfield 18, 3) := by decide +kernel
theorem dX0_clashesOf_32 : decode cX0_clashesOf 32 = .ok (.iload 4, 2) := by decide +kernel
theorem dX0_clashesOf_34 : decode cX0_clashesOf 34 = .ok (.iaload, 1) := by decide +kernel
theorem dX0_clashesOf_35 : decode cX0_clashesOf 35 = .ok (.aload_n 0, 1) := by decide +kernel
theorem dX0_clashesOf_36 : decode cX0_clashesOf 36 = .ok (.iload_n 1, 1) := by decide +kernel
theorem dX0_clashesOf_37 : decode cX0_clashesOf 37 = .ok (.iload 4, 2) := by decide +kernel
theorem dX0_clashesOf_39 : decode cX0_clashesOf 39 = .ok (.invokevirtual 72, 3) := by decide +kernel
theorem dX0_clashesOf_42 : decode cX0_clashesOf 42 = .ok (.invokestatic 75, 3) := by decide +kernel
theorem dX0_clashesOf_45 : decode cX0_clashesOf 45 = .ok (.iload_n 2, 1) := by decide +kernel
theorem dX0_clashesOf_46 : decode cX0_clashesOf 46 = .ok (.ishr, 1) := by decide +kernel
theorem dX0_clashesOf_47 : decode cX0_clashesOf 47 = .ok (.iconst 1, 1) := by decide +kernel
theorem dX0_clashesOf_48 : decode cX0_clashesOf 48 = .ok (.iand, 1) := by decide +kernel
theorem dX0_clashesOf_49 : decode cX0_clashesOf 49 = .ok (.iadd, 1) := by decide +kernel
theorem dX0_clashesOf_50 : decode cX0_clashesOf 50 = .ok (.istore_n 3, 1) := by decide +kernel
theorem dX0_clashesOf_51 : decode cX0_clashesOf 51 = .ok (.iinc 4 1, 3) := by decide +kernel
theorem dX0_clashesOf_54 : decode cX0_clashesOf 54 = .ok (.goto (-36), 3) := by decide +kernel
theorem dX0_clashesOf_57 : decode cX0_clashesOf 57 = .ok (.iload_n 3, 1) := by decide +kernel
theorem dX0_clashesOf_58 : decode cX0_clashesOf 58 = .ok (.ireturn, 1) := by decide +kernel
theorem dX0_clashes_0 : decode cX0_clashes 0 = .ok (.iconst 0, 1) := by decide +kernel
theorem dX0_clashes_1 : decode cX0_clashes 1 = .ok (.istore_n 1, 1) := by decide +kernel
theorem dX0_clashes_2 : decode cX0_clashes 2 = .ok (.iconst 0, 1) := by decide +kernel
theorem dX0_clashes_3 : decode cX0_clashes 3 = .ok (.istore_n 2, 1) := by decide +kernel
theorem dX0_clashes_4 : decode cX0_clashes 4 = .ok (.iload_n 2, 1) := by decide +kernel
theorem dX0_clashes_5 : decode cX0_clashes 5 = .ok (.aload_n 0, 1) := by decide +kernel
theorem dX0_clashes_6 : decode cX0_clashes 6 = .ok (.getfield 40, 3) := by decide +kernel
theorem dX0_clashes_9 : decode cX0_clashes 9 = .ok (.if_icmp .ge 17, 3) := by decide +kernel
theorem dX0_clashes_12 : decode cX0_clashes 12 = .ok (.iload_n 1, 1) := by decide +kernel
theorem dX0_clashes_13 : decode cX0_clashes 13 = .ok (.aload_n 0, 1) := by decide +kernel
theorem dX0_clashes_14 : decode cX0_clashes 14 = .ok (.iload_n 2, 1) := by decide +kernel
theorem dX0_clashes_15 : decode cX0_clashes 15 = .ok (.invokevirtual 78, 3) := by decide +kernel
theorem dX0_clashes_18 : decode cX0_clashes 18 = .ok (.iadd, 1) := by decide +kernel
theorem dX0_clashes_19 : decode cX0_clashes 19 = .ok (.istore_n 1, 1) := by decide +kernel
theorem dX0_clashes_20 : decode cX0_clashes 20 = .ok (.iinc 2 1, 3) := by decide +kernel
theorem dX0_clashes_23 : decode cX0_clashes 23 = .ok (.goto (-19), 3) := by decide +kernel
theorem dX0_clashes_26 : decode cX0_clashes 26 = .ok (.iload_n 1, 1) := by decide +kernel
theorem dX0_clashes_27 : decode cX0_clashes 27 = .ok (.iconst 2, 1) := by decide +kernel
theorem dX0_clashes_28 : decode cX0_clashes 28 = .ok (.idiv, 1) := by decide +kernel
theorem dX0_clashes_29 : decode cX0_clashes 29 = .ok (.ireturn, 1) := by decide +kernel
theorem dX0_span_0 : decode cX0_span 0 = .ok (.aload_n 0, 1) := by decide +kernel
theorem dX0_span_1 : decode cX0_span 1 = .ok (.invokevirtual 81, 3) := by decide +kernel
theorem dX0_span_4 : decode cX0_span 4 = .ok (.istore_n 1, 1) := by decide +kernel
theorem dX0_span_5 : decode cX0_span 5 = .ok (.iload_n 1, 1) := by decide +kernel
theorem dX0_span_6 : decode cX0_span 6 = .ok (.ifCond .ne 5, 3) := by decide +kernel
theorem dX0_span_9 : decode cX0_span 9 = .ok (.iconst 0, 1) := by decide +kernel
theorem dX0_span_10 : decode cX0_span 10 = .ok (.ireturn, 1) := by decide +kernel
theorem dX0_span_11 : decode cX0_span 11 = .ok (.iconst 0, 1) := by decide +kernel
theorem dX0_span_12 : decode cX0_span 12 = .ok (.istore_n 2, 1) := by decide +kernel
theorem dX0_span_13 : decode cX0_span 13 = .ok (.iconst 0, 1) := by decide +kernel
theorem dX0_span_14 : decode cX0_span 14 = .ok (.istore_n 3, 1) := by decide +kernel
theorem dX0_span_15 : decode cX0_span 15 = .ok (.iload_n 3, 1) := by decide +kernel
theorem dX0_span_16 : decode cX0_span 16 = .ok (.bipush 20, 2) := by decide +kernel
theorem dX0_span_18 : decode cX0_span 18 = .ok (.if_icmp .ge 24, 3) := by decide +kernel
theorem dX0_span_21 : decode cX0_span 21 = .ok (.iload_n 1, 1) := by decide +kernel
theorem dX0_span_22 : decode cX0_span 22 = .ok (.iload_n 3, 1) := by decide +kernel
theorem dX0_span_23 : decode cX0_span 23 = .ok (.ishr, 1) := by decide +kernel
theorem dX0_span_24 : decode cX0_span 24 = .ok (.iconst 1, 1) := by decide +kernel
theorem dX0_span_25 : decode cX0_span 25 = .ok (.iand, 1) := by decide +kernel
theorem dX0_span_26 : decode cX0_span 26 = .ok (.iconst 1, 1) := by decide +kernel
theorem dX0_span_27 : decode cX0_span 27 = .ok (.if_icmp .ne 7, 3) := by decide +kernel
theorem dX0_span_30 : decode cX0_span 30 = .ok (.iload_n 3, 1) := by decide +kernel
theorem dX0_span_31 : decode cX0_span 31 = .ok (.goto 4, 3) := by decide +kernel
theorem dX0_span_34 : decode cX0_span 34 = .ok (.iload_n 2, 1) := by decide +kernel
theorem dX0_span_35 : decode cX0_span 35 = .ok (.istore_n 2, 1) := by decide +kernel
theorem dX0_span_36 : decode cX0_span 36 = .ok (.iinc 3 1, 3) := by decide +kernel
theorem dX0_span_39 : decode cX0_span 39 = .ok (.goto (-24), 3) := by decide +kernel
theorem dX0_span_42 : decode cX0_span 42 = .ok (.iload_n 2, 1) := by decide +kernel
theorem dX0_span_43 : decode cX0_span 43 = .ok (.iload_n 1, 1) := by decide +kernel
theorem dX0_span_44 : decode cX0_span 44 = .ok (.invokestatic 85, 3) := by decide +kernel
theorem dX0_span_47 : decode cX0_span 47 = .ok (.isub, 1) := by decide +kernel
theorem dX0_span_48 : decode cX0_span 48 = .ok (.iconst 1, 1) := by decide +kernel
theorem dX0_span_49 : decode cX0_span 49 = .ok (.iadd, 1) := by decide +kernel
theorem dX0_span_50 : decode cX0_span 50 = .ok (.ireturn, 1) := by decide +kernel
theorem dX0_usedChannels_0 : decode cX0_usedChannels 0 = .ok (.iconst 0, 1) := by decide +kernel
theorem dX0_usedChannels_1 : decode cX0_usedChannels 1 = .ok (.istore_n 1, 1) := by decide +kernel
theorem dX0_usedChannels_2 : decode cX0_usedChannels 2 = .ok (.iconst 0, 1) := by decide +kernel
theorem dX0_usedChannels_3 : decode cX0_usedChannels 3 = .ok (.istore_n 2, 1) := by decide +kernel
theorem dX0_usedChannels_4 : decode cX0_usedChannels 4 = .ok (.iload_n 2, 1) := by decide +kernel
theorem dX0_usedChannels_5 : decode cX0_usedChannels 5 = .ok (.aload_n 0, 1) := by decide +kernel
theorem dX0_usedChannels_6 : decode cX0_usedChannels 6 = .ok (.getfield 40, 3) := by decide +kernel
theorem dX0_usedChannels_9 : decode cX0_usedChannels 9 = .ok (.if_icmp .ge 22, 3) := by decide +kernel
theorem dX0_usedChannels_12 : decode cX0_usedChannels 12 = .ok (.iload_n 1, 1) := by decide +kernel
theorem dX0_usedChannels_13 : decode cX0_usedChannels 13 = .ok (.aload_n 0, 1) := by decide +kernel
theorem dX0_usedChannels_14 : decode cX0_usedChannels 14 = .ok (.getfield 18, 3) := by decide +kernel
theorem dX0_usedChannels_17 : decode cX0_usedChannels 17 = .ok (.iload_n 2, 1) := by decide +kernel
theorem dX0_usedChannels_18 : decode cX0_usedChannels 18 = .ok (.iaload, 1) := by decide +kernel
theorem dX0_usedChannels_19 : decode cX0_usedChannels 19 = .ok (.iconst 1, 1) := by decide +kernel
theorem dX0_usedChannels_20 : decode cX0_usedChannels 20 = .ok (.invokestatic 75, 3) := by decide +kernel
theorem dX0_usedChannels_23 : decode cX0_usedChannels 23 = .ok (.ior, 1) := by decide +kernel
theorem dX0_usedChannels_24 : decode cX0_usedChannels 24 = .ok (.istore_n 1, 1) := by decide +kernel
theorem dX0_usedChannels_25 : decode cX0_usedChannels 25 = .ok (.iinc 2 1, 3) := by decide +kernel
theorem dX0_usedChannels_28 : decode cX0_usedChannels 28 = .ok (.goto (-24), 3) := by decide +kernel
theorem dX0_usedChannels_31 : decode cX0_usedChannels 31 = .ok (.iload_n 1, 1) := by decide +kernel
theorem dX0_usedChannels_32 : decode cX0_usedChannels 32 = .ok (.ireturn, 1) := by decide +kernel
theorem dX0_tuned_0 : decode cX0_tuned 0 = .ok (.iconst 0, 1) := by decide +kernel
theorem dX0_tuned_1 : decode cX0_tuned 1 = .ok (.istore_n 1, 1) := by decide +kernel
theorem dX0_tuned_2 : decode cX0_tuned 2 = .ok (.iconst 0, 1) := by decide +kernel
theorem dX0_tuned_3 : decode cX0_tuned 3 = .ok (.istore_n 2, 1) := by decide +kernel
theorem dX0_tuned_4 : decode cX0_tuned 4 = .ok (.iload_n 2, 1) := by decide +kernel
theorem dX0_tuned_5 : decode cX0_tuned 5 = .ok (.aload_n 0, 1) := by decide +kernel
theorem dX0_tuned_6 : decode cX0_tuned 6 = .ok (.getfield 40, 3) := by decide +kernel
theorem dX0_tuned_9 : decode cX0_tuned 9 = .ok (.if_icmp .ge 27, 3) := by decide +kernel
theorem dX0_tuned_12 : decode cX0_tuned 12 = .ok (.iload_n 1, 1) := by decide +kernel
theorem dX0_tuned_13 : decode cX0_tuned 13 = .ok (.aload_n 0, 1) := by decide +kernel
theorem dX0_tuned_14 : decode cX0_tuned 14 = .ok (.getfield 18, 3) := by decide +kernel
theorem dX0_tuned_17 : decode cX0_tuned 17 = .ok (.iload_n 2, 1) := by decide +kernel
theorem dX0_tuned_18 : decode cX0_tuned 18 = .ok (.iaload, 1) := by decide +kernel
theorem dX0_tuned_19 : decode cX0_tuned 19 = .ok (.iconst (-1), 1) := by decide +kernel
theorem dX0_tuned_20 : decode cX0_tuned 20 = .ok (.if_icmp .ne 7, 3) := by decide +kernel
theorem dX0_tuned_23 : decode cX0_tuned 23 = .ok (.iconst 0, 1) := by decide +kernel
theorem dX0_tuned_24 : decode cX0_tuned 24 = .ok (.goto 4, 3) := by decide +kernel
theorem dX0_tuned_27 : decode cX0_tuned 27 = .ok (.iconst 1, 1) := by decide +kernel
theorem dX0_tuned_28 : decode cX0_tuned 28 = .ok (.iadd, 1) := by decide +kernel
theorem dX0_tuned_29 : decode cX0_tuned 29 = .ok (.istore_n 1, 1) := by decide +kernel
theorem dX0_tuned_30 : decode cX0_tuned 30 = .ok (.iinc 2 1, 3) := by decide +kernel
theorem dX0_tuned_33 : decode cX0_tuned 33 = .ok (.goto (-29), 3) := by decide +kernel
theorem dX0_tuned_36 : decode cX0_tuned 36 = .ok (.iload_n 1, 1) := by decide +kernel
theorem dX0_tuned_37 : decode cX0_tuned 37 = .ok (.ireturn, 1) := by decide +kernel
theorem dX0_channelSum_0 : decode cX0_channelSum 0 = .ok (.iconst 0, 1) := by decide +kernel
theorem dX0_channelSum_1 : decode cX0_channelSum 1 = .ok (.istore_n 1, 1) := by decide +kernel
theorem dX0_channelSum_2 : decode cX0_channelSum 2 = .ok (.iconst 0, 1) := by decide +kernel
theorem dX0_channelSum_3 : decode cX0_channelSum 3 = .ok (.istore_n 2, 1) := by decide +kernel
theorem dX0_channelSum_4 : decode cX0_channelSum 4 = .ok (.iload_n 2, 1) := by decide +kernel
theorem dX0_channelSum_5 : decode cX0_channelSum 5 = .ok (.aload_n 0, 1) := by decide +kernel
theorem dX0_channelSum_6 : decode cX0_channelSum 6 = .ok (.getfield 40, 3) := by decide +kernel
theorem dX0_channelSum_9 : decode cX0_channelSum 9 = .ok (.if_icmp .ge 32, 3) := by decide +kernel
theorem dX0_channelSum_12 : decode cX0_channelSum 12 = .ok (.iload_n 1, 1) := by decide +kernel
theorem dX0_channelSum_13 : decode cX0_channelSum 13 = .ok (.aload_n 0, 1) := by decide +kernel
theorem dX0_channelSum_14 : decode cX0_channelSum 14 = .ok (.getfield 18, 3) := by decide +kernel
theorem dX0_channelSum_17 : decode cX0_channelSum 17 = .ok (.iload_n 2, 1) := by decide +kernel
theorem dX0_channelSum_18 : decode cX0_channelSum 18 = .ok (.iaload, 1) := by decide +kernel
theorem dX0_channelSum_19 : decode cX0_channelSum 19 = .ok (.iconst (-1), 1) := by decide +kernel
theorem dX0_channelSum_20 : decode cX0_channelSum 20 = .ok (.if_icmp .ne 7, 3) := by decide +kernel
theorem dX0_channelSum_23 : decode cX0_channelSum 23 = .ok (.iconst 0, 1) := by decide +kernel
theorem dX0_channelSum_24 : decode cX0_channelSum 24 = .ok (.goto 9, 3) := by decide +kernel
theorem dX0_channelSum_27 : decode cX0_channelSum 27 = .ok (.aload_n 0, 1) := by decide +kernel
theorem dX0_channelSum_28 : decode cX0_channelSum 28 = .ok (.getfield 18, 3) := by decide +kernel
theorem dX0_channelSum_31 : decode cX0_channelSum 31 = .ok (.iload_n 2, 1) := by decide +kernel
theorem dX0_channelSum_32 : decode cX0_channelSum 32 = .ok (.iaload, 1) := by decide +kernel
theorem dX0_channelSum_33 : decode cX0_channelSum 33 = .ok (.iadd, 1) := by decide +kernel
theorem dX0_channelSum_34 : decode cX0_channelSum 34 = .ok (.istore_n 1, 1) := by decide +kernel
theorem dX0_channelSum_35 : decode cX0_channelSum 35 = .ok (.iinc 2 1, 3) := by decide +kernel
theorem dX0_channelSum_38 : decode cX0_channelSum 38 = .ok (.goto (-34), 3) := by decide +kernel
theorem dX0_channelSum_41 : decode cX0_channelSum 41 = .ok (.iload_n 1, 1) := by decide +kernel
theorem dX0_channelSum_42 : decode cX0_channelSum 42 = .ok (.ireturn, 1) := by decide +kernel
theorem dX0_fixedBits_0 : decode cX0_fixedBits 0 = .ok (.aload_n 0, 1) := by decide +kernel
theorem dX0_fixedBits_1 : decode cX0_fixedBits 1 = .ok (.getfield 36, 3) := by decide +kernel
theorem dX0_fixedBits_4 : decode cX0_fixedBits 4 = .ok (.ireturn, 1) := by decide +kernel
theorem dX0_rankedAt_0 : decode cX0_rankedAt 0 = .ok (.iconst 0, 1) := by decide +kernel
theorem dX0_rankedAt_1 : decode cX0_rankedAt 1 = .ok (.istore_n 2, 1) := by decide +kernel
theorem dX0_rankedAt_2 : decode cX0_rankedAt 2 = .ok (.iconst 0, 1) := by decide +kernel
theorem dX0_rankedAt_3 : decode cX0_rankedAt 3 = .ok (.istore_n 3, 1) := by decide +kernel
theorem dX0_rankedAt_4 : decode cX0_rankedAt 4 = .ok (.iload_n 3, 1) := by decide +kernel
theorem dX0_rankedAt_5 : decode cX0_rankedAt 5 = .ok (.bipush 20, 2) := by decide +kernel
theorem dX0_rankedAt_7 : decode cX0_rankedAt 7 = .ok (.if_icmp .ge 49, 3) := by decide +kernel
theorem dX0_rankedAt_10 : decode cX0_rankedAt 10 = .ok (.iconst 0, 1) := by decide +kernel
theorem dX0_rankedAt_11 : decode cX0_rankedAt 11 = .ok (.istore 4, 2) := by decide +kernel
theorem dX0_rankedAt_13 : decode cX0_rankedAt 13 = .ok (.iload 4, 2) := by decide +kernel
theorem dX0_rankedAt_15 : decode cX0_rankedAt 15 = .ok (.aload_n 0, 1) := by decide +kernel
theorem dX0_rankedAt_16 : decode cX0_rankedAt 16 = .ok (.getfield 40, 3) := by decide +kernel
theorem dX0_rankedAt_19 : decode cX0_rankedAt 19 = .ok (.if_icmp .ge 31, 3) := by decide +kernel
theorem dX0_rankedAt_22 : decode cX0_rankedAt 22 = .ok (.aload_n 0, 1) := by decide +kernel
theorem dX0_rankedAt_23 : decode cX0_rankedAt 23 = .ok (.getfield 18, 3) := by decide +kernel
theorem dX0_rankedAt_26 : decode cX0_rankedAt 26 = .ok (.iload 4, 2) := by decide +kernel
theorem dX0_rankedAt_28 : decode cX0_rankedAt 28 = .ok (.iaload, 1) := by decide +kernel
theorem dX0_rankedAt_29 : decode cX0_rankedAt 29 = .ok (.iload_n 3, 1) := by decide +kernel
theorem dX0_rankedAt_30 : decode cX0_rankedAt 30 = .ok (.if_icmp .ne 14, 3) := by decide +kernel
theorem dX0_rankedAt_33 : decode cX0_rankedAt 33 = .ok (.iload_n 2, 1) := by decide +kernel
theorem dX0_rankedAt_34 : decode cX0_rankedAt 34 = .ok (.iload_n 1, 1) := by decide +kernel
theorem dX0_rankedAt_35 : decode cX0_rankedAt 35 = .ok (.if_icmp .ne 6, 3) := by decide +kernel
theorem dX0_rankedAt_38 : decode cX0_rankedAt 38 = .ok (.iload 4, 2) := by decide +kernel
theorem dX0_rankedAt_40 : decode cX0_rankedAt 40 = .ok (.ireturn, 1) := by decide +kernel
theorem dX0_rankedAt_41 : decode cX0_rankedAt 41 = .ok (.iinc 2 1, 3) := by decide +kernel
theorem dX0_rankedAt_44 : decode cX0_rankedAt 44 = .ok (.iinc 4 1, 3) := by decide +kernel
theorem dX0_rankedAt_47 : decode cX0_rankedAt 47 = .ok (.goto (-34), 3) := by decide +kernel
theorem dX0_rankedAt_50 : decode cX0_rankedAt 50 = .ok (.iinc 3 1, 3) := by decide +kernel
theorem dX0_rankedAt_53 : decode cX0_rankedAt 53 = .ok (.goto (-49), 3) := by decide +kernel
theorem dX0_rankedAt_56 : decode cX0_rankedAt 56 = .ok (.bipush (-5), 2) := by decide +kernel
theorem dX0_rankedAt_58 : decode cX0_rankedAt 58 = .ok (.ireturn, 1) := by decide +kernel
theorem dX0_tuneAll_0 : decode cX0_tuneAll 0 = .ok (.iconst 0, 1) := by decide +kernel
theorem dX0_tuneAll_1 : decode cX0_tuneAll 1 = .ok (.istore_n 1, 1) := by decide +kernel
theorem dX0_tuneAll_2 : decode cX0_tuneAll 2 = .ok (.iconst 0, 1) := by decide +kernel
theorem dX0_tuneAll_3 : decode cX0_tuneAll 3 = .ok (.istore_n 2, 1) := by decide +kernel
theorem dX0_tuneAll_4 : decode cX0_tuneAll 4 = .ok (.iload_n 2, 1) := by decide +kernel
theorem dX0_tuneAll_5 : decode cX0_tuneAll 5 = .ok (.aload_n 0, 1) := by decide +kernel
theorem dX0_tuneAll_6 : decode cX0_tuneAll 6 = .ok (.getfield 40, 3) := by decide +kernel
theorem dX0_tuneAll_9 : decode cX0_tuneAll 9 = .ok (.if_icmp .ge 30, 3) := by decide +kernel
theorem dX0_tuneAll_12 : decode cX0_tuneAll 12 = .ok (.aload_n 0, 1) := by decide +kernel
theorem dX0_tuneAll_13 : decode cX0_tuneAll 13 = .ok (.iload_n 2, 1) := by decide +kernel
theorem dX0_tuneAll_14 : decode cX0_tuneAll 14 = .ok (.invokevirtual 88, 3) := by decide +kernel
theorem dX0_tuneAll_17 : decode cX0_tuneAll 17 = .ok (.ifCond .ne 16, 3) := by decide +kernel
theorem dX0_tuneAll_20 : decode cX0_tuneAll 20 = .ok (.aload_n 0, 1) := by decide +kernel
theorem dX0_tuneAll_21 : decode cX0_tuneAll 21 = .ok (.getfield 18, 3) := by decide +kernel
theorem dX0_tuneAll_24 : decode cX0_tuneAll 24 = .ok (.iload_n 2, 1) := by decide +kernel
theorem dX0_tuneAll_25 : decode cX0_tuneAll 25 = .ok (.iconst (-1), 1) := by decide +kernel
theorem dX0_tuneAll_26 : decode cX0_tuneAll 26 = .ok (.iastore, 1) := by decide +kernel
theorem dX0_tuneAll_27 : decode cX0_tuneAll 27 = .ok (.iload_n 1, 1) := by decide +kernel
theorem dX0_tuneAll_28 : decode cX0_tuneAll 28 = .ok (.iconst 1, 1) := by decide +kernel
theorem dX0_tuneAll_29 : decode cX0_tuneAll 29 = .ok (.iload_n 2, 1) := by decide +kernel
theorem dX0_tuneAll_30 : decode cX0_tuneAll 30 = .ok (.ishl, 1) := by decide +kernel
theorem dX0_tuneAll_31 : decode cX0_tuneAll 31 = .ok (.ior, 1) := by decide +kernel
theorem dX0_tuneAll_32 : decode cX0_tuneAll 32 = .ok (.istore_n 1, 1) := by decide +kernel
theorem dX0_tuneAll_33 : decode cX0_tuneAll 33 = .ok (.iinc 2 1, 3) := by decide +kernel
theorem dX0_tuneAll_36 : decode cX0_tuneAll 36 = .ok (.goto (-32), 3) := by decide +kernel
theorem dX0_tuneAll_39 : decode cX0_tuneAll 39 = .ok (.iconst 0, 1) := by decide +kernel
theorem dX0_tuneAll_40 : decode cX0_tuneAll 40 = .ok (.istore_n 2, 1) := by decide +kernel
theorem dX0_tuneAll_41 : decode cX0_tuneAll 41 = .ok (.iload_n 2, 1) := by decide +kernel
theorem dX0_tuneAll_42 : decode cX0_tuneAll 42 = .ok (.aload_n 0, 1) := by decide +kernel
theorem dX0_tuneAll_43 : decode cX0_tuneAll 43 = .ok (.getfield 40, 3) := by decide +kernel
theorem dX0_tuneAll_46 : decode cX0_tuneAll 46 = .ok (.if_icmp .ge 20, 3) := by decide +kernel
theorem dX0_tuneAll_49 : decode cX0_tuneAll 49 = .ok (.aload_n 0, 1) := by decide +kernel
theorem dX0_tuneAll_50 : decode cX0_tuneAll 50 = .ok (.getfield 33, 3) := by decide +kernel
theorem dX0_tuneAll_53 : decode cX0_tuneAll 53 = .ok (.iload_n 2, 1) := by decide +kernel
theorem dX0_tuneAll_54 : decode cX0_tuneAll 54 = .ok (.aload_n 0, 1) := by decide +kernel
theorem dX0_tuneAll_55 : decode cX0_tuneAll 55 = .ok (.iload_n 2, 1) := by decide +kernel
theorem dX0_tuneAll_56 : decode cX0_tuneAll 56 = .ok (.invokevirtual 91, 3) := by decide +kernel
theorem dX0_tuneAll_59 : decode cX0_tuneAll 59 = .ok (.iastore, 1) := by decide +kernel
theorem dX0_tuneAll_60 : decode cX0_tuneAll 60 = .ok (.iinc 2 1, 3) := by decide +kernel
theorem dX0_tuneAll_63 : decode cX0_tuneAll 63 = .ok (.goto (-22), 3) := by decide +kernel
theorem dX0_tuneAll_66 : decode cX0_tuneAll 66 = .ok (.iconst 0, 1) := by decide +kernel
theorem dX0_tuneAll_67 : decode cX0_tuneAll 67 = .ok (.istore_n 2, 1) := by decide +kernel
theorem dX0_tuneAll_68 : decode cX0_tuneAll 68 = .ok (.iconst 0, 1) := by decide +kernel
theorem dX0_tuneAll_69 : decode cX0_tuneAll 69 = .ok (.istore_n 3, 1) := by decide +kernel
theorem dX0_tuneAll_70 : decode cX0_tuneAll 70 = .ok (.iload_n 3, 1) := by decide +kernel
theorem dX0_tuneAll_71 : decode cX0_tuneAll 71 = .ok (.aload_n 0, 1) := by decide +kernel
theorem dX0_tuneAll_72 : decode cX0_tuneAll 72 = .ok (.getfield 40, 3) := by decide +kernel
theorem dX0_tuneAll_75 : decode cX0_tuneAll 75 = .ok (.if_icmp .ge 68, 3) := by decide +kernel
theorem dX0_tuneAll_78 : decode cX0_tuneAll 78 = .ok (.iload_n 1, 1) := by decide +kernel
theorem dX0_tuneAll_79 : decode cX0_tuneAll 79 = .ok (.ifCond .eq 64, 3) := by decide +kernel
theorem dX0_tuneAll_82 : decode cX0_tuneAll 82 = .ok (.aload_n 0, 1) := by decide +kernel
theorem dX0_tuneAll_83 : decode cX0_tuneAll 83 = .ok (.iload_n 1, 1) := by decide +kernel
theorem dX0_tuneAll_84 : decode cX0_tuneAll 84 = .ok (.invokevirtual 94, 3) := by decide +kernel
theorem dX0_tuneAll_87 : decode cX0_tuneAll 87 = .ok (.istore 4, 2) := by decide +kernel
theorem dX0_tuneAll_89 : decode cX0_tuneAll 89 = .ok (.iload 4, 2) := by decide +kernel
theorem dX0_tuneAll_91 : decode cX0_tuneAll 91 = .ok (.ifCond .ge 5, 3) := by decide +kernel
theorem dX0_tuneAll_94 : decode cX0_tuneAll 94 = .ok (.iload_n 2, 1) := by decide +kernel
theorem dX0_tuneAll_95 : decode cX0_tuneAll 95 = .ok (.ireturn, 1) := by decide +kernel
theorem dX0_tuneAll_96 : decode cX0_tuneAll 96 = .ok (.iload_n 1, 1) := by decide +kernel
theorem dX0_tuneAll_97 : decode cX0_tuneAll 97 = .ok (.iconst 1, 1) := by decide +kernel
theorem dX0_tuneAll_98 : decode cX0_tuneAll 98 = .ok (.iload 4, 2) := by decide +kernel
theorem dX0_tuneAll_100 : decode cX0_tuneAll 100 = .ok (.ishl, 1) := by decide +kernel
theorem dX0_tuneAll_101 : decode cX0_tuneAll 101 = .ok (.iconst (-1), 1) := by decide +kernel
theorem dX0_tuneAll_102 : decode cX0_tuneAll 102 = .ok (.ixor, 1) := by decide +kernel
theorem dX0_tuneAll_103 : decode cX0_tuneAll 103 = .ok (.iand, 1) := by decide +kernel
theorem dX0_tuneAll_104 : decode cX0_tuneAll 104 = .ok (.istore_n 1, 1) := by decide +kernel
theorem dX0_tuneAll_105 : decode cX0_tuneAll 105 = .ok (.aload_n 0, 1) := by decide +kernel
theorem dX0_tuneAll_106 : decode cX0_tuneAll 106 = .ok (.getfield 33, 3) := by decide +kernel
theorem dX0_tuneAll_109 : decode cX0_tuneAll 109 = .ok (.iload 4, 2) := by decide +kernel
theorem dX0_tuneAll_111 : decode cX0_tuneAll 111 = .ok (.iaload, 1) := by decide +kernel
theorem dX0_tuneAll_112 : decode cX0_tuneAll 112 = .ok (.ifCond .ne 9, 3) := by decide +kernel
theorem dX0_tuneAll_115 : decode cX0_tuneAll 115 = .ok (.iinc 2 1, 3) := by decide +kernel
theorem dX0_tuneAll_118 : decode cX0_tuneAll 118 = .ok (.goto 19, 3) := by decide +kernel
theorem dX0_tuneAll_121 : decode cX0_tuneAll 121 = .ok (.aload_n 0, 1) := by decide +kernel
theorem dX0_tuneAll_122 : decode cX0_tuneAll 122 = .ok (.iload 4, 2) := by decide +kernel
theorem dX0_tuneAll_124 : decode cX0_tuneAll 124 = .ok (.aload_n 0, 1) := by decide +kernel
theorem dX0_tuneAll_125 : decode cX0_tuneAll 125 = .ok (.getfield 33, 3) := by decide +kernel
theorem dX0_tuneAll_128 : decode cX0_tuneAll 128 = .ok (.iload 4, 2) := by decide +kernel
theorem dX0_tuneAll_130 : decode cX0_tuneAll 130 = .ok (.iaload, 1) := by decide +kernel
theorem dX0_tuneAll_131 : decode cX0_tuneAll 131 = .ok (.invokestatic 85, 3) := by decide +kernel
theorem dX0_tuneAll_134 : decode cX0_tuneAll 134 = .ok (.invokevirtual 97, 3) := by decide +kernel
theorem dX0_tuneAll_137 : decode cX0_tuneAll 137 = .ok (.iinc 3 1, 3) := by decide +kernel
theorem dX0_tuneAll_140 : decode cX0_tuneAll 140 = .ok (.goto (-70), 3) := by decide +kernel
theorem dX0_tuneAll_143 : decode cX0_tuneAll 143 = .ok (.iload_n 2, 1) := by decide +kernel
theorem dX0_tuneAll_144 : decode cX0_tuneAll 144 = .ok (.ireturn, 1) := by decide +kernel
theorem dX0_tightest_0 : decode cX0_tightest 0 = .ok (.iconst (-1), 1) := by decide +kernel
theorem dX0_tightest_1 : decode cX0_tightest 1 = .ok (.istore_n 2, 1) := by decide +kernel
theorem dX0_tightest_2 : decode cX0_tightest 2 = .ok (.iconst 0, 1) := by decide +kernel
theorem dX0_tightest_3 : decode cX0_tightest 3 = .ok (.istore_n 3, 1) := by decide +kernel
theorem dX0_tightest_4 : decode cX0_tightest 4 = .ok (.iconst 0, 1) := by decide +kernel
theorem dX0_tightest_5 : decode cX0_tightest 5 = .ok (.istore 4, 2) := by decide +kernel
theorem dX0_tightest_7 : decode cX0_tightest 7 = .ok (.iconst 0, 1) := by decide +kernel
theorem dX0_tightest_8 : decode cX0_tightest 8 = .ok (.istore 5, 2) := by decide +kernel
theorem dX0_tightest_10 : decode cX0_tightest 10 = .ok (.iload 5, 2) := by decide +kernel
theorem dX0_tightest_12 : decode cX0_tightest 12 = .ok (.aload_n 0, 1) := by decide +kernel
theorem dX0_tightest_13 : decode cX0_tightest 13 = .ok (.getfield 40, 3) := by decide +kernel
theorem dX0_tightest_16 : decode cX0_tightest 16 = .ok (.if_icmp .ge 74, 3) := by decide +kernel
theorem dX0_tightest_19 : decode cX0_tightest 19 = .ok (.iload_n 1, 1) := by decide +kernel
theorem dX0_tightest_20 : decode cX0_tightest 20 = .ok (.iload 5, 2) := by decide +kernel
theorem dX0_tightest_22 : decode cX0_tightest 22 = .ok (.ishr, 1) := by decide +kernel
theorem dX0_tightest_23 : decode cX0_tightest 23 = .ok (.iconst 1, 1) := by decide +kernel
theorem dX0_tightest_24 : decode cX0_tightest 24 = .ok (.iand, 1) := by decide +kernel
theorem dX0_tightest_25 : decode cX0_tightest 25 = .ok (.iconst 1, 1) := by decide +kernel
theorem dX0_tightest_26 : decode cX0_tightest 26 = .ok (.if_icmp .ne 58, 3) := by decide +kernel
theorem dX0_tightest_29 : decode cX0_tightest 29 = .ok (.aload_n 0, 1) := by decide +kernel
theorem dX0_tightest_30 : decode cX0_tightest 30 = .ok (.getfield 33, 3) := by decide +kernel
theorem dX0_tightest_33 : decode cX0_tightest 33 = .ok (.iload 5, 2) := by decide +kernel
theorem dX0_tightest_35 : decode cX0_tightest 35 = .ok (.iaload, 1) := by decide +kernel
theorem dX0_tightest_36 : decode cX0_tightest 36 = .ok (.invokestatic 101, 3) := by decide +kernel
theorem dX0_tightest_39 : decode cX0_tightest 39 = .ok (.istore 6, 2) := by decide +kernel
theorem dX0_tightest_41 : decode cX0_tightest 41 = .ok (.iload_n 2, 1) := by decide +kernel
theorem dX0_tightest_42 : decode cX0_tightest 42 = .ok (.ifCond .lt 27, 3) := by decide +kernel
theorem dX0_tightest_45 : decode cX0_tightest 45 = .ok (.iload 6, 2) := by decide +kernel
theorem dX0_tightest_47 : decode cX0_tightest 47 = .ok (.iload_n 3, 1) := by decide +kernel
theorem dX0_tightest_48 : decode cX0_tightest 48 = .ok (.if_icmp .lt 21, 3) := by decide +kernel
theorem dX0_tightest_51 : decode cX0_tightest 51 = .ok (.iload 6, 2) := by decide +kernel
theorem dX0_tightest_53 : decode cX0_tightest 53 = .ok (.iload_n 3, 1) := by decide +kernel
theorem dX0_tightest_54 : decode cX0_tightest 54 = .ok (.if_icmp .ne 30, 3) := by decide +kernel
theorem dX0_tightest_57 : decode cX0_tightest 57 = .ok (.aload_n 0, 1) := by decide +kernel
theorem dX0_tightest_58 : decode cX0_tightest 58 = .ok (.getfield 30, 3) := by decide +kernel
theorem dX0_tightest_61 : decode cX0_tightest 61 = .ok (.iload 5, 2) := by decide +kernel
theorem dX0_tightest_63 : decode cX0_tightest 63 = .ok (.iaload, 1) := by decide +kernel
theorem dX0_tightest_64 : decode cX0_tightest 64 = .ok (.iload 4, 2) := by decide +kernel
theorem dX0_tightest_66 : decode cX0_tightest 66 = .ok (.if_icmp .le 18, 3) := by decide +kernel
theorem dX0_tightest_69 : decode cX0_tightest 69 = .ok (.iload 5, 2) := by decide +kernel
theorem dX0_tightest_71 : decode cX0_tightest 71 = .ok (.istore_n 2, 1) := by decide +kernel
theorem dX0_tightest_72 : decode cX0_tightest 72 = .ok (.iload 6, 2) := by decide +kernel
theorem dX0_tightest_74 : decode cX0_tightest 74 = .ok (.istore_n 3, 1) := by decide +kernel
theorem dX0_tightest_75 : decode cX0_tightest 75 = .ok (.aload_n 0, 1) := by decide +kernel
theorem dX0_tightest_76 : decode cX0_tightest 76 = .ok (.getfield 30, 3) := by decide +kernel
theorem dX0_tightest_79 : decode cX0_tightest 79 = .ok (.iload 5, 2) := by decide +kernel
theorem dX0_tightest_81 : decode cX0_tightest 81 = .ok (.iaload, 1) := by decide +kernel
theorem dX0_tightest_82 : decode cX0_tightest 82 = .ok (.istore 4, 2) := by decide +kernel
theorem dX0_tightest_84 : decode cX0_tightest 84 = .ok (.iinc 5 1, 3) := by decide +kernel
theorem dX0_tightest_87 : decode cX0_tightest 87 = .ok (.goto (-77), 3) := by decide +kernel
theorem dX0_tightest_90 : decode cX0_tightest 90 = .ok (.iload_n 2, 1) := by decide +kernel
theorem dX0_tightest_91 : decode cX0_tightest 91 = .ok (.ireturn, 1) := by decide +kernel
theorem dX0_give_0 : decode cX0_give 0 = .ok (.aload_n 0, 1) := by decide +kernel
theorem dX0_give_1 : decode cX0_give 1 = .ok (.iload_n 1, 1) := by decide +kernel
theorem dX0_give_2 : decode cX0_give 2 = .ok (.iload_n 2, 1) := by decide +kernel
theorem dX0_give_3 : decode cX0_give 3 = .ok (.invokevirtual 106, 3) := by decide +kernel
theorem dX0_give_6 : decode cX0_give 6 = .ok (.iconst 0, 1) := by decide +kernel
theorem dX0_give_7 : decode cX0_give 7 = .ok (.istore_n 3, 1) := by decide +kernel
theorem dX0_give_8 : decode cX0_give 8 = .ok (.iload_n 3, 1) := by decide +kernel
theorem dX0_give_9 : decode cX0_give 9 = .ok (.aload_n 0, 1) := by decide +kernel
theorem dX0_give_10 : decode cX0_give 10 = .ok (.getfield 40, 3) := by decide +kernel
theorem dX0_give_13 : decode cX0_give 13 = .ok (.if_icmp .ge 30, 3) := by decide +kernel
theorem dX0_give_16 : decode cX0_give 16 = .ok (.aload_n 0, 1) := by decide +kernel
theorem dX0_give_17 : decode cX0_give 17 = .ok (.getfield 33, 3) := by decide +kernel
theorem dX0_give_20 : decode cX0_give 20 = .ok (.iload_n 3, 1) := by decide +kernel
theorem dX0_give_21 : decode cX0_give 21 = .ok (.dup2, 1) := by decide +kernel
theorem dX0_give_22 : decode cX0_give 22 = .ok (.iaload, 1) := by decide +kernel
theorem dX0_give_23 : decode cX0_give 23 = .ok (.iload_n 2, 1) := by decide +kernel
theorem dX0_give_24 : decode cX0_give 24 = .ok (.aload_n 0, 1) := by decide +kernel
theorem dX0_give_25 : decode cX0_give 25 = .ok (.iload_n 1, 1) := by decide +kernel
theorem dX0_give_26 : decode cX0_give 26 = .ok (.iload_n 3, 1) := by decide +kernel
theorem dX0_give_27 : decode cX0_give 27 = .ok (.invokevirtual 72, 3) := by decide +kernel
theorem dX0_give_30 : decode cX0_give 30 = .ok (.invokestatic 75, 3) := by decide +kernel
theorem dX0_give_33 : decode cX0_give 33 = .ok (.iconst (-1), 1) := by decide +kernel
theorem dX0_give_34 : decode cX0_give 34 = .ok (.ixor, 1) := by decide +kernel
theorem dX0_give_35 : decode cX0_give 35 = .ok (.iand, 1) := by decide +kernel
theorem dX0_give_36 : decode cX0_give 36 = .ok (.iastore, 1) := by decide +kernel
theorem dX0_give_37 : decode cX0_give 37 = .ok (.iinc 3 1, 3) := by decide +kernel
theorem dX0_give_40 : decode cX0_give 40 = .ok (.goto (-32), 3) := by decide +kernel
theorem dX0_give_43 : decode cX0_give 43 = .ok (.return_, 1) := by decide +kernel
theorem dX0_swapChain_0 : decode cX0_swapChain 0 = .ok (.aload_n 0, 1) := by decide +kernel
theorem dX0_swapChain_1 : decode cX0_swapChain 1 = .ok (.iload_n 1, 1) := by decide +kernel
theorem dX0_swapChain_2 : decode cX0_swapChain 2 = .ok (.invokevirtual 53, 3) := by decide +kernel
theorem dX0_swapChain_5 : decode cX0_swapChain 5 = .ok (.iload_n 2, 1) := by decide +kernel
theorem dX0_swapChain_6 : decode cX0_swapChain 6 = .ok (.iadd, 1) := by decide +kernel
theorem dX0_swapChain_7 : decode cX0_swapChain 7 = .ok (.istore_n 3, 1) := by decide +kernel
theorem dX0_swapChain_8 : decode cX0_swapChain 8 = .ok (.aload_n 0, 1) := by decide +kernel
theorem dX0_swapChain_9 : decode cX0_swapChain 9 = .ok (.iload_n 1, 1) := by decide +kernel
theorem dX0_swapChain_10 : decode cX0_swapChain 10 = .ok (.iload_n 3, 1) := by decide +kernel
theorem dX0_swapChain_11 : decode cX0_swapChain 11 = .ok (.invokevirtual 109, 3) := by decide +kernel
theorem dX0_swapChain_14 : decode cX0_swapChain 14 = .ok (.istore 4, 2) := by decide +kernel
theorem dX0_swapChain_16 : decode cX0_swapChain 16 = .ok (.iload 4, 2) := by decide +kernel
theorem dX0_swapChain_18 : decode cX0_swapChain 18 = .ok (.aload_n 0, 1) := by decide +kernel
theorem dX0_swapChain_19 : decode cX0_swapChain 19 = .ok (.getfield 36, 3) := by decide +kernel
theorem dX0_swapChain_22 : decode cX0_swapChain 22 = .ok (.iand, 1) := by decide +kernel
theorem dX0_swapChain_23 : decode cX0_swapChain 23 = .ok (.ifCond .eq 6, 3) := by decide +kernel
theorem dX0_swapChain_26 : decode cX0_swapChain 26 = .ok (.bipush (-5), 2) := by decide +kernel
theorem dX0_swapChain_28 : decode cX0_swapChain 28 = .ok (.ireturn, 1) := by decide +kernel
theorem dX0_swapChain_29 : decode cX0_swapChain 29 = .ok (.aload_n 0, 1) := by decide +kernel
theorem dX0_swapChain_30 : decode cX0_swapChain 30 = .ok (.invokevirtual 112, 3) := by decide +kernel
theorem dX0_swapChain_33 : decode cX0_swapChain 33 = .ok (.istore 5, 2) := by decide +kernel
theorem dX0_swapChain_35 : decode cX0_swapChain 35 = .ok (.aload_n 0, 1) := by decide +kernel
theorem dX0_swapChain_36 : decode cX0_swapChain 36 = .ok (.iload 4, 2) := by decide +kernel
theorem dX0_swapChain_38 : decode cX0_swapChain 38 = .ok (.iload_n 3, 1) := by decide +kernel
theorem dX0_swapChain_39 : decode cX0_swapChain 39 = .ok (.invokevirtual 115, 3) := by decide +kernel
theorem dX0_swapChain_42 : decode cX0_swapChain 42 = .ok (.aload_n 0, 1) := by decide +kernel
theorem dX0_swapChain_43 : decode cX0_swapChain 43 = .ok (.invokevirtual 112, 3) := by decide +kernel
theorem dX0_swapChain_46 : decode cX0_swapChain 46 = .ok (.iload 5, 2) := by decide +kernel
theorem dX0_swapChain_48 : decode cX0_swapChain 48 = .ok (.if_icmp .le 13, 3) := by decide +kernel
theorem dX0_swapChain_51 : decode cX0_swapChain 51 = .ok (.aload_n 0, 1) := by decide +kernel
theorem dX0_swapChain_52 : decode cX0_swapChain 52 = .ok (.iload 4, 2) := by decide +kernel
theorem dX0_swapChain_54 : decode cX0_swapChain 54 = .ok (.iload_n 3, 1) := by decide +kernel
theorem dX0_swapChain_55 : decode cX0_swapChain 55 = .ok (.invokevirtual 115, 3) := by decide +kernel
theorem dX0_swapChain_58 : decode cX0_swapChain 58 = .ok (.bipush (-6), 2) := by decide +kernel
theorem dX0_swapChain_60 : decode cX0_swapChain 60 = .ok (.ireturn, 1) := by decide +kernel
theorem dX0_swapChain_61 : decode cX0_swapChain 61 = .ok (.iload 4, 2) := by decide +kernel
theorem dX0_swapChain_63 : decode cX0_swapChain 63 = .ok (.invokestatic 101, 3) := by decide +kernel
theorem dX0_swapChain_66 : decode cX0_swapChain 66 = .ok (.ireturn, 1) := by decide +kernel
theorem dX0_chainOf_0 : decode cX0_chainOf 0 = .ok (.iconst 1, 1) := by decide +kernel
theorem dX0_chainOf_1 : decode cX0_chainOf 1 = .ok (.iload_n 1, 1) := by decide +kernel
theorem dX0_chainOf_2 : decode cX0_chainOf 2 = .ok (.ishl, 1) := by decide +kernel
theorem dX0_chainOf_3 : decode cX0_chainOf 3 = .ok (.istore_n 3, 1) := by decide +kernel
theorem dX0_chainOf_4 : decode cX0_chainOf 4 = .ok (.iconst 0, 1) := by decide +kernel
theorem dX0_chainOf_5 : decode cX0_chainOf 5 = .ok (.istore 4, 2) := by decide +kernel
theorem dX0_chainOf_7 : decode cX0_chainOf 7 = .ok (.iload 4, 2) := by decide +kernel
theorem dX0_chainOf_9 : decode cX0_chainOf 9 = .ok (.aload_n 0, 1) := by decide +kernel
theorem dX0_chainOf_10 : decode cX0_chainOf 10 = .ok (.getfield 40, 3) := by decide +kernel
theorem dX0_chainOf_13 : decode cX0_chainOf 13 = .ok (.if_icmp .ge 55, 3) := by decide +kernel
theorem dX0_chainOf_16 : decode cX0_chainOf 16 = .ok (.iconst 0, 1) := by decide +kernel
theorem dX0_chainOf_17 : decode cX0_chainOf 17 = .ok (.istore 5, 2) := by decide +kernel
theorem dX0_chainOf_19 : decode cX0_chainOf 19 = .ok (.iload 5, 2) := by decide +kernel
theorem dX0_chainOf_21 : decode cX0_chainOf 21 = .ok (.aload_n 0, 1) := by decide +kernel
theorem dX0_chainOf_22 : decode cX0_chainOf 22 = .ok (.getfield 40, 3) := by decide +kernel
theorem dX0_chainOf_25 : decode cX0_chainOf 25 = .ok (.if_icmp .ge 37, 3) := by decide +kernel
theorem dX0_chainOf_28 : decode cX0_chainOf 28 = .ok (.iload_n 3, 1) := by decide +kernel
theorem dX0_chainOf_29 : decode cX0_chainOf 29 = .ok (.iload 5, 2) := by decide +kernel
theorem dX0_chainOf_31 : decode cX0_chainOf 31 = .ok (.ishr, 1) := by decide +kernel
theorem dX0_chainOf_32 : decode cX0_chainOf 32 = .ok (.iconst 1, 1) := by decide +kernel
theorem dX0_chainOf_33 : decode cX0_chainOf 33 = .ok (.iand, 1) := by decide +kernel
theorem dX0_chainOf_34 : decode cX0_chainOf 34 = .ok (.iconst 1, 1) := by decide +kernel
theorem dX0_chainOf_35 : decode cX0_chainOf 35 = .ok (.if_icmp .ne 21, 3) := by decide +kernel
theorem dX0_chainOf_38 : decode cX0_chainOf 38 = .ok (.iload_n 3, 1) := by decide +kernel
theorem dX0_chainOf_39 : decode cX0_chainOf 39 = .ok (.aload_n 0, 1) := by decide +kernel
theorem dX0_chainOf_40 : decode cX0_chainOf 40 = .ok (.iload 5, 2) := by decide +kernel
theorem dX0_chainOf_42 : decode cX0_chainOf 42 = .ok (.iload_n 2, 1) := by decide +kernel
theorem dX0_chainOf_43 : decode cX0_chainOf 43 = .ok (.aload_n 0, 1) := by decide +kernel
theorem dX0_chainOf_44 : decode cX0_chainOf 44 = .ok (.getfield 18, 3) := by decide +kernel
theorem dX0_chainOf_47 : decode cX0_chainOf 47 = .ok (.iload 5, 2) := by decide +kernel
theorem dX0_chainOf_49 : decode cX0_chainOf 49 = .ok (.iaload, 1) := by decide +kernel
theorem dX0_chainOf_50 : decode cX0_chainOf 50 = .ok (.isub, 1) := by decide +kernel
theorem dX0_chainOf_51 : decode cX0_chainOf 51 = .ok (.invokevirtual 118, 3) := by decide +kernel
theorem dX0_chainOf_54 : decode cX0_chainOf 54 = .ok (.ior, 1) := by decide +kernel
theorem dX0_chainOf_55 : decode cX0_chainOf 55 = .ok (.istore_n 3, 1) := by decide +kernel
theorem dX0_chainOf_56 : decode cX0_chainOf 56 = .ok (.iinc 5 1, 3) := by decide +kernel
theorem dX0_chainOf_59 : decode cX0_chainOf 59 = .ok (.goto (-40), 3) := by decide +kernel
theorem dX0_chainOf_62 : decode cX0_chainOf 62 = .ok (.iinc 4 1, 3) := by decide +kernel
theorem dX0_chainOf_65 : decode cX0_chainOf 65 = .ok (.goto (-58), 3) := by decide +kernel
theorem dX0_chainOf_68 : decode cX0_chainOf 68 = .ok (.iload_n 3, 1) := by decide +kernel
theorem dX0_chainOf_69 : decode cX0_chainOf 69 = .ok (.ireturn, 1) := by decide +kernel
theorem dX0_neighboursOn_0 : decode cX0_neighboursOn 0 = .ok (.iconst 0, 1) := by decide +kernel
theorem dX0_neighboursOn_1 : decode cX0_neighboursOn 1 = .ok (.istore_n 3, 1) := by decide +kernel
theorem dX0_neighboursOn_2 : decode cX0_neighboursOn 2 = .ok (.iconst 0, 1) := by decide +kernel
theorem dX0_neighboursOn_3 : decode cX0_neighboursOn 3 = .ok (.istore 4, 2) := by decide +kernel
theorem dX0_neighboursOn_5 : decode cX0_neighboursOn 5 = .ok (.iload 4, 2) := by decide +kernel
theorem dX0_neighboursOn_7 : decode cX0_neighboursOn 7 = .ok (.aload_n 0, 1) := by decide +kernel
theorem dX0_neighboursOn_8 : decode cX0_neighboursOn 8 = .ok (.getfield 40, 3) := by decide +kernel
theorem dX0_neighboursOn_11 : decode cX0_neighboursOn 11 = .ok (.if_icmp .ge 37, 3) := by decide +kernel
theorem dX0_neighboursOn_14 : decode cX0_neighboursOn 14 = .ok (.aload_n 0, 1) := by decide +kernel
theorem dX0_neighboursOn_15 : decode cX0_neighboursOn 15 = .ok (.getfield 18, 3) := by decide +kernel
theorem dX0_neighboursOn_18 : decode cX0_neighboursOn 18 = .ok (.iload 4, 2) := by decide +kernel
theorem dX0_neighboursOn_20 : decode cX0_neighboursOn 20 = .ok (.iaload, 1) := by decide +kernel
theorem dX0_neighboursOn_21 : decode cX0_neighboursOn 21 = .ok (.iload_n 2, 1) := by decide +kernel
theorem dX0_neighboursOn_22 : decode cX0_neighboursOn 22 = .ok (.if_icmp .ne 20, 3) := by decide +kernel
theorem dX0_neighboursOn_25 : decode cX0_neighboursOn 25 = .ok (.aload_n 0, 1) := by decide +kernel
theorem dX0_neighboursOn_26 : decode cX0_neighboursOn 26 = .ok (.iload_n 1, 1) := by decide +kernel
theorem dX0_neighboursOn_27 : decode cX0_neighboursOn 27 = .ok (.iload 4, 2) := by decide +kernel
theorem dX0_neighboursOn_29 : decode cX0_neighboursOn 29 = .ok (.invokevirtual 72, 3) := by decide +kernel
theorem dX0_neighboursOn_32 : decode cX0_neighboursOn 32 = .ok (.ifCond .le 10, 3) := by decide +kernel
theorem dX0_neighboursOn_35 : decode cX0_neighboursOn 35 = .ok (.iload_n 3, 1) := by decide +kernel
theorem dX0_neighboursOn_36 : decode cX0_neighboursOn 36 = .ok (.iconst 1, 1) := by decide +kernel
theorem dX0_neighboursOn_37 : decode cX0_neighboursOn 37 = .ok (.iload 4, 2) := by decide +kernel
theorem dX0_neighboursOn_39 : decode cX0_neighboursOn 39 = .ok (.ishl, 1) := by decide +kernel
theorem dX0_neighboursOn_40 : decode cX0_neighboursOn 40 = .ok (.ior, 1) := by decide +kernel
theorem dX0_neighboursOn_41 : decode cX0_neighboursOn 41 = .ok (.istore_n 3, 1) := by decide +kernel
theorem dX0_neighboursOn_42 : decode cX0_neighboursOn 42 = .ok (.iinc 4 1, 3) := by decide +kernel
theorem dX0_neighboursOn_45 : decode cX0_neighboursOn 45 = .ok (.goto (-40), 3) := by decide +kernel
theorem dX0_neighboursOn_48 : decode cX0_neighboursOn 48 = .ok (.iload_n 3, 1) := by decide +kernel
theorem dX0_neighboursOn_49 : decode cX0_neighboursOn 49 = .ok (.ireturn, 1) := by decide +kernel
theorem dX0_swap_0 : decode cX0_swap 0 = .ok (.iconst 0, 1) := by decide +kernel
theorem dX0_swap_1 : decode cX0_swap 1 = .ok (.istore_n 3, 1) := by decide +kernel
theorem dX0_swap_2 : decode cX0_swap 2 = .ok (.iload_n 3, 1) := by decide +kernel
theorem dX0_swap_3 : decode cX0_swap 3 = .ok (.aload_n 0, 1) := by decide +kernel
theorem dX0_swap_4 : decode cX0_swap 4 = .ok (.getfield 40, 3) := by decide +kernel
theorem dX0_swap_7 : decode cX0_swap 7 = .ok (.if_icmp .ge 32, 3) := by decide +kernel
theorem dX0_swap_10 : decode cX0_swap 10 = .ok (.iload_n 1, 1) := by decide +kernel
theorem dX0_swap_11 : decode cX0_swap 11 = .ok (.iload_n 3, 1) := by decide +kernel
theorem dX0_swap_12 : decode cX0_swap 12 = .ok (.ishr, 1) := by decide +kernel
theorem dX0_swap_13 : decode cX0_swap 13 = .ok (.iconst 1, 1) := by decide +kernel
theorem dX0_swap_14 : decode cX0_swap 14 = .ok (.iand, 1) := by decide +kernel
theorem dX0_swap_15 : decode cX0_swap 15 = .ok (.iconst 1, 1) := by decide +kernel
theorem dX0_swap_16 : decode cX0_swap 16 = .ok (.if_icmp .ne 17, 3) := by decide +kernel
theorem dX0_swap_19 : decode cX0_swap 19 = .ok (.aload_n 0, 1) := by decide +kernel
theorem dX0_swap_20 : decode cX0_swap 20 = .ok (.getfield 18, 3) := by decide +kernel
theorem dX0_swap_23 : decode cX0_swap 23 = .ok (.iload_n 3, 1) := by decide +kernel
theorem dX0_swap_24 : decode cX0_swap 24 = .ok (.iload_n 2, 1) := by decide +kernel
theorem dX0_swap_25 : decode cX0_swap 25 = .ok (.aload_n 0, 1) := by decide +kernel
theorem dX0_swap_26 : decode cX0_swap 26 = .ok (.getfield 18, 3) := by decide +kernel
theorem dX0_swap_29 : decode cX0_swap 29 = .ok (.iload_n 3, 1) := by decide +kernel
theorem dX0_swap_30 : decode cX0_swap 30 = .ok (.iaload, 1) := by decide +kernel
theorem dX0_swap_31 : decode cX0_swap 31 = .ok (.isub, 1) := by decide +kernel
theorem dX0_swap_32 : decode cX0_swap 32 = .ok (.iastore, 1) := by decide +kernel
theorem dX0_swap_33 : decode cX0_swap 33 = .ok (.iinc 3 1, 3) := by decide +kernel
theorem dX0_swap_36 : decode cX0_swap 36 = .ok (.goto (-34), 3) := by decide +kernel
theorem dX0_swap_39 : decode cX0_swap 39 = .ok (.return_, 1) := by decide +kernel
theorem dX1_init_0 : decode cX1_init 0 = .ok (.aload_n 0, 1) := by decide +kernel
theorem dX1_init_1 : decode cX1_init 1 = .ok (.invokespecial 3, 3) := by decide +kernel
theorem dX1_init_4 : decode cX1_init 4 = .ok (.aload_n 0, 1) := by decide +kernel
theorem dX1_init_5 : decode cX1_init 5 = .ok (.bipush 8, 2) := by decide +kernel
theorem dX1_init_7 : decode cX1_init 7 = .ok (.newarray .int, 2) := by decide +kernel
theorem dX1_init_9 : decode cX1_init 9 = .ok (.putfield 9, 3) := by decide +kernel
theorem dX1_init_12 : decode cX1_init 12 = .ok (.aload_n 0, 1) := by decide +kernel
theorem dX1_init_13 : decode cX1_init 13 = .ok (.bipush 8, 2) := by decide +kernel
theorem dX1_init_15 : decode cX1_init 15 = .ok (.newarray .int, 2) := by decide +kernel
theorem dX1_init_17 : decode cX1_init 17 = .ok (.putfield 15, 3) := by decide +kernel
theorem dX1_init_20 : decode cX1_init 20 = .ok (.aload_n 0, 1) := by decide +kernel
theorem dX1_init_21 : decode cX1_init 21 = .ok (.iconst 0, 1) := by decide +kernel
theorem dX1_init_22 : decode cX1_init 22 = .ok (.putfield 18, 3) := by decide +kernel
theorem dX1_init_25 : decode cX1_init 25 = .ok (.aload_n 0, 1) := by decide +kernel
theorem dX1_init_26 : decode cX1_init 26 = .ok (.iload_n 1, 1) := by decide +kernel
theorem dX1_init_27 : decode cX1_init 27 = .ok (.bipush 8, 2) := by decide +kernel
theorem dX1_init_29 : decode cX1_init 29 = .ok (.invokestatic 22, 3) := by decide +kernel
theorem dX1_init_32 : decode cX1_init 32 = .ok (.putfield 28, 3) := by decide +kernel
theorem dX1_init_35 : decode cX1_init 35 = .ok (.return_, 1) := by decide +kernel
theorem dX1_size_0 : decode cX1_size 0 = .ok (.aload_n 0, 1) := by decide +kernel
theorem dX1_size_1 : decode cX1_size 1 = .ok (.getfield 18, 3) := by decide +kernel
theorem dX1_size_4 : decode cX1_size 4 = .ok (.ireturn, 1) := by decide +kernel
theorem dX1_clear_0 : decode cX1_clear 0 = .ok (.aload_n 0, 1) := by decide +kernel
theorem dX1_clear_1 : decode cX1_clear 1 = .ok (.iconst 0, 1) := by decide +kernel
theorem dX1_clear_2 : decode cX1_clear 2 = .ok (.putfield 18, 3) := by decide +kernel
theorem dX1_clear_5 : decode cX1_clear 5 = .ok (.aload_n 0, 1) := by decide +kernel
theorem dX1_clear_6 : decode cX1_clear 6 = .ok (.getfield 18, 3) := by decide +kernel
theorem dX1_clear_9 : decode cX1_clear 9 = .ok (.ireturn, 1) := by decide +kernel
theorem dX1_append_0 : decode cX1_append 0 = .ok (.aload_n 0, 1) := by decide +kernel
theorem dX1_append_1 : decode cX1_append 1 = .ok (.getfield 18, 3) := by decide +kernel
theorem dX1_append_4 : decode cX1_append 4 = .ok (.aload_n 0, 1) := by decide +kernel
theorem dX1_append_5 : decode cX1_append 5 = .ok (.getfield 28, 3) := by decide +kernel
theorem dX1_append_8 : decode cX1_append 8 = .ok (.if_icmp .lt 6, 3) := by decide +kernel
theorem dX1_append_11 : decode cX1_append 11 = .ok (.bipush (-4), 2) := by decide +kernel
theorem dX1_append_13 : decode cX1_append 13 = .ok (.ireturn, 1) := by decide +kernel
theorem dX1_append_14 : decode cX1_append 14 = .ok (.aload_n 0, 1) := by decide +kernel
theorem dX1_append_15 : decode cX1_append 15 = .ok (.getfield 9, 3) := by decide +kernel
theorem dX1_append_18 : decode cX1_append 18 = .ok (.aload_n 0, 1) := by decide +kernel
theorem dX1_append_19 : decode cX1_append 19 = .ok (.getfield 18, 3) := by decide +kernel
theorem dX1_append_22 : decode cX1_append 22 = .ok (.iload_n 1, 1) := by decide +kernel
theorem dX1_append_23 : decode cX1_append 23 = .ok (.iastore, 1) := by decide +kernel
theorem dX1_append_24 : decode cX1_append 24 = .ok (.aload_n 0, 1) := by decide +kernel
theorem dX1_append_25 : decode cX1_append 25 = .ok (.getfield 15, 3) := by decide +kernel
theorem dX1_append_28 : decode cX1_append 28 = .ok (.aload_n 0, 1) := by decide +kernel
theorem dX1_append_29 : decode cX1_append 29 = .ok (.getfield 18, 3) := by decide +kernel
theorem dX1_append_32 : decode cX1_append 32 = .ok (.iload_n 2, 1) := by decide +kernel
theorem dX1_append_33 : decode cX1_append 33 = .ok (.iastore, 1) := by decide +kernel
theorem dX1_append_34 : decode cX1_append 34 = .ok (.aload_n 0, 1) := by decide +kernel
theorem dX1_append_35 : decode cX1_append 35 = .ok (.dup, 1) := by decide +kernel
theorem dX1_append_36 : decode cX1_append 36 = .ok (.getfield 18, 3) := by decide +kernel
theorem dX1_append_39 : decode cX1_append 39 = .ok (.iconst 1, 1) := by decide +kernel
theorem dX1_append_40 : decode cX1_append 40 = .ok (.iadd, 1) := by decide +kernel
theorem dX1_append_41 : decode cX1_append 41 = .ok (.putfield 18, 3) := by decide +kernel
theorem dX1_append_44 : decode cX1_append 44 = .ok (.aload_n 0, 1) := by decide +kernel
theorem dX1_append_45 : decode cX1_append 45 = .ok (.getfield 18, 3) := by decide +kernel
theorem dX1_append_48 : decode cX1_append 48 = .ok (.ireturn, 1) := by decide +kernel
theorem dX1_first_0 : decode cX1_first 0 = .ok (.iload_n 1, 1) := by decide +kernel
theorem dX1_first_1 : decode cX1_first 1 = .ok (.ifCond .lt 20, 3) := by decide +kernel
theorem dX1_first_4 : decode cX1_first 4 = .ok (.iload_n 1, 1) := by decide +kernel
theorem dX1_first_5 : decode cX1_first 5 = .ok (.aload_n 0, 1) := by decide +kernel
theorem dX1_first_6 : decode cX1_first 6 = .ok (.getfield 18, 3) := by decide +kernel
theorem dX1_first_9 : decode cX1_first 9 = .ok (.if_icmp .ge 12, 3) := by decide +kernel
theorem dX1_first_12 : decode cX1_first 12 = .ok (.aload_n 0, 1) := by decide +kernel
theorem dX1_first_13 : decode cX1_first 13 = .ok (.getfield 9, 3) := by decide +kernel
theorem dX1_first_16 : decode cX1_first 16 = .ok (.iload_n 1, 1) := by decide +kernel
theorem dX1_first_17 : decode cX1_first 17 = .ok (.iaload, 1) := by decide +kernel
theorem dX1_first_18 : decode cX1_first 18 = .ok (.goto 4, 3) := by decide +kernel
theorem dX1_first_21 : decode cX1_first 21 = .ok (.iconst (-1), 1) := by decide +kernel
theorem dX1_first_22 : decode cX1_first 22 = .ok (.ireturn, 1) := by decide +kernel
theorem dX1_second_0 : decode cX1_second 0 = .ok (.iload_n 1, 1) := by decide +kernel
theorem dX1_second_1 : decode cX1_second 1 = .ok (.ifCond .lt 20, 3) := by decide +kernel
theorem dX1_second_4 : decode cX1_second 4 = .ok (.iload_n 1, 1) := by decide +kernel
theorem dX1_second_5 : decode cX1_second 5 = .ok (.aload_n 0, 1) := by decide +kernel
theorem dX1_second_6 : decode cX1_second 6 = .ok (.getfield 18, 3) := by decide +kernel
theorem dX1_second_9 : decode cX1_second 9 = .ok (.if_icmp .ge 12, 3) := by decide +kernel
theorem dX1_second_12 : decode cX1_second 12 = .ok (.aload_n 0, 1) := by decide +kernel
theorem dX1_second_13 : decode cX1_second 13 = .ok (.getfield 15, 3) := by decide +kernel
theorem dX1_second_16 : decode cX1_second 16 = .ok (.iload_n 1, 1) := by decide +kernel
theorem dX1_second_17 : decode cX1_second 17 = .ok (.iaload, 1) := by decide +kernel
theorem dX1_second_18 : decode cX1_second 18 = .ok (.goto 4, 3) := by decide +kernel
theorem dX1_second_21 : decode cX1_second 21 = .ok (.iconst (-1), 1) := by decide +kernel
theorem dX1_second_22 : decode cX1_second 22 = .ok (.ireturn, 1) := by decide +kernel
theorem dX1_copyFrom_0 : decode cX1_copyFrom 0 = .ok (.aload_n 1, 1) := by decide +kernel
theorem dX1_copyFrom_1 : decode cX1_copyFrom 1 = .ok (.getfield 9, 3) := by decide +kernel
theorem dX1_copyFrom_4 : decode cX1_copyFrom 4 = .ok (.iconst 0, 1) := by decide +kernel
theorem dX1_copyFrom_5 : decode cX1_copyFrom 5 = .ok (.aload_n 0, 1) := by decide +kernel
theorem dX1_copyFrom_6 : decode cX1_copyFrom 6 = .ok (.getfield 9, 3) := by decide +kernel
theorem dX1_copyFrom_9 : decode cX1_copyFrom 9 = .ok (.iconst 0, 1) := by decide +kernel
theorem dX1_copyFrom_10 : decode cX1_copyFrom 10 = .ok (.bipush 8, 2) := by decide +kernel
theorem dX1_copyFrom_12 : decode cX1_copyFrom 12 = .ok (.invokestatic 31, 3) := by decide +kernel
theorem dX1_copyFrom_15 : decode cX1_copyFrom 15 = .ok (.aload_n 1, 1) := by decide +kernel
theorem dX1_copyFrom_16 : decode cX1_copyFrom 16 = .ok (.getfield 15, 3) := by decide +kernel
theorem dX1_copyFrom_19 : decode cX1_copyFrom 19 = .ok (.iconst 0, 1) := by decide +kernel
theorem dX1_copyFrom_20 : decode cX1_copyFrom 20 = .ok (.aload_n 0, 1) := by decide +kernel
theorem dX1_copyFrom_21 : decode cX1_copyFrom 21 = .ok (.getfield 15, 3) := by decide +kernel
theorem dX1_copyFrom_24 : decode cX1_copyFrom 24 = .ok (.iconst 0, 1) := by decide +kernel
theorem dX1_copyFrom_25 : decode cX1_copyFrom 25 = .ok (.bipush 8, 2) := by decide +kernel
theorem dX1_copyFrom_27 : decode cX1_copyFrom 27 = .ok (.invokestatic 31, 3) := by decide +kernel
theorem dX1_copyFrom_30 : decode cX1_copyFrom 30 = .ok (.aload_n 0, 1) := by decide +kernel
theorem dX1_copyFrom_31 : decode cX1_copyFrom 31 = .ok (.aload_n 1, 1) := by decide +kernel
theorem dX1_copyFrom_32 : decode cX1_copyFrom 32 = .ok (.getfield 18, 3) := by decide +kernel
theorem dX1_copyFrom_35 : decode cX1_copyFrom 35 = .ok (.putfield 18, 3) := by decide +kernel
theorem dX1_copyFrom_38 : decode cX1_copyFrom 38 = .ok (.return_, 1) := by decide +kernel
theorem dX2_init_0 : decode cX2_init 0 = .ok (.aload_n 0, 1) := by decide +kernel
theorem dX2_init_1 : decode cX2_init 1 = .ok (.invokespecial 3, 3) := by decide +kernel
theorem dX2_init_4 : decode cX2_init 4 = .ok (.aload_n 0, 1) := by decide +kernel
theorem dX2_init_5 : decode cX2_init 5 = .ok (.new 9, 3) := by decide +kernel
theorem dX2_init_8 : decode cX2_init 8 = .ok (.dup, 1) := by decide +kernel
theorem dX2_init_9 : decode cX2_init 9 = .ok (.invokespecial 11, 3) := by decide +kernel
theorem dX2_init_12 : decode cX2_init 12 = .ok (.putfield 12, 3) := by decide +kernel
theorem dX2_init_15 : decode cX2_init 15 = .ok (.aload_n 0, 1) := by decide +kernel
theorem dX2_init_16 : decode cX2_init 16 = .ok (.new 18, 3) := by decide +kernel
theorem dX2_init_19 : decode cX2_init 19 = .ok (.dup, 1) := by decide +kernel
theorem dX2_init_20 : decode cX2_init 20 = .ok (.iconst 5, 1) := by decide +kernel
theorem dX2_init_21 : decode cX2_init 21 = .ok (.invokespecial 20, 3) := by decide +kernel
theorem dX2_init_24 : decode cX2_init 24 = .ok (.putfield 23, 3) := by decide +kernel
theorem dX2_init_27 : decode cX2_init 27 = .ok (.aload_n 0, 1) := by decide +kernel
theorem dX2_init_28 : decode cX2_init 28 = .ok (.new 18, 3) := by decide +kernel
theorem dX2_init_31 : decode cX2_init 31 = .ok (.dup, 1) := by decide +kernel
theorem dX2_init_32 : decode cX2_init 32 = .ok (.bipush 8, 2) := by decide +kernel
theorem dX2_init_34 : decode cX2_init 34 = .ok (.invokespecial 20, 3) := by decide +kernel
theorem dX2_init_37 : decode cX2_init 37 = .ok (.putfield 27, 3) := by decide +kernel
theorem dX2_init_40 : decode cX2_init 40 = .ok (.aload_n 0, 1) := by decide +kernel
theorem dX2_init_41 : decode cX2_init 41 = .ok (.new 18, 3) := by decide +kernel
theorem dX2_init_44 : decode cX2_init 44 = .ok (.dup, 1) := by decide +kernel
theorem dX2_init_45 : decode cX2_init 45 = .ok (.bipush 8, 2) := by decide +kernel
theorem dX2_init_47 : decode cX2_init 47 = .ok (.invokespecial 20, 3) := by decide +kernel
theorem dX2_init_50 : decode cX2_init 50 = .ok (.putfield 30, 3) := by decide +kernel
theorem dX2_init_53 : decode cX2_init 53 = .ok (.return_, 1) := by decide +kernel
theorem dX2_copyFrom_0 : decode cX2_copyFrom 0 = .ok (.aload_n 0, 1) := by decide +kernel
theorem dX2_copyFrom_1 : decode cX2_copyFrom 1 = .ok (.getfield 12, 3) := by decide +kernel
theorem dX2_copyFrom_4 : decode cX2_copyFrom 4 = .ok (.aload_n 1, 1) := by decide +kernel
theorem dX2_copyFrom_5 : decode cX2_copyFrom 5 = .ok (.getfield 12, 3) := by decide +kernel
theorem dX2_copyFrom_8 : decode cX2_copyFrom 8 = .ok (.invokevirtual 33, 3) := by decide +kernel
theorem dX2_copyFrom_11 : decode cX2_copyFrom 11 = .ok (.aload_n 0, 1) := by decide +kernel
theorem dX2_copyFrom_12 : decode cX2_copyFrom 12 = .ok (.getfield 23, 3) := by decide +kernel
theorem dX2_copyFrom_15 : decode cX2_copyFrom 15 = .ok (.aload_n 1, 1) := by decide +kernel
theorem dX2_copyFrom_16 : decode cX2_copyFrom 16 = .ok (.getfield 23, 3) := by decide +kernel
theorem dX2_copyFrom_19 : decode cX2_copyFrom 19 = .ok (.invokevirtual 37, 3) := by decide +kernel
theorem dX2_copyFrom_22 : decode cX2_copyFrom 22 = .ok (.aload_n 0, 1) := by decide +kernel
theorem dX2_copyFrom_23 : decode cX2_copyFrom 23 = .ok (.getfield 27, 3) := by decide +kernel
theorem dX2_copyFrom_26 : decode cX2_copyFrom 26 = .ok (.aload_n 1, 1) := by decide +kernel
theorem dX2_copyFrom_27 : decode cX2_copyFrom 27 = .ok (.getfield 27, 3) := by decide +kernel
theorem dX2_copyFrom_30 : decode cX2_copyFrom 30 = .ok (.invokevirtual 37, 3) := by decide +kernel
theorem dX2_copyFrom_33 : decode cX2_copyFrom 33 = .ok (.aload_n 0, 1) := by decide +kernel
theorem dX2_copyFrom_34 : decode cX2_copyFrom 34 = .ok (.getfield 30, 3) := by decide +kernel
theorem dX2_copyFrom_37 : decode cX2_copyFrom 37 = .ok (.aload_n 1, 1) := by decide +kernel
theorem dX2_copyFrom_38 : decode cX2_copyFrom 38 = .ok (.getfield 30, 3) := by decide +kernel
theorem dX2_copyFrom_41 : decode cX2_copyFrom 41 = .ok (.invokevirtual 37, 3) := by decide +kernel
theorem dX2_copyFrom_44 : decode cX2_copyFrom 44 = .ok (.return_, 1) := by decide +kernel
theorem dX3_init_0 : decode cX3_init 0 = .ok (.aload_n 0, 1) := by decide +kernel
theorem dX3_init_1 : decode cX3_init 1 = .ok (.invokespecial 3, 3) := by decide +kernel
theorem dX3_init_4 : decode cX3_init 4 = .ok (.aload_n 0, 1) := by decide +kernel
theorem dX3_init_5 : decode cX3_init 5 = .ok (.bipush 60, 2) := by decide +kernel
theorem dX3_init_7 : decode cX3_init 7 = .ok (.newarray .long, 2) := by decide +kernel
theorem dX3_init_9 : decode cX3_init 9 = .ok (.putfield 9, 3) := by decide +kernel
theorem dX3_init_12 : decode cX3_init 12 = .ok (.aload_n 0, 1) := by decide +kernel
theorem dX3_init_13 : decode cX3_init 13 = .ok (.iconst (-1), 1) := by decide +kernel
theorem dX3_init_14 : decode cX3_init 14 = .ok (.putfield 15, 3) := by decide +kernel
theorem dX3_init_17 : decode cX3_init 17 = .ok (.aload_n 0, 1) := by decide +kernel
theorem dX3_init_18 : decode cX3_init 18 = .ok (.iconst 0, 1) := by decide +kernel
theorem dX3_init_19 : decode cX3_init 19 = .ok (.putfield 19, 3) := by decide +kernel
theorem dX3_init_22 : decode cX3_init 22 = .ok (.return_, 1) := by decide +kernel
theorem dX3_isBlank_0 : decode cX3_isBlank 0 = .ok (.aload_n 0, 1) := by decide +kernel
theorem dX3_isBlank_1 : decode cX3_isBlank 1 = .ok (.getfield 15, 3) := by decide +kernel
theorem dX3_isBlank_4 : decode cX3_isBlank 4 = .ok (.iconst (-1), 1) := by decide +kernel
theorem dX3_isBlank_5 : decode cX3_isBlank 5 = .ok (.if_icmp .ne 7, 3) := by decide +kernel
theorem dX3_isBlank_8 : decode cX3_isBlank 8 = .ok (.iconst 1, 1) := by decide +kernel
theorem dX3_isBlank_9 : decode cX3_isBlank 9 = .ok (.goto 4, 3) := by decide +kernel
theorem dX3_isBlank_12 : decode cX3_isBlank 12 = .ok (.iconst 0, 1) := by decide +kernel
theorem dX3_isBlank_13 : decode cX3_isBlank 13 = .ok (.ireturn, 1) := by decide +kernel
theorem dX3_sort_0 : decode cX3_sort 0 = .ok (.aload_n 0, 1) := by decide +kernel
theorem dX3_sort_1 : decode cX3_sort 1 = .ok (.getfield 15, 3) := by decide +kernel
theorem dX3_sort_4 : decode cX3_sort 4 = .ok (.ireturn, 1) := by decide +kernel
theorem dX3_become_0 : decode cX3_become 0 = .ok (.aload_n 0, 1) := by decide +kernel
theorem dX3_become_1 : decode cX3_become 1 = .ok (.iload_n 1, 1) := by decide +kernel
theorem dX3_become_2 : decode cX3_become 2 = .ok (.putfield 15, 3) := by decide +kernel
theorem dX3_become_5 : decode cX3_become 5 = .ok (.aload_n 0, 1) := by decide +kernel
theorem dX3_become_6 : decode cX3_become 6 = .ok (.iconst 0, 1) := by decide +kernel
theorem dX3_become_7 : decode cX3_become 7 = .ok (.iload_n 2, 1) := by decide +kernel
theorem dX3_become_8 : decode cX3_become 8 = .ok (.bipush 60, 2) := by decide +kernel
theorem dX3_become_10 : decode cX3_become 10 = .ok (.invokestatic 22, 3) := by decide +kernel
theorem dX3_become_13 : decode cX3_become 13 = .ok (.invokestatic 28, 3) := by decide +kernel
theorem dX3_become_16 : decode cX3_become 16 = .ok (.putfield 19, 3) := by decide +kernel
theorem dX3_become_19 : decode cX3_become 19 = .ok (.iconst 0, 1) := by decide +kernel
theorem dX3_become_20 : decode cX3_become 20 = .ok (.istore_n 3, 1) := by decide +kernel
theorem dX3_become_21 : decode cX3_become 21 = .ok (.iload_n 3, 1) := by decide +kernel
theorem dX3_become_22 : decode cX3_become 22 = .ok (.bipush 60, 2) := by decide +kernel
theorem dX3_become_24 : decode cX3_become 24 = .ok (.if_icmp .ge 16, 3) := by decide +kernel
theorem dX3_become_27 : decode cX3_become 27 = .ok (.aload_n 0, 1) := by decide +kernel
theorem dX3_become_28 : decode cX3_become 28 = .ok (.getfield 9, 3) := by decide +kernel
theorem dX3_become_31 : decode cX3_become 31 = .ok (.iload_n 3, 1) := by decide +kernel
theorem dX3_become_32 : decode cX3_become 32 = .ok (.lconst 0, 1) := by decide +kernel
theorem dX3_become_33 : decode cX3_become 33 = .ok (.lastore, 1) := by decide +kernel
theorem dX3_become_34 : decode cX3_become 34 = .ok (.iinc 3 1, 3) := by decide +kernel
theorem dX3_become_37 : decode cX3_become 37 = .ok (.goto (-16), 3) := by decide +kernel
theorem dX3_become_40 : decode cX3_become 40 = .ok (.return_, 1) := by decide +kernel
theorem dX3_holds_0 : decode cX3_holds 0 = .ok (.iload_n 1, 1) := by decide +kernel
theorem dX3_holds_1 : decode cX3_holds 1 = .ok (.ifCond .lt 15, 3) := by decide +kernel
theorem dX3_holds_4 : decode cX3_holds 4 = .ok (.iload_n 1, 1) := by decide +kernel
theorem dX3_holds_5 : decode cX3_holds 5 = .ok (.aload_n 0, 1) := by decide +kernel
theorem dX3_holds_6 : decode cX3_holds 6 = .ok (.getfield 19, 3) := by decide +kernel
theorem dX3_holds_9 : decode cX3_holds 9 = .ok (.if_icmp .ge 7, 3) := by decide +kernel
theorem dX3_holds_12 : decode cX3_holds 12 = .ok (.iconst 1, 1) := by decide +kernel
theorem dX3_holds_13 : decode cX3_holds 13 = .ok (.goto 4, 3) := by decide +kernel
theorem dX3_holds_16 : decode cX3_holds 16 = .ok (.iconst 0, 1) := by decide +kernel
theorem dX3_holds_17 : decode cX3_holds 17 = .ok (.ireturn, 1) := by decide +kernel
theorem dX3_holdsRun_0 : decode cX3_holdsRun 0 = .ok (.iload_n 1, 1) := by decide +kernel
theorem dX3_holdsRun_1 : decode cX3_holdsRun 1 = .ok (.ifCond .lt 21, 3) := by decide +kernel
theorem dX3_holdsRun_4 : decode cX3_holdsRun 4 = .ok (.iload_n 2, 1) := by decide +kernel
theorem dX3_holdsRun_5 : decode cX3_holdsRun 5 = .ok (.ifCond .lt 17, 3) := by decide +kernel
theorem dX3_holdsRun_8 : decode cX3_holdsRun 8 = .ok (.iload_n 2, 1) := by decide +kernel
theorem dX3_holdsRun_9 : decode cX3_holdsRun 9 = .ok (.aload_n 0, 1) := by decide +kernel
theorem dX3_holdsRun_10 : decode cX3_holdsRun 10 = .ok (.getfield 19, 3) := by decide +kernel
theorem dX3_holdsRun_13 : decode cX3_holdsRun 13 = .ok (.iload_n 1, 1) := by decide +kernel
theorem dX3_holdsRun_14 : decode cX3_holdsRun 14 = .ok (.isub, 1) := by decide +kernel
theorem dX3_holdsRun_15 : decode cX3_holdsRun 15 = .ok (.if_icmp .gt 7, 3) := by decide +kernel
theorem dX3_holdsRun_18 : decode cX3_holdsRun 18 = .ok (.iconst 1, 1) := by decide +kernel
theorem dX3_holdsRun_19 : decode cX3_holdsRun 19 = .ok (.goto 4, 3) := by decide +kernel
theorem dX3_holdsRun_22 : decode cX3_holdsRun 22 = .ok (.iconst 0, 1) := by decide +kernel
theorem dX3_holdsRun_23 : decode cX3_holdsRun 23 = .ok (.ireturn, 1) := by decide +kernel
theorem dX3_get_0 : decode cX3_get 0 = .ok (.aload_n 0, 1) := by decide +kernel
theorem dX3_get_1 : decode cX3_get 1 = .ok (.iload_n 1, 1) := by decide +kernel
theorem dX3_get_2 : decode cX3_get 2 = .ok (.invokevirtual 31, 3) := by decide +kernel
theorem dX3_get_5 : decode cX3_get 5 = .ok (.ifCond .eq 12, 3) := by decide +kernel
theorem dX3_get_8 : decode cX3_get 8 = .ok (.aload_n 0, 1) := by decide +kernel
theorem dX3_get_9 : decode cX3_get 9 = .ok (.getfield 9, 3) := by decide +kernel
theorem dX3_get_12 : decode cX3_get 12 = .ok (.iload_n 1, 1) := by decide +kernel
theorem dX3_get_13 : decode cX3_get 13 = .ok (.laload, 1) := by decide +kernel
theorem dX3_get_14 : decode cX3_get 14 = .ok (.goto 6, 3) := by decide +kernel
theorem dX3_get_17 : decode cX3_get 17 = .ok (.ldc2_w 35, 3) := by decide +kernel
theorem dX3_get_20 : decode cX3_get 20 = .ok (.lreturn, 1) := by decide +kernel
theorem dX3_put_0 : decode cX3_put 0 = .ok (.aload_n 0, 1) := by decide +kernel
theorem dX3_put_1 : decode cX3_put 1 = .ok (.iload_n 1, 1) := by decide +kernel
theorem dX3_put_2 : decode cX3_put 2 = .ok (.invokevirtual 31, 3) := by decide +kernel
theorem dX3_put_5 : decode cX3_put 5 = .ok (.ifCond .eq 14, 3) := by decide +kernel
theorem dX3_put_8 : decode cX3_put 8 = .ok (.aload_n 0, 1) := by decide +kernel
theorem dX3_put_9 : decode cX3_put 9 = .ok (.getfield 9, 3) := by decide +kernel
theorem dX3_put_12 : decode cX3_put 12 = .ok (.iload_n 1, 1) := by decide +kernel
theorem dX3_put_13 : decode cX3_put 13 = .ok (.aload_n 0, 1) := by decide +kernel
theorem dX3_put_14 : decode cX3_put 14 = .ok (.lload_n 2, 1) := by decide +kernel
theorem dX3_put_15 : decode cX3_put 15 = .ok (.invokevirtual 37, 3) := by decide +kernel
theorem dX3_put_18 : decode cX3_put 18 = .ok (.lastore, 1) := by decide +kernel
theorem dX3_put_19 : decode cX3_put 19 = .ok (.return_, 1) := by decide +kernel
theorem dX3_take_0 : decode cX3_take 0 = .ok (.aload_n 0, 1) := by decide +kernel
theorem dX3_take_1 : decode cX3_take 1 = .ok (.iload_n 1, 1) := by decide +kernel
theorem dX3_take_2 : decode cX3_take 2 = .ok (.iload 4, 2) := by decide +kernel
theorem dX3_take_4 : decode cX3_take 4 = .ok (.invokevirtual 41, 3) := by decide +kernel
theorem dX3_take_7 : decode cX3_take 7 = .ok (.ifCond .eq 28, 3) := by decide +kernel
theorem dX3_take_10 : decode cX3_take 10 = .ok (.aload_n 2, 1) := by decide +kernel
theorem dX3_take_11 : decode cX3_take 11 = .ok (.iload_n 3, 1) := by decide +kernel
theorem dX3_take_12 : decode cX3_take 12 = .ok (.iload 4, 2) := by decide +kernel
theorem dX3_take_14 : decode cX3_take 14 = .ok (.invokevirtual 41, 3) := by decide +kernel
theorem dX3_take_17 : decode cX3_take 17 = .ok (.ifCond .eq 18, 3) := by decide +kernel
theorem dX3_take_20 : decode cX3_take 20 = .ok (.aload_n 2, 1) := by decide +kernel
theorem dX3_take_21 : decode cX3_take 21 = .ok (.getfield 9, 3) := by decide +kernel
theorem dX3_take_24 : decode cX3_take 24 = .ok (.iload_n 3, 1) := by decide +kernel
theorem dX3_take_25 : decode cX3_take 25 = .ok (.aload_n 0, 1) := by decide +kernel
theorem dX3_take_26 : decode cX3_take 26 = .ok (.getfield 9, 3) := by decide +kernel
theorem dX3_take_29 : decode cX3_take 29 = .ok (.iload_n 1, 1) := by decide +kernel
theorem dX3_take_30 : decode cX3_take 30 = .ok (.iload 4, 2) := by decide +kernel
theorem dX3_take_32 : decode cX3_take 32 = .ok (.invokestatic 45, 3) := by decide +kernel
theorem dX3_take_35 : decode cX3_take 35 = .ok (.return_, 1) := by decide +kernel
theorem dX3_cut_0 : decode cX3_cut 0 = .ok (.aload_n 0, 1) := by decide +kernel
theorem dX3_cut_1 : decode cX3_cut 1 = .ok (.getfield 15, 3) := by decide +kernel
theorem dX3_cut_4 : decode cX3_cut 4 = .ok (.tableswitch 48 0 3 #[32, 37, 42, 46], 32) := by decide +kernel
theorem dX3_cut_36 : decode cX3_cut 36 = .ok (.lload_n 1, 1) := by decide +kernel
theorem dX3_cut_37 : decode cX3_cut 37 = .ok (.l2i, 1) := by decide +kernel
theorem dX3_cut_38 : decode cX3_cut 38 = .ok (.i2b, 1) := by decide +kernel
theorem dX3_cut_39 : decode cX3_cut 39 = .ok (.i2l, 1) := by decide +kernel
theorem dX3_cut_40 : decode cX3_cut 40 = .ok (.lreturn, 1) := by decide +kernel
theorem dX3_cut_41 : decode cX3_cut 41 = .ok (.lload_n 1, 1) := by decide +kernel
theorem dX3_cut_42 : decode cX3_cut 42 = .ok (.l2i, 1) := by decide +kernel
theorem dX3_cut_43 : decode cX3_cut 43 = .ok (.i2s, 1) := by decide +kernel
theorem dX3_cut_44 : decode cX3_cut 44 = .ok (.i2l, 1) := by decide +kernel
theorem dX3_cut_45 : decode cX3_cut 45 = .ok (.lreturn, 1) := by decide +kernel
theorem dX3_cut_46 : decode cX3_cut 46 = .ok (.lload_n 1, 1) := by decide +kernel
theorem dX3_cut_47 : decode cX3_cut 47 = .ok (.l2i, 1) := by decide +kernel
theorem dX3_cut_48 : decode cX3_cut 48 = .ok (.i2l, 1) := by decide +kernel
theorem dX3_cut_49 : decode cX3_cut 49 = .ok (.lreturn, 1) := by decide +kernel
theorem dX3_cut_50 : decode cX3_cut 50 = .ok (.lload_n 1, 1) := by decide +kernel
theorem dX3_cut_51 : decode cX3_cut 51 = .ok (.lreturn, 1) := by decide +kernel
theorem dX3_cut_52 : decode cX3_cut 52 = .ok (.lload_n 1, 1) := by decide +kernel
theorem dX3_cut_53 : decode cX3_cut 53 = .ok (.lconst 0, 1) := by decide +kernel
theorem dX3_cut_54 : decode cX3_cut 54 = .ok (.lcmp, 1) := by decide +kernel
theorem dX3_cut_55 : decode cX3_cut 55 = .ok (.ifCond .ne 7, 3) := by decide +kernel
theorem dX3_cut_58 : decode cX3_cut 58 = .ok (.lconst 0, 1) := by decide +kernel
theorem dX3_cut_59 : decode cX3_cut 59 = .ok (.goto 4, 3) := by decide +kernel
theorem dX3_cut_62 : decode cX3_cut 62 = .ok (.lconst 1, 1) := by decide +kernel
theorem dX3_cut_63 : decode cX3_cut 63 = .ok (.lreturn, 1) := by decide +kernel
theorem dX4_init_0 : decode cX4_init 0 = .ok (.aload_n 0, 1) := by decide +kernel
theorem dX4_init_1 : decode cX4_init 1 = .ok (.invokespecial 3, 3) := by decide +kernel
theorem dX4_init_4 : decode cX4_init 4 = .ok (.aload_n 0, 1) := by decide +kernel
theorem dX4_init_5 : decode cX4_init 5 = .ok (.bipush 100, 2) := by decide +kernel
theorem dX4_init_7 : decode cX4_init 7 = .ok (.newarray .byte, 2) := by decide +kernel
theorem dX4_init_9 : decode cX4_init 9 = .ok (.putfield 9, 3) := by decide +kernel
theorem dX4_init_12 : decode cX4_init 12 = .ok (.aload_n 0, 1) := by decide +kernel
theorem dX4_init_13 : decode cX4_init 13 = .ok (.iconst 0, 1) := by decide +kernel
theorem dX4_init_14 : decode cX4_init 14 = .ok (.putfield 15, 3) := by decide +kernel
theorem dX4_init_17 : decode cX4_init 17 = .ok (.aload_n 0, 1) := by decide +kernel
theorem dX4_init_18 : decode cX4_init 18 = .ok (.iconst 0, 1) := by decide +kernel
theorem dX4_init_19 : decode cX4_init 19 = .ok (.putfield 19, 3) := by decide +kernel
theorem dX4_init_22 : decode cX4_init 22 = .ok (.aload_n 0, 1) := by decide +kernel
theorem dX4_init_23 : decode cX4_init 23 = .ok (.iconst (-1), 1) := by decide +kernel
theorem dX4_init_24 : decode cX4_init 24 = .ok (.putfield 22, 3) := by decide +kernel
theorem dX4_init_27 : decode cX4_init 27 = .ok (.aload_n 0, 1) := by decide +kernel
theorem dX4_init_28 : decode cX4_init 28 = .ok (.iconst 0, 1) := by decide +kernel
theorem dX4_init_29 : decode cX4_init 29 = .ok (.putfield 25, 3) := by decide +kernel
theorem dX4_init_32 : decode cX4_init 32 = .ok (.aload_n 0, 1) := by decide +kernel
theorem dX4_init_33 : decode cX4_init 33 = .ok (.bipush 8, 2) := by decide +kernel
theorem dX4_init_35 : decode cX4_init 35 = .ok (.newarray .int, 2) := by decide +kernel
theorem dX4_init_37 : decode cX4_init 37 = .ok (.putfield 28, 3) := by decide +kernel
theorem dX4_init_40 : decode cX4_init 40 = .ok (.aload_n 0, 1) := by decide +kernel
theorem dX4_init_41 : decode cX4_init 41 = .ok (.bipush 8, 2) := by decide +kernel
theorem dX4_init_43 : decode cX4_init 43 = .ok (.newarray .int, 2) := by decide +kernel
theorem dX4_init_45 : decode cX4_init 45 = .ok (.putfield 32, 3) := by decide +kernel
theorem dX4_init_48 : decode cX4_init 48 = .ok (.aload_n 0, 1) := by decide +kernel
theorem dX4_init_49 : decode cX4_init 49 = .ok (.bipush 8, 2) := by decide +kernel
theorem dX4_init_51 : decode cX4_init 51 = .ok (.newarray .int, 2) := by decide +kernel
theorem dX4_init_53 : decode cX4_init 53 = .ok (.putfield 35, 3) := by decide +kernel
theorem dX4_init_56 : decode cX4_init 56 = .ok (.aload_n 0, 1) := by decide +kernel
theorem dX4_init_57 : decode cX4_init 57 = .ok (.bipush 8, 2) := by decide +kernel
theorem dX4_init_59 : decode cX4_init 59 = .ok (.newarray .boolean, 2) := by decide +kernel
theorem dX4_init_61 : decode cX4_init 61 = .ok (.putfield 38, 3) := by decide +kernel
theorem dX4_init_64 : decode cX4_init 64 = .ok (.return_, 1) := by decide +kernel
theorem dX4_length_0 : decode cX4_length 0 = .ok (.aload_n 0, 1) := by decide +kernel
theorem dX4_length_1 : decode cX4_length 1 = .ok (.getfield 15, 3) := by decide +kernel
theorem dX4_length_4 : decode cX4_length 4 = .ok (.ireturn, 1) := by decide +kernel
theorem dX4_append_0 : decode cX4_append 0 = .ok (.aload_n 0, 1) := by decide +kernel
theorem dX4_append_1 : decode cX4_append 1 = .ok (.getfield 15, 3) := by decide +kernel
theorem dX4_append_4 : decode cX4_append 4 = .ok (.bipush 100, 2) := by decide +kernel
theorem dX4_append_6 : decode cX4_append 6 = .ok (.if_icmp .lt 6, 3) := by decide +kernel
theorem dX4_append_9 : decode cX4_append 9 = .ok (.bipush (-4), 2) := by decide +kernel
theorem dX4_append_11 : decode cX4_append 11 = .ok (.ireturn, 1) := by decide +kernel
theorem dX4_append_12 : decode cX4_append 12 = .ok (.aload_n 0, 1) := by decide +kernel
theorem dX4_append_13 : decode cX4_append 13 = .ok (.getfield 9, 3) := by decide +kernel
theorem dX4_append_16 : decode cX4_append 16 = .ok (.aload_n 0, 1) := by decide +kernel
theorem dX4_append_17 : decode cX4_append 17 = .ok (.getfield 15, 3) := by decide +kernel
theorem dX4_append_20 : decode cX4_append 20 = .ok (.iload_n 1, 1) := by decide +kernel
theorem dX4_append_21 : decode cX4_append 21 = .ok (.i2b, 1) := by decide +kernel
theorem dX4_append_22 : decode cX4_append 22 = .ok (.bastore, 1) := by decide +kernel
theorem dX4_append_23 : decode cX4_append 23 = .ok (.aload_n 0, 1) := by decide +kernel
theorem dX4_append_24 : decode cX4_append 24 = .ok (.dup, 1) := by decide +kernel
theorem dX4_append_25 : decode cX4_append 25 = .ok (.getfield 15, 3) := by decide +kernel
theorem dX4_append_28 : decode cX4_append 28 = .ok (.iconst 1, 1) := by decide +kernel
theorem dX4_append_29 : decode cX4_append 29 = .ok (.iadd, 1) := by decide +kernel
theorem dX4_append_30 : decode cX4_append 30 = .ok (.putfield 15, 3) := by decide +kernel
theorem dX4_append_33 : decode cX4_append 33 = .ok (.aload_n 0, 1) := by decide +kernel
theorem dX4_append_34 : decode cX4_append 34 = .ok (.getfield 15, 3) := by decide +kernel
theorem dX4_append_37 : decode cX4_append 37 = .ok (.ireturn, 1) := by decide +kernel
theorem dX4_clear_0 : decode cX4_clear 0 = .ok (.aload_n 0, 1) := by decide +kernel
theorem dX4_clear_1 : decode cX4_clear 1 = .ok (.iconst 0, 1) := by decide +kernel
theorem dX4_clear_2 : decode cX4_clear 2 = .ok (.putfield 15, 3) := by decide +kernel
theorem dX4_clear_5 : decode cX4_clear 5 = .ok (.return_, 1) := by decide +kernel
theorem dX4_clauses_0 : decode cX4_clauses 0 = .ok (.aload_n 0, 1) := by decide +kernel
theorem dX4_clauses_1 : decode cX4_clauses 1 = .ok (.getfield 25, 3) := by decide +kernel
theorem dX4_clauses_4 : decode cX4_clauses 4 = .ok (.ireturn, 1) := by decide +kernel
theorem dX4_x_0 : decode cX4_x 0 = .ok (.iload_n 1, 1) := by decide +kernel
theorem dX4_x_1 : decode cX4_x 1 = .ok (.ifCond .lt 20, 3) := by decide +kernel
theorem dX4_x_4 : decode cX4_x 4 = .ok (.iload_n 1, 1) := by decide +kernel
theorem dX4_x_5 : decode cX4_x 5 = .ok (.aload_n 0, 1) := by decide +kernel
theorem dX4_x_6 : decode cX4_x 6 = .ok (.getfield 25, 3) := by decide +kernel
theorem dX4_x_9 : decode cX4_x 9 = .ok (.if_icmp .ge 12, 3) := by decide +kernel
theorem dX4_x_12 : decode cX4_x 12 = .ok (.aload_n 0, 1) := by decide +kernel
theorem dX4_x_13 : decode cX4_x 13 = .ok (.getfield 28, 3) := by decide +kernel
theorem dX4_x_16 : decode cX4_x 16 = .ok (.iload_n 1, 1) := by decide +kernel
theorem dX4_x_17 : decode cX4_x 17 = .ok (.iaload, 1) := by decide +kernel
theorem dX4_x_18 : decode cX4_x 18 = .ok (.goto 4, 3) := by decide +kernel
theorem dX4_x_21 : decode cX4_x 21 = .ok (.iconst (-1), 1) := by decide +kernel
theorem dX4_x_22 : decode cX4_x 22 = .ok (.ireturn, 1) := by decide +kernel
theorem dX4_y_0 : decode cX4_y 0 = .ok (.iload_n 1, 1) := by decide +kernel
theorem dX4_y_1 : decode cX4_y 1 = .ok (.ifCond .lt 20, 3) := by decide +kernel
theorem dX4_y_4 : decode cX4_y 4 = .ok (.iload_n 1, 1) := by decide +kernel
theorem dX4_y_5 : decode cX4_y 5 = .ok (.aload_n 0, 1) := by decide +kernel
theorem dX4_y_6 : decode cX4_y 6 = .ok (.getfield 25, 3) := by decide +kernel
theorem dX4_y_9 : decode cX4_y 9 = .ok (.if_icmp .ge 12, 3) := by decide +kernel
theorem dX4_y_12 : decode cX4_y 12 = .ok (.aload_n 0, 1) := by decide +kernel
theorem dX4_y_13 : decode cX4_y 13 = .ok (.getfield 32, 3) := by decide +kernel
theorem dX4_y_16 : decode cX4_y 16 = .ok (.iload_n 1, 1) := by decide +kernel
theorem dX4_y_17 : decode cX4_y 17 = .ok (.iaload, 1) := by decide +kernel
theorem dX4_y_18 : decode cX4_y 18 = .ok (.goto 4, 3) := by decide +kernel
theorem dX4_y_21 : decode cX4_y 21 = .ok (.iconst (-1), 1) := by decide +kernel
theorem dX4_y_22 : decode cX4_y 22 = .ok (.ireturn, 1) := by decide +kernel
theorem dX4_channelAt_0 : decode cX4_channelAt 0 = .ok (.iload_n 1, 1) := by decide +kernel
theorem dX4_channelAt_1 : decode cX4_channelAt 1 = .ok (.ifCond .lt 20, 3) := by decide +kernel
theorem dX4_channelAt_4 : decode cX4_channelAt 4 = .ok (.iload_n 1, 1) := by decide +kernel
theorem dX4_channelAt_5 : decode cX4_channelAt 5 = .ok (.aload_n 0, 1) := by decide +kernel
theorem dX4_channelAt_6 : decode cX4_channelAt 6 = .ok (.getfield 25, 3) := by decide +kernel
theorem dX4_channelAt_9 : decode cX4_channelAt 9 = .ok (.if_icmp .ge 12, 3) := by decide +kernel
theorem dX4_channelAt_12 : decode cX4_channelAt 12 = .ok (.aload_n 0, 1) := by decide +kernel
theorem dX4_channelAt_13 : decode cX4_channelAt 13 = .ok (.getfield 35, 3) := by decide +kernel
theorem dX4_channelAt_16 : decode cX4_channelAt 16 = .ok (.iload_n 1, 1) := by decide +kernel
theorem dX4_channelAt_17 : decode cX4_channelAt 17 = .ok (.iaload, 1) := by decide +kernel
theorem dX4_channelAt_18 : decode cX4_channelAt 18 = .ok (.goto 4, 3) := by decide +kernel
theorem dX4_channelAt_21 : decode cX4_channelAt 21 = .ok (.iconst (-1), 1) := by decide +kernel
theorem dX4_channelAt_22 : decode cX4_channelAt 22 = .ok (.ireturn, 1) := by decide +kernel
theorem dX4_isFixedAt_0 : decode cX4_isFixedAt 0 = .ok (.iload_n 1, 1) := by decide +kernel
theorem dX4_isFixedAt_1 : decode cX4_isFixedAt 1 = .ok (.ifCond .lt 24, 3) := by decide +kernel
theorem dX4_isFixedAt_4 : decode cX4_isFixedAt 4 = .ok (.iload_n 1, 1) := by decide +kernel
theorem dX4_isFixedAt_5 : decode cX4_isFixedAt 5 = .ok (.aload_n 0, 1) := by decide +kernel
theorem dX4_isFixedAt_6 : decode cX4_isFixedAt 6 = .ok (.getfield 25, 3) := by decide +kernel
theorem dX4_isFixedAt_9 : decode cX4_isFixedAt 9 = .ok (.if_icmp .ge 16, 3) := by decide +kernel
theorem dX4_isFixedAt_12 : decode cX4_isFixedAt 12 = .ok (.aload_n 0, 1) := by decide +kernel
theorem dX4_isFixedAt_13 : decode cX4_isFixedAt 13 = .ok (.getfield 38, 3) := by decide +kernel
theorem dX4_isFixedAt_16 : decode cX4_isFixedAt 16 = .ok (.iload_n 1, 1) := by decide +kernel
theorem dX4_isFixedAt_17 : decode cX4_isFixedAt 17 = .ok (.baload, 1) := by decide +kernel
theorem dX4_isFixedAt_18 : decode cX4_isFixedAt 18 = .ok (.ifCond .eq 7, 3) := by decide +kernel
theorem dX4_isFixedAt_21 : decode cX4_isFixedAt 21 = .ok (.iconst 1, 1) := by decide +kernel
theorem dX4_isFixedAt_22 : decode cX4_isFixedAt 22 = .ok (.goto 4, 3) := by decide +kernel
theorem dX4_isFixedAt_25 : decode cX4_isFixedAt 25 = .ok (.iconst 0, 1) := by decide +kernel
theorem dX4_isFixedAt_26 : decode cX4_isFixedAt 26 = .ok (.ireturn, 1) := by decide +kernel
theorem dX4_parse_0 : decode cX4_parse 0 = .ok (.aload_n 0, 1) := by decide +kernel
theorem dX4_parse_1 : decode cX4_parse 1 = .ok (.iconst 0, 1) := by decide +kernel
theorem dX4_parse_2 : decode cX4_parse 2 = .ok (.putfield 19, 3) := by decide +kernel
theorem dX4_parse_5 : decode cX4_parse 5 = .ok (.aload_n 0, 1) := by decide +kernel
theorem dX4_parse_6 : decode cX4_parse 6 = .ok (.iconst (-1), 1) := by decide +kernel
theorem dX4_parse_7 : decode cX4_parse 7 = .ok (.putfield 22, 3) := by decide +kernel
theorem dX4_parse_10 : decode cX4_parse 10 = .ok (.aload_n 0, 1) := by decide +kernel
theorem dX4_parse_11 : decode cX4_parse 11 = .ok (.iconst 0, 1) := by decide +kernel
theorem dX4_parse_12 : decode cX4_parse 12 = .ok (.putfield 25, 3) := by decide +kernel
theorem dX4_parse_15 : decode cX4_parse 15 = .ok (.iconst 0, 1) := by decide +kernel
theorem dX4_parse_16 : decode cX4_parse 16 = .ok (.istore_n 1, 1) := by decide +kernel
theorem dX4_parse_17 : decode cX4_parse 17 = .ok (.iload_n 1, 1) := by decide +kernel
theorem dX4_parse_18 : decode cX4_parse 18 = .ok (.bipush 8, 2) := by decide +kernel
theorem dX4_parse_20 : decode cX4_parse 20 = .ok (.if_icmp .ge 59, 3) := by decide +kernel
theorem dX4_parse_23 : decode cX4_parse 23 = .ok (.iload_n 1, 1) := by decide +kernel
theorem dX4_parse_24 : decode cX4_parse 24 = .ok (.ifCond .le 9, 3) := by decide +kernel
theorem dX4_parse_27 : decode cX4_parse 27 = .ok (.aload_n 0, 1) := by decide +kernel
theorem dX4_parse_28 : decode cX4_parse 28 = .ok (.bipush 59, 2) := by decide +kernel
theorem dX4_parse_30 : decode cX4_parse 30 = .ok (.invokevirtual 42, 3) := by decide +kernel
theorem dX4_parse_33 : decode cX4_parse 33 = .ok (.aload_n 0, 1) := by decide +kernel
theorem dX4_parse_34 : decode cX4_parse 34 = .ok (.iload_n 1, 1) := by decide +kernel
theorem dX4_parse_35 : decode cX4_parse 35 = .ok (.invokevirtual 46, 3) := by decide +kernel
theorem dX4_parse_38 : decode cX4_parse 38 = .ok (.aload_n 0, 1) := by decide +kernel
theorem dX4_parse_39 : decode cX4_parse 39 = .ok (.getfield 22, 3) := by decide +kernel
theorem dX4_parse_42 : decode cX4_parse 42 = .ok (.ifCond .lt 8, 3) := by decide +kernel
theorem dX4_parse_45 : decode cX4_parse 45 = .ok (.aload_n 0, 1) := by decide +kernel
theorem dX4_parse_46 : decode cX4_parse 46 = .ok (.getfield 22, 3) := by decide +kernel
theorem dX4_parse_49 : decode cX4_parse 49 = .ok (.ireturn, 1) := by decide +kernel
theorem dX4_parse_50 : decode cX4_parse 50 = .ok (.aload_n 0, 1) := by decide +kernel
theorem dX4_parse_51 : decode cX4_parse 51 = .ok (.dup, 1) := by decide +kernel
theorem dX4_parse_52 : decode cX4_parse 52 = .ok (.getfield 25, 3) := by decide +kernel
theorem dX4_parse_55 : decode cX4_parse 55 = .ok (.iconst 1, 1) := by decide +kernel
theorem dX4_parse_56 : decode cX4_parse 56 = .ok (.iadd, 1) := by decide +kernel
theorem dX4_parse_57 : decode cX4_parse 57 = .ok (.putfield 25, 3) := by decide +kernel
theorem dX4_parse_60 : decode cX4_parse 60 = .ok (.aload_n 0, 1) := by decide +kernel
theorem dX4_parse_61 : decode cX4_parse 61 = .ok (.getfield 19, 3) := by decide +kernel
theorem dX4_parse_64 : decode cX4_parse 64 = .ok (.aload_n 0, 1) := by decide +kernel
theorem dX4_parse_65 : decode cX4_parse 65 = .ok (.getfield 15, 3) := by decide +kernel
theorem dX4_parse_68 : decode cX4_parse 68 = .ok (.if_icmp .lt 5, 3) := by decide +kernel
theorem dX4_parse_71 : decode cX4_parse 71 = .ok (.iconst (-1), 1) := by decide +kernel
theorem dX4_parse_72 : decode cX4_parse 72 = .ok (.ireturn, 1) := by decide +kernel
theorem dX4_parse_73 : decode cX4_parse 73 = .ok (.iinc 1 1, 3) := by decide +kernel
theorem dX4_parse_76 : decode cX4_parse 76 = .ok (.goto (-59), 3) := by decide +kernel
theorem dX4_parse_79 : decode cX4_parse 79 = .ok (.aload_n 0, 1) := by decide +kernel
theorem dX4_parse_80 : decode cX4_parse 80 = .ok (.getfield 19, 3) := by decide +kernel
theorem dX4_parse_83 : decode cX4_parse 83 = .ok (.ireturn, 1) := by decide +kernel
theorem dX4_readClause_0 : decode cX4_readClause 0 = .ok (.aload_n 0, 1) := by decide +kernel
theorem dX4_readClause_1 : decode cX4_readClause 1 = .ok (.getfield 28, 3) := by decide +kernel
theorem dX4_readClause_4 : decode cX4_readClause 4 = .ok (.iload_n 1, 1) := by decide +kernel
theorem dX4_readClause_5 : decode cX4_readClause 5 = .ok (.aload_n 0, 1) := by decide +kernel
theorem dX4_readClause_6 : decode cX4_readClause 6 = .ok (.bipush 31, 2) := by decide +kernel
theorem dX4_readClause_8 : decode cX4_readClause 8 = .ok (.invokevirtual 50, 3) := by decide +kernel
theorem dX4_readClause_11 : decode cX4_readClause 11 = .ok (.iastore, 1) := by decide +kernel
theorem dX4_readClause_12 : decode cX4_readClause 12 = .ok (.aload_n 0, 1) := by decide +kernel
theorem dX4_readClause_13 : decode cX4_readClause 13 = .ok (.bipush 44, 2) := by decide +kernel
theorem dX4_readClause_15 : decode cX4_readClause 15 = .ok (.invokevirtual 42, 3) := by decide +kernel
theorem dX4_readClause_18 : decode cX4_readClause 18 = .ok (.aload_n 0, 1) := by decide +kernel
theorem dX4_readClause_19 : decode cX4_readClause 19 = .ok (.getfield 32, 3) := by decide +kernel
theorem dX4_readClause_22 : decode cX4_readClause 22 = .ok (.iload_n 1, 1) := by decide +kernel
theorem dX4_readClause_23 : decode cX4_readClause 23 = .ok (.aload_n 0, 1) := by decide +kernel
theorem dX4_readClause_24 : decode cX4_readClause 24 = .ok (.bipush 31, 2) := by decide +kernel
theorem dX4_readClause_26 : decode cX4_readClause 26 = .ok (.invokevirtual 50, 3) := by decide +kernel
theorem dX4_readClause_29 : decode cX4_readClause 29 = .ok (.iastore, 1) := by decide +kernel
theorem dX4_readClause_30 : decode cX4_readClause 30 = .ok (.aload_n 0, 1) := by decide +kernel
theorem dX4_readClause_31 : decode cX4_readClause 31 = .ok (.getfield 35, 3) := by decide +kernel
theorem dX4_readClause_34 : decode cX4_readClause 34 = .ok (.iload_n 1, 1) := by decide +kernel
theorem dX4_readClause_35 : decode cX4_readClause 35 = .ok (.iconst (-1), 1) := by decide +kernel
theorem dX4_readClause_36 : decode cX4_readClause 36 = .ok (.iastore, 1) := by decide +kernel
theorem dX4_readClause_37 : decode cX4_readClause 37 = .ok (.aload_n 0, 1) := by decide +kernel
theorem dX4_readClause_38 : decode cX4_readClause 38 = .ok (.getfield 38, 3) := by decide +kernel
theorem dX4_readClause_41 : decode cX4_readClause 41 = .ok (.iload_n 1, 1) := by decide +kernel
theorem dX4_readClause_42 : decode cX4_readClause 42 = .ok (.iconst 0, 1) := by decide +kernel
theorem dX4_readClause_43 : decode cX4_readClause 43 = .ok (.bastore, 1) := by decide +kernel
theorem dX4_readClause_44 : decode cX4_readClause 44 = .ok (.aload_n 0, 1) := by decide +kernel
theorem dX4_readClause_45 : decode cX4_readClause 45 = .ok (.getfield 22, 3) := by decide +kernel
theorem dX4_readClause_48 : decode cX4_readClause 48 = .ok (.ifCond .ge 59, 3) := by decide +kernel
theorem dX4_readClause_51 : decode cX4_readClause 51 = .ok (.aload_n 0, 1) := by decide +kernel
theorem dX4_readClause_52 : decode cX4_readClause 52 = .ok (.bipush 61, 2) := by decide +kernel
theorem dX4_readClause_54 : decode cX4_readClause 54 = .ok (.invokevirtual 54, 3) := by decide +kernel
theorem dX4_readClause_57 : decode cX4_readClause 57 = .ok (.ifCond .eq 50, 3) := by decide +kernel
theorem dX4_readClause_60 : decode cX4_readClause 60 = .ok (.aload_n 0, 1) := by decide +kernel
theorem dX4_readClause_61 : decode cX4_readClause 61 = .ok (.bipush 61, 2) := by decide +kernel
theorem dX4_readClause_63 : decode cX4_readClause 63 = .ok (.invokevirtual 42, 3) := by decide +kernel
theorem dX4_readClause_66 : decode cX4_readClause 66 = .ok (.aload_n 0, 1) := by decide +kernel
theorem dX4_readClause_67 : decode cX4_readClause 67 = .ok (.getfield 35, 3) := by decide +kernel
theorem dX4_readClause_70 : decode cX4_readClause 70 = .ok (.iload_n 1, 1) := by decide +kernel
theorem dX4_readClause_71 : decode cX4_readClause 71 = .ok (.aload_n 0, 1) := by decide +kernel
theorem dX4_readClause_72 : decode cX4_readClause 72 = .ok (.bipush 19, 2) := by decide +kernel
theorem dX4_readClause_74 : decode cX4_readClause 74 = .ok (.invokevirtual 50, 3) := by decide +kernel
theorem dX4_readClause_77 : decode cX4_readClause 77 = .ok (.iastore, 1) := by decide +kernel
theorem dX4_readClause_78 : decode cX4_readClause 78 = .ok (.aload_n 0, 1) := by decide +kernel
theorem dX4_readClause_79 : decode cX4_readClause 79 = .ok (.getfield 22, 3) := by decide +kernel
theorem dX4_readClause_82 : decode cX4_readClause 82 = .ok (.ifCond .ge 25, 3) := by decide +kernel
theorem dX4_readClause_85 : decode cX4_readClause 85 = .ok (.aload_n 0, 1) := by decide +kernel
theorem dX4_readClause_86 : decode cX4_readClause 86 = .ok (.bipush 33, 2) := by decide +kernel
theorem dX4_readClause_88 : decode cX4_readClause 88 = .ok (.invokevirtual 54, 3) := by decide +kernel
theorem dX4_readClause_91 : decode cX4_readClause 91 = .ok (.ifCond .eq 16, 3) := by decide +kernel
theorem dX4_readClause_94 : decode cX4_readClause 94 = .ok (.aload_n 0, 1) := by decide +kernel
theorem dX4_readClause_95 : decode cX4_readClause 95 = .ok (.bipush 33, 2) := by decide +kernel
theorem dX4_readClause_97 : decode cX4_readClause 97 = .ok (.invokevirtual 42, 3) := by decide +kernel
theorem dX4_readClause_100 : decode cX4_readClause 100 = .ok (.aload_n 0, 1) := by decide +kernel
theorem dX4_readClause_101 : decode cX4_readClause 101 = .ok (.getfield 38, 3) := by decide +kernel
theorem dX4_readClause_104 : decode cX4_readClause 104 = .ok (.iload_n 1, 1) := by decide +kernel
theorem dX4_readClause_105 : decode cX4_readClause 105 = .ok (.iconst 1, 1) := by decide +kernel
theorem dX4_readClause_106 : decode cX4_readClause 106 = .ok (.bastore, 1) := by decide +kernel
theorem dX4_readClause_107 : decode cX4_readClause 107 = .ok (.return_, 1) := by decide +kernel
theorem dX4_isNext_0 : decode cX4_isNext 0 = .ok (.aload_n 0, 1) := by decide +kernel
theorem dX4_isNext_1 : decode cX4_isNext 1 = .ok (.getfield 19, 3) := by decide +kernel
theorem dX4_isNext_4 : decode cX4_isNext 4 = .ok (.aload_n 0, 1) := by decide +kernel
theorem dX4_isNext_5 : decode cX4_isNext 5 = .ok (.getfield 15, 3) := by decide +kernel
theorem dX4_isNext_8 : decode cX4_isNext 8 = .ok (.if_icmp .ge 20, 3) := by decide +kernel
theorem dX4_isNext_11 : decode cX4_isNext 11 = .ok (.aload_n 0, 1) := by decide +kernel
theorem dX4_isNext_12 : decode cX4_isNext 12 = .ok (.getfield 9, 3) := by decide +kernel
theorem dX4_isNext_15 : decode cX4_isNext 15 = .ok (.aload_n 0, 1) := by decide +kernel
theorem dX4_isNext_16 : decode cX4_isNext 16 = .ok (.getfield 19, 3) := by decide +kernel
theorem dX4_isNext_19 : decode cX4_isNext 19 = .ok (.baload, 1) := by decide +kernel
theorem dX4_isNext_20 : decode cX4_isNext 20 = .ok (.iload_n 1, 1) := by decide +kernel
theorem dX4_isNext_21 : decode cX4_isNext 21 = .ok (.if_icmp .ne 7, 3) := by decide +kernel
theorem dX4_isNext_24 : decode cX4_isNext 24 = .ok (.iconst 1, 1) := by decide +kernel
theorem dX4_isNext_25 : decode cX4_isNext 25 = .ok (.goto 4, 3) := by decide +kernel
theorem dX4_isNext_28 : decode cX4_isNext 28 = .ok (.iconst 0, 1) := by decide +kernel
theorem dX4_isNext_29 : decode cX4_isNext 29 = .ok (.ireturn, 1) := by decide +kernel
theorem dX4_expect_0 : decode cX4_expect 0 = .ok (.aload_n 0, 1) := by decide +kernel
theorem dX4_expect_1 : decode cX4_expect 1 = .ok (.getfield 22, 3) := by decide +kernel
theorem dX4_expect_4 : decode cX4_expect 4 = .ok (.ifCond .lt 4, 3) := by decide +kernel
theorem dX4_expect_7 : decode cX4_expect 7 = .ok (.return_, 1) := by decide +kernel
theorem dX4_expect_8 : decode cX4_expect 8 = .ok (.aload_n 0, 1) := by decide +kernel
theorem dX4_expect_9 : decode cX4_expect 9 = .ok (.iload_n 1, 1) := by decide +kernel
theorem dX4_expect_10 : decode cX4_expect 10 = .ok (.invokevirtual 54, 3) := by decide +kernel
theorem dX4_expect_13 : decode cX4_expect 13 = .ok (.ifCond .eq 16, 3) := by decide +kernel
theorem dX4_expect_16 : decode cX4_expect 16 = .ok (.aload_n 0, 1) := by decide +kernel
theorem dX4_expect_17 : decode cX4_expect 17 = .ok (.dup, 1) := by decide +kernel
theorem dX4_expect_18 : decode cX4_expect 18 = .ok (.getfield 19, 3) := by decide +kernel
theorem dX4_expect_21 : decode cX4_expect 21 = .ok (.iconst 1, 1) := by decide +kernel
theorem dX4_expect_22 : decode cX4_expect 22 = .ok (.iadd, 1) := by decide +kernel
theorem dX4_expect_23 : decode cX4_expect 23 = .ok (.putfield 19, 3) := by decide +kernel
theorem dX4_expect_26 : decode cX4_expect 26 = .ok (.goto 11, 3) := by decide +kernel
theorem dX4_expect_29 : decode cX4_expect 29 = .ok (.aload_n 0, 1) := by decide +kernel
theorem dX4_expect_30 : decode cX4_expect 30 = .ok (.aload_n 0, 1) := by decide +kernel
theorem dX4_expect_31 : decode cX4_expect 31 = .ok (.getfield 19, 3) := by decide +kernel
theorem dX4_expect_34 : decode cX4_expect 34 = .ok (.putfield 22, 3) := by decide +kernel
theorem dX4_expect_37 : decode cX4_expect 37 = .ok (.return_, 1) := by decide +kernel
theorem dX4_readNumber_0 : decode cX4_readNumber 0 = .ok (.aload_n 0, 1) := by decide +kernel
theorem dX4_readNumber_1 : decode cX4_readNumber 1 = .ok (.getfield 22, 3) := by decide +kernel
theorem dX4_readNumber_4 : decode cX4_readNumber 4 = .ok (.ifCond .lt 5, 3) := by decide +kernel
theorem dX4_readNumber_7 : decode cX4_readNumber 7 = .ok (.iconst 0, 1) := by decide +kernel
theorem dX4_readNumber_8 : decode cX4_readNumber 8 = .ok (.ireturn, 1) := by decide +kernel
theorem dX4_readNumber_9 : decode cX4_readNumber 9 = .ok (.aload_n 0, 1) := by decide +kernel
theorem dX4_readNumber_10 : decode cX4_readNumber 10 = .ok (.invokevirtual 58, 3) := by decide +kernel
theorem dX4_readNumber_13 : decode cX4_readNumber 13 = .ok (.istore_n 2, 1) := by decide +kernel
theorem dX4_readNumber_14 : decode cX4_readNumber 14 = .ok (.iload_n 2, 1) := by decide +kernel
theorem dX4_readNumber_15 : decode cX4_readNumber 15 = .ok (.ifCond .ge 13, 3) := by decide +kernel
theorem dX4_readNumber_18 : decode cX4_readNumber 18 = .ok (.aload_n 0, 1) := by decide +kernel
theorem dX4_readNumber_19 : decode cX4_readNumber 19 = .ok (.aload_n 0, 1) := by decide +kernel
theorem dX4_readNumber_20 : decode cX4_readNumber 20 = .ok (.getfield 19, 3) := by decide +kernel
theorem dX4_readNumber_23 : decode cX4_readNumber 23 = .ok (.putfield 22, 3) := by decide +kernel
theorem dX4_readNumber_26 : decode cX4_readNumber 26 = .ok (.iconst 0, 1) := by decide +kernel
theorem dX4_readNumber_27 : decode cX4_readNumber 27 = .ok (.ireturn, 1) := by decide +kernel
theorem dX4_readNumber_28 : decode cX4_readNumber 28 = .ok (.aload_n 0, 1) := by decide +kernel
theorem dX4_readNumber_29 : decode cX4_readNumber 29 = .ok (.dup, 1) := by decide +kernel
theorem dX4_readNumber_30 : decode cX4_readNumber 30 = .ok (.getfield 19, 3) := by decide +kernel
theorem dX4_readNumber_33 : decode cX4_readNumber 33 = .ok (.iconst 1, 1) := by decide +kernel
theorem dX4_readNumber_34 : decode cX4_readNumber 34 = .ok (.iadd, 1) := by decide +kernel
theorem dX4_readNumber_35 : decode cX4_readNumber 35 = .ok (.putfield 19, 3) := by decide +kernel
theorem dX4_readNumber_38 : decode cX4_readNumber 38 = .ok (.aload_n 0, 1) := by decide +kernel
theorem dX4_readNumber_39 : decode cX4_readNumber 39 = .ok (.invokevirtual 58, 3) := by decide +kernel
theorem dX4_readNumber_42 : decode cX4_readNumber 42 = .ok (.istore_n 3, 1) := by decide +kernel
theorem dX4_readNumber_43 : decode cX4_readNumber 43 = .ok (.iload_n 3, 1) := by decide +kernel
theorem dX4_readNumber_44 : decode cX4_readNumber 44 = .ok (.ifCond .ge 5, 3) := by decide +kernel
theorem dX4_readNumber_47 : decode cX4_readNumber 47 = .ok (.iload_n 2, 1) := by decide +kernel
theorem dX4_readNumber_48 : decode cX4_readNumber 48 = .ok (.ireturn, 1) := by decide +kernel
theorem dX4_readNumber_49 : decode cX4_readNumber 49 = .ok (.iload_n 2, 1) := by decide +kernel
theorem dX4_readNumber_50 : decode cX4_readNumber 50 = .ok (.bipush 10, 2) := by decide +kernel
theorem dX4_readNumber_52 : decode cX4_readNumber 52 = .ok (.imul, 1) := by decide +kernel
theorem dX4_readNumber_53 : decode cX4_readNumber 53 = .ok (.iload_n 3, 1) := by decide +kernel
theorem dX4_readNumber_54 : decode cX4_readNumber 54 = .ok (.iadd, 1) := by decide +kernel
theorem dX4_readNumber_55 : decode cX4_readNumber 55 = .ok (.istore 4, 2) := by decide +kernel
theorem dX4_readNumber_57 : decode cX4_readNumber 57 = .ok (.iload 4, 2) := by decide +kernel
theorem dX4_readNumber_59 : decode cX4_readNumber 59 = .ok (.iload_n 1, 1) := by decide +kernel
theorem dX4_readNumber_60 : decode cX4_readNumber 60 = .ok (.if_icmp .le 13, 3) := by decide +kernel
theorem dX4_readNumber_63 : decode cX4_readNumber 63 = .ok (.aload_n 0, 1) := by decide +kernel
theorem dX4_readNumber_64 : decode cX4_readNumber 64 = .ok (.aload_n 0, 1) := by decide +kernel
theorem dX4_readNumber_65 : decode cX4_readNumber 65 = .ok (.getfield 19, 3) := by decide +kernel
theorem dX4_readNumber_68 : decode cX4_readNumber 68 = .ok (.putfield 22, 3) := by decide +kernel
theorem dX4_readNumber_71 : decode cX4_readNumber 71 = .ok (.iconst 0, 1) := by decide +kernel
theorem dX4_readNumber_72 : decode cX4_readNumber 72 = .ok (.ireturn, 1) := by decide +kernel
theorem dX4_readNumber_73 : decode cX4_readNumber 73 = .ok (.aload_n 0, 1) := by decide +kernel
theorem dX4_readNumber_74 : decode cX4_readNumber 74 = .ok (.dup, 1) := by decide +kernel
theorem dX4_readNumber_75 : decode cX4_readNumber 75 = .ok (.getfield 19, 3) := by decide +kernel
theorem dX4_readNumber_78 : decode cX4_readNumber 78 = .ok (.iconst 1, 1) := by decide +kernel
theorem dX4_readNumber_79 : decode cX4_readNumber 79 = .ok (.iadd, 1) := by decide +kernel
theorem dX4_readNumber_80 : decode cX4_readNumber 80 = .ok (.putfield 19, 3) := by decide +kernel
theorem dX4_readNumber_83 : decode cX4_readNumber 83 = .ok (.iload 4, 2) := by decide +kernel
theorem dX4_readNumber_85 : decode cX4_readNumber 85 = .ok (.ireturn, 1) := by decide +kernel
theorem dX4_digit_0 : decode cX4_digit 0 = .ok (.aload_n 0, 1) := by decide +kernel
theorem dX4_digit_1 : decode cX4_digit 1 = .ok (.getfield 19, 3) := by decide +kernel
theorem dX4_digit_4 : decode cX4_digit 4 = .ok (.aload_n 0, 1) := by decide +kernel
theorem dX4_digit_5 : decode cX4_digit 5 = .ok (.getfield 15, 3) := by decide +kernel
theorem dX4_digit_8 : decode cX4_digit 8 = .ok (.if_icmp .ge 31, 3) := by decide +kernel
theorem dX4_digit_11 : decode cX4_digit 11 = .ok (.aload_n 0, 1) := by decide +kernel
theorem dX4_digit_12 : decode cX4_digit 12 = .ok (.getfield 9, 3) := by decide +kernel
theorem dX4_digit_15 : decode cX4_digit 15 = .ok (.aload_n 0, 1) := by decide +kernel
theorem dX4_digit_16 : decode cX4_digit 16 = .ok (.getfield 19, 3) := by decide +kernel
theorem dX4_digit_19 : decode cX4_digit 19 = .ok (.baload, 1) := by decide +kernel
theorem dX4_digit_20 : decode cX4_digit 20 = .ok (.bipush 48, 2) := by decide +kernel
theorem dX4_digit_22 : decode cX4_digit 22 = .ok (.if_icmp .lt 17, 3) := by decide +kernel
theorem dX4_digit_25 : decode cX4_digit 25 = .ok (.aload_n 0, 1) := by decide +kernel
theorem dX4_digit_26 : decode cX4_digit 26 = .ok (.getfield 9, 3) := by decide +kernel
theorem dX4_digit_29 : decode cX4_digit 29 = .ok (.aload_n 0, 1) := by decide +kernel
theorem dX4_digit_30 : decode cX4_digit 30 = .ok (.getfield 19, 3) := by decide +kernel
theorem dX4_digit_33 : decode cX4_digit 33 = .ok (.baload, 1) := by decide +kernel
theorem dX4_digit_34 : decode cX4_digit 34 = .ok (.bipush 57, 2) := by decide +kernel
theorem dX4_digit_36 : decode cX4_digit 36 = .ok (.if_icmp .le 5, 3) := by decide +kernel
theorem dX4_digit_39 : decode cX4_digit 39 = .ok (.iconst (-1), 1) := by decide +kernel
theorem dX4_digit_40 : decode cX4_digit 40 = .ok (.ireturn, 1) := by decide +kernel
theorem dX4_digit_41 : decode cX4_digit 41 = .ok (.aload_n 0, 1) := by decide +kernel
theorem dX4_digit_42 : decode cX4_digit 42 = .ok (.getfield 9, 3) := by decide +kernel
theorem dX4_digit_45 : decode cX4_digit 45 = .ok (.aload_n 0, 1) := by decide +kernel
theorem dX4_digit_46 : decode cX4_digit 46 = .ok (.getfield 19, 3) := by decide +kernel
theorem dX4_digit_49 : decode cX4_digit 49 = .ok (.baload, 1) := by decide +kernel
theorem dX4_digit_50 : decode cX4_digit 50 = .ok (.bipush 48, 2) := by decide +kernel
theorem dX4_digit_52 : decode cX4_digit 52 = .ok (.isub, 1) := by decide +kernel
theorem dX4_digit_53 : decode cX4_digit 53 = .ok (.ireturn, 1) := by decide +kernel
theorem dX5_init_0 : decode cX5_init 0 = .ok (.aload_n 0, 1) := by decide +kernel
theorem dX5_init_1 : decode cX5_init 1 = .ok (.invokespecial 3, 3) := by decide +kernel
theorem dX5_init_4 : decode cX5_init 4 = .ok (.aload_n 0, 1) := by decide +kernel
theorem dX5_init_5 : decode cX5_init 5 = .ok (.bipush 8, 2) := by decide +kernel
theorem dX5_init_7 : decode cX5_init 7 = .ok (.newarray .int, 2) := by decide +kernel
theorem dX5_init_9 : decode cX5_init 9 = .ok (.putfield 9, 3) := by decide +kernel
theorem dX5_init_12 : decode cX5_init 12 = .ok (.aload_n 0, 1) := by decide +kernel
theorem dX5_init_13 : decode cX5_init 13 = .ok (.bipush 72, 2) := by decide +kernel
theorem dX5_init_15 : decode cX5_init 15 = .ok (.newarray .int, 2) := by decide +kernel
theorem dX5_init_17 : decode cX5_init 17 = .ok (.putfield 15, 3) := by decide +kernel
theorem dX5_init_20 : decode cX5_init 20 = .ok (.return_, 1) := by decide +kernel
theorem dX5_largestClique_0 : decode cX5_largestClique 0 = .ok (.aload_n 0, 1) := by decide +kernel
theorem dX5_largestClique_1 : decode cX5_largestClique 1 = .ok (.aload_n 1, 1) := by decide +kernel
theorem dX5_largestClique_2 : decode cX5_largestClique 2 = .ok (.iload_n 2, 1) := by decide +kernel
theorem dX5_largestClique_3 : decode cX5_largestClique 3 = .ok (.invokevirtual 18, 3) := by decide +kernel
theorem dX5_largestClique_6 : decode cX5_largestClique 6 = .ok (.iconst 0, 1) := by decide +kernel
theorem dX5_largestClique_7 : decode cX5_largestClique 7 = .ok (.istore_n 3, 1) := by decide +kernel
theorem dX5_largestClique_8 : decode cX5_largestClique 8 = .ok (.iconst 0, 1) := by decide +kernel
theorem dX5_largestClique_9 : decode cX5_largestClique 9 = .ok (.istore 4, 2) := by decide +kernel
theorem dX5_largestClique_11 : decode cX5_largestClique 11 = .ok (.iconst 1, 1) := by decide +kernel
theorem dX5_largestClique_12 : decode cX5_largestClique 12 = .ok (.istore 5, 2) := by decide +kernel
theorem dX5_largestClique_14 : decode cX5_largestClique 14 = .ok (.iload 5, 2) := by decide +kernel
theorem dX5_largestClique_16 : decode cX5_largestClique 16 = .ok (.iconst 1, 1) := by decide +kernel
theorem dX5_largestClique_17 : decode cX5_largestClique 17 = .ok (.aload_n 1, 1) := by decide +kernel
theorem dX5_largestClique_18 : decode cX5_largestClique 18 = .ok (.invokevirtual 22, 3) := by decide +kernel
theorem dX5_largestClique_21 : decode cX5_largestClique 21 = .ok (.ishl, 1) := by decide +kernel
theorem dX5_largestClique_22 : decode cX5_largestClique 22 = .ok (.if_icmp .ge 43, 3) := by decide +kernel
theorem dX5_largestClique_25 : decode cX5_largestClique 25 = .ok (.iload 5, 2) := by decide +kernel
theorem dX5_largestClique_27 : decode cX5_largestClique 27 = .ok (.invokestatic 28, 3) := by decide +kernel
theorem dX5_largestClique_30 : decode cX5_largestClique 30 = .ok (.istore 6, 2) := by decide +kernel
end
section
theorem dX5_largestClique_32 : decode cX5_largestClique 32 = .ok (.iload 6, 2) := by decide +kernel
theorem dX5_largestClique_34 : decode cX5_largestClique 34 = .ok (.iload 4, 2) := by decide +kernel
theorem dX5_largestClique_36 : decode cX5_largestClique 36 = .ok (.if_icmp .le 23, 3) := by decide +kernel
theorem dX5_largestClique_39 : decode cX5_largestClique 39 = .ok (.aload_n 0, 1) := by decide +kernel
theorem dX5_largestClique_40 : decode cX5_largestClique 40 = .ok (.iload 5, 2) := by decide +kernel
theorem dX5_largestClique_42 : decode cX5_largestClique 42 = .ok (.aload_n 1, 1) := by decide +kernel
theorem dX5_largestClique_43 : decode cX5_largestClique 43 = .ok (.invokevirtual 22, 3) := by decide +kernel
theorem dX5_largestClique_46 : decode cX5_largestClique 46 = .ok (.invokevirtual 34, 3) := by decide +kernel
theorem dX5_largestClique_49 : decode cX5_largestClique 49 = .ok (.ifCond .eq 10, 3) := by decide +kernel
theorem dX5_largestClique_52 : decode cX5_largestClique 52 = .ok (.iload 5, 2) := by decide +kernel
theorem dX5_largestClique_54 : decode cX5_largestClique 54 = .ok (.istore_n 3, 1) := by decide +kernel
theorem dX5_largestClique_55 : decode cX5_largestClique 55 = .ok (.iload 6, 2) := by decide +kernel
theorem dX5_largestClique_57 : decode cX5_largestClique 57 = .ok (.istore 4, 2) := by decide +kernel
theorem dX5_largestClique_59 : decode cX5_largestClique 59 = .ok (.iinc 5 1, 3) := by decide +kernel
theorem dX5_largestClique_62 : decode cX5_largestClique 62 = .ok (.goto (-48), 3) := by decide +kernel
theorem dX5_largestClique_65 : decode cX5_largestClique 65 = .ok (.iload_n 3, 1) := by decide +kernel
theorem dX5_largestClique_66 : decode cX5_largestClique 66 = .ok (.ireturn, 1) := by decide +kernel
theorem dX5_befriend_0 : decode cX5_befriend 0 = .ok (.iconst 0, 1) := by decide +kernel
theorem dX5_befriend_1 : decode cX5_befriend 1 = .ok (.istore_n 3, 1) := by decide +kernel
theorem dX5_befriend_2 : decode cX5_befriend 2 = .ok (.iload_n 3, 1) := by decide +kernel
theorem dX5_befriend_3 : decode cX5_befriend 3 = .ok (.aload_n 1, 1) := by decide +kernel
theorem dX5_befriend_4 : decode cX5_befriend 4 = .ok (.invokevirtual 22, 3) := by decide +kernel
theorem dX5_befriend_7 : decode cX5_befriend 7 = .ok (.if_icmp .ge 64, 3) := by decide +kernel
theorem dX5_befriend_10 : decode cX5_befriend 10 = .ok (.aload_n 0, 1) := by decide +kernel
theorem dX5_befriend_11 : decode cX5_befriend 11 = .ok (.getfield 9, 3) := by decide +kernel
theorem dX5_befriend_14 : decode cX5_befriend 14 = .ok (.iload_n 3, 1) := by decide +kernel
theorem dX5_befriend_15 : decode cX5_befriend 15 = .ok (.iconst 1, 1) := by decide +kernel
theorem dX5_befriend_16 : decode cX5_befriend 16 = .ok (.iload_n 3, 1) := by decide +kernel
theorem dX5_befriend_17 : decode cX5_befriend 17 = .ok (.ishl, 1) := by decide +kernel
theorem dX5_befriend_18 : decode cX5_befriend 18 = .ok (.iastore, 1) := by decide +kernel
theorem dX5_befriend_19 : decode cX5_befriend 19 = .ok (.iconst 0, 1) := by decide +kernel
theorem dX5_befriend_20 : decode cX5_befriend 20 = .ok (.istore 4, 2) := by decide +kernel
theorem dX5_befriend_22 : decode cX5_befriend 22 = .ok (.iload 4, 2) := by decide +kernel
theorem dX5_befriend_24 : decode cX5_befriend 24 = .ok (.aload_n 1, 1) := by decide +kernel
theorem dX5_befriend_25 : decode cX5_befriend 25 = .ok (.invokevirtual 22, 3) := by decide +kernel
theorem dX5_befriend_28 : decode cX5_befriend 28 = .ok (.if_icmp .ge 37, 3) := by decide +kernel
theorem dX5_befriend_31 : decode cX5_befriend 31 = .ok (.aload_n 0, 1) := by decide +kernel
theorem dX5_befriend_32 : decode cX5_befriend 32 = .ok (.getfield 9, 3) := by decide +kernel
theorem dX5_befriend_35 : decode cX5_befriend 35 = .ok (.iload_n 3, 1) := by decide +kernel
theorem dX5_befriend_36 : decode cX5_befriend 36 = .ok (.dup2, 1) := by decide +kernel
theorem dX5_befriend_37 : decode cX5_befriend 37 = .ok (.iaload, 1) := by decide +kernel
theorem dX5_befriend_38 : decode cX5_befriend 38 = .ok (.aload_n 1, 1) := by decide +kernel
theorem dX5_befriend_39 : decode cX5_befriend 39 = .ok (.iload_n 3, 1) := by decide +kernel
theorem dX5_befriend_40 : decode cX5_befriend 40 = .ok (.iload 4, 2) := by decide +kernel
theorem dX5_befriend_42 : decode cX5_befriend 42 = .ok (.invokevirtual 38, 3) := by decide +kernel
theorem dX5_befriend_45 : decode cX5_befriend 45 = .ok (.iload_n 2, 1) := by decide +kernel
theorem dX5_befriend_46 : decode cX5_befriend 46 = .ok (.if_icmp .lt 10, 3) := by decide +kernel
theorem dX5_befriend_49 : decode cX5_befriend 49 = .ok (.iconst 1, 1) := by decide +kernel
theorem dX5_befriend_50 : decode cX5_befriend 50 = .ok (.iload 4, 2) := by decide +kernel
theorem dX5_befriend_52 : decode cX5_befriend 52 = .ok (.ishl, 1) := by decide +kernel
theorem dX5_befriend_53 : decode cX5_befriend 53 = .ok (.goto 4, 3) := by decide +kernel
theorem dX5_befriend_56 : decode cX5_befriend 56 = .ok (.iconst 0, 1) := by decide +kernel
theorem dX5_befriend_57 : decode cX5_befriend 57 = .ok (.ior, 1) := by decide +kernel
theorem dX5_befriend_58 : decode cX5_befriend 58 = .ok (.iastore, 1) := by decide +kernel
theorem dX5_befriend_59 : decode cX5_befriend 59 = .ok (.iinc 4 1, 3) := by decide +kernel
theorem dX5_befriend_62 : decode cX5_befriend 62 = .ok (.goto (-40), 3) := by decide +kernel
theorem dX5_befriend_65 : decode cX5_befriend 65 = .ok (.iinc 3 1, 3) := by decide +kernel
theorem dX5_befriend_68 : decode cX5_befriend 68 = .ok (.goto (-66), 3) := by decide +kernel
theorem dX5_befriend_71 : decode cX5_befriend 71 = .ok (.return_, 1) := by decide +kernel
theorem dX5_areFriends_0 : decode cX5_areFriends 0 = .ok (.iconst 0, 1) := by decide +kernel
theorem dX5_areFriends_1 : decode cX5_areFriends 1 = .ok (.istore_n 3, 1) := by decide +kernel
theorem dX5_areFriends_2 : decode cX5_areFriends 2 = .ok (.iload_n 3, 1) := by decide +kernel
theorem dX5_areFriends_3 : decode cX5_areFriends 3 = .ok (.iload_n 2, 1) := by decide +kernel
theorem dX5_areFriends_4 : decode cX5_areFriends 4 = .ok (.if_icmp .ge 33, 3) := by decide +kernel
theorem dX5_areFriends_7 : decode cX5_areFriends 7 = .ok (.iload_n 1, 1) := by decide +kernel
theorem dX5_areFriends_8 : decode cX5_areFriends 8 = .ok (.iload_n 3, 1) := by decide +kernel
theorem dX5_areFriends_9 : decode cX5_areFriends 9 = .ok (.ishr, 1) := by decide +kernel
theorem dX5_areFriends_10 : decode cX5_areFriends 10 = .ok (.iconst 1, 1) := by decide +kernel
theorem dX5_areFriends_11 : decode cX5_areFriends 11 = .ok (.iand, 1) := by decide +kernel
theorem dX5_areFriends_12 : decode cX5_areFriends 12 = .ok (.iconst 1, 1) := by decide +kernel
theorem dX5_areFriends_13 : decode cX5_areFriends 13 = .ok (.if_icmp .ne 18, 3) := by decide +kernel
theorem dX5_areFriends_16 : decode cX5_areFriends 16 = .ok (.iload_n 1, 1) := by decide +kernel
theorem dX5_areFriends_17 : decode cX5_areFriends 17 = .ok (.aload_n 0, 1) := by decide +kernel
theorem dX5_areFriends_18 : decode cX5_areFriends 18 = .ok (.getfield 9, 3) := by decide +kernel
theorem dX5_areFriends_21 : decode cX5_areFriends 21 = .ok (.iload_n 3, 1) := by decide +kernel
theorem dX5_areFriends_22 : decode cX5_areFriends 22 = .ok (.iaload, 1) := by decide +kernel
theorem dX5_areFriends_23 : decode cX5_areFriends 23 = .ok (.iconst (-1), 1) := by decide +kernel
theorem dX5_areFriends_24 : decode cX5_areFriends 24 = .ok (.ixor, 1) := by decide +kernel
theorem dX5_areFriends_25 : decode cX5_areFriends 25 = .ok (.iand, 1) := by decide +kernel
theorem dX5_areFriends_26 : decode cX5_areFriends 26 = .ok (.ifCond .eq 5, 3) := by decide +kernel
theorem dX5_areFriends_29 : decode cX5_areFriends 29 = .ok (.iconst 0, 1) := by decide +kernel
theorem dX5_areFriends_30 : decode cX5_areFriends 30 = .ok (.ireturn, 1) := by decide +kernel
theorem dX5_areFriends_31 : decode cX5_areFriends 31 = .ok (.iinc 3 1, 3) := by decide +kernel
theorem dX5_areFriends_34 : decode cX5_areFriends 34 = .ok (.goto (-32), 3) := by decide +kernel
theorem dX5_areFriends_37 : decode cX5_areFriends 37 = .ok (.iconst 1, 1) := by decide +kernel
theorem dX5_areFriends_38 : decode cX5_areFriends 38 = .ok (.ireturn, 1) := by decide +kernel
theorem dX5_bound_0 : decode cX5_bound 0 = .ok (.aload_n 1, 1) := by decide +kernel
theorem dX5_bound_1 : decode cX5_bound 1 = .ok (.invokevirtual 22, 3) := by decide +kernel
theorem dX5_bound_4 : decode cX5_bound 4 = .ok (.ifCond .ne 5, 3) := by decide +kernel
theorem dX5_bound_7 : decode cX5_bound 7 = .ok (.iconst 0, 1) := by decide +kernel
theorem dX5_bound_8 : decode cX5_bound 8 = .ok (.ireturn, 1) := by decide +kernel
theorem dX5_bound_9 : decode cX5_bound 9 = .ok (.iconst 0, 1) := by decide +kernel
theorem dX5_bound_10 : decode cX5_bound 10 = .ok (.istore_n 2, 1) := by decide +kernel
theorem dX5_bound_11 : decode cX5_bound 11 = .ok (.iconst 1, 1) := by decide +kernel
theorem dX5_bound_12 : decode cX5_bound 12 = .ok (.istore_n 3, 1) := by decide +kernel
theorem dX5_bound_13 : decode cX5_bound 13 = .ok (.iload_n 3, 1) := by decide +kernel
theorem dX5_bound_14 : decode cX5_bound 14 = .ok (.iconst 4, 1) := by decide +kernel
theorem dX5_bound_15 : decode cX5_bound 15 = .ok (.if_icmp .gt 33, 3) := by decide +kernel
theorem dX5_bound_18 : decode cX5_bound 18 = .ok (.aload_n 0, 1) := by decide +kernel
theorem dX5_bound_19 : decode cX5_bound 19 = .ok (.aload_n 1, 1) := by decide +kernel
theorem dX5_bound_20 : decode cX5_bound 20 = .ok (.iload_n 3, 1) := by decide +kernel
theorem dX5_bound_21 : decode cX5_bound 21 = .ok (.invokevirtual 42, 3) := by decide +kernel
theorem dX5_bound_24 : decode cX5_bound 24 = .ok (.invokestatic 28, 3) := by decide +kernel
theorem dX5_bound_27 : decode cX5_bound 27 = .ok (.istore 4, 2) := by decide +kernel
theorem dX5_bound_29 : decode cX5_bound 29 = .ok (.iload_n 2, 1) := by decide +kernel
theorem dX5_bound_30 : decode cX5_bound 30 = .ok (.iload 4, 2) := by decide +kernel
theorem dX5_bound_32 : decode cX5_bound 32 = .ok (.iconst 1, 1) := by decide +kernel
theorem dX5_bound_33 : decode cX5_bound 33 = .ok (.isub, 1) := by decide +kernel
theorem dX5_bound_34 : decode cX5_bound 34 = .ok (.iload_n 3, 1) := by decide +kernel
theorem dX5_bound_35 : decode cX5_bound 35 = .ok (.imul, 1) := by decide +kernel
theorem dX5_bound_36 : decode cX5_bound 36 = .ok (.iconst 1, 1) := by decide +kernel
theorem dX5_bound_37 : decode cX5_bound 37 = .ok (.iadd, 1) := by decide +kernel
theorem dX5_bound_38 : decode cX5_bound 38 = .ok (.invokestatic 46, 3) := by decide +kernel
theorem dX5_bound_41 : decode cX5_bound 41 = .ok (.istore_n 2, 1) := by decide +kernel
theorem dX5_bound_42 : decode cX5_bound 42 = .ok (.iinc 3 1, 3) := by decide +kernel
theorem dX5_bound_45 : decode cX5_bound 45 = .ok (.goto (-32), 3) := by decide +kernel
theorem dX5_bound_48 : decode cX5_bound 48 = .ok (.iload_n 2, 1) := by decide +kernel
theorem dX5_bound_49 : decode cX5_bound 49 = .ok (.ireturn, 1) := by decide +kernel
theorem dX5_leastWidth_0 : decode cX5_leastWidth 0 = .ok (.aload_n 1, 1) := by decide +kernel
theorem dX5_leastWidth_1 : decode cX5_leastWidth 1 = .ok (.invokevirtual 22, 3) := by decide +kernel
theorem dX5_leastWidth_4 : decode cX5_leastWidth 4 = .ok (.ifCond .ne 5, 3) := by decide +kernel
theorem dX5_leastWidth_7 : decode cX5_leastWidth 7 = .ok (.iconst 0, 1) := by decide +kernel
theorem dX5_leastWidth_8 : decode cX5_leastWidth 8 = .ok (.ireturn, 1) := by decide +kernel
theorem dX5_leastWidth_9 : decode cX5_leastWidth 9 = .ok (.aload_n 0, 1) := by decide +kernel
theorem dX5_leastWidth_10 : decode cX5_leastWidth 10 = .ok (.aload_n 1, 1) := by decide +kernel
theorem dX5_leastWidth_11 : decode cX5_leastWidth 11 = .ok (.invokevirtual 51, 3) := by decide +kernel
theorem dX5_leastWidth_14 : decode cX5_leastWidth 14 = .ok (.istore_n 2, 1) := by decide +kernel
theorem dX5_leastWidth_15 : decode cX5_leastWidth 15 = .ok (.iload_n 2, 1) := by decide +kernel
theorem dX5_leastWidth_16 : decode cX5_leastWidth 16 = .ok (.bipush 12, 2) := by decide +kernel
theorem dX5_leastWidth_18 : decode cX5_leastWidth 18 = .ok (.if_icmp .gt 20, 3) := by decide +kernel
theorem dX5_leastWidth_21 : decode cX5_leastWidth 21 = .ok (.aload_n 0, 1) := by decide +kernel
theorem dX5_leastWidth_22 : decode cX5_leastWidth 22 = .ok (.aload_n 1, 1) := by decide +kernel
theorem dX5_leastWidth_23 : decode cX5_leastWidth 23 = .ok (.iload_n 2, 1) := by decide +kernel
theorem dX5_leastWidth_24 : decode cX5_leastWidth 24 = .ok (.invokevirtual 55, 3) := by decide +kernel
theorem dX5_leastWidth_27 : decode cX5_leastWidth 27 = .ok (.ifCond .eq 5, 3) := by decide +kernel
theorem dX5_leastWidth_30 : decode cX5_leastWidth 30 = .ok (.iload_n 2, 1) := by decide +kernel
theorem dX5_leastWidth_31 : decode cX5_leastWidth 31 = .ok (.ireturn, 1) := by decide +kernel
theorem dX5_leastWidth_32 : decode cX5_leastWidth 32 = .ok (.iinc 2 1, 3) := by decide +kernel
theorem dX5_leastWidth_35 : decode cX5_leastWidth 35 = .ok (.goto (-20), 3) := by decide +kernel
theorem dX5_leastWidth_38 : decode cX5_leastWidth 38 = .ok (.bipush (-5), 2) := by decide +kernel
theorem dX5_leastWidth_40 : decode cX5_leastWidth 40 = .ok (.ireturn, 1) := by decide +kernel
theorem dX5_isWideEnough_0 : decode cX5_isWideEnough 0 = .ok (.iconst 1, 1) := by decide +kernel
theorem dX5_isWideEnough_1 : decode cX5_isWideEnough 1 = .ok (.iload_n 2, 1) := by decide +kernel
theorem dX5_isWideEnough_2 : decode cX5_isWideEnough 2 = .ok (.ishl, 1) := by decide +kernel
theorem dX5_isWideEnough_3 : decode cX5_isWideEnough 3 = .ok (.iconst 1, 1) := by decide +kernel
theorem dX5_isWideEnough_4 : decode cX5_isWideEnough 4 = .ok (.isub, 1) := by decide +kernel
theorem dX5_isWideEnough_5 : decode cX5_isWideEnough 5 = .ok (.istore_n 3, 1) := by decide +kernel
theorem dX5_isWideEnough_6 : decode cX5_isWideEnough 6 = .ok (.iconst 0, 1) := by decide +kernel
theorem dX5_isWideEnough_7 : decode cX5_isWideEnough 7 = .ok (.istore 4, 2) := by decide +kernel
theorem dX5_isWideEnough_9 : decode cX5_isWideEnough 9 = .ok (.iload 4, 2) := by decide +kernel
theorem dX5_isWideEnough_11 : decode cX5_isWideEnough 11 = .ok (.aload_n 1, 1) := by decide +kernel
theorem dX5_isWideEnough_12 : decode cX5_isWideEnough 12 = .ok (.invokevirtual 22, 3) := by decide +kernel
theorem dX5_isWideEnough_15 : decode cX5_isWideEnough 15 = .ok (.if_icmp .ge 52, 3) := by decide +kernel
theorem dX5_isWideEnough_18 : decode cX5_isWideEnough 18 = .ok (.aload_n 1, 1) := by decide +kernel
theorem dX5_isWideEnough_19 : decode cX5_isWideEnough 19 = .ok (.iload 4, 2) := by decide +kernel
theorem dX5_isWideEnough_21 : decode cX5_isWideEnough 21 = .ok (.invokevirtual 59, 3) := by decide +kernel
theorem dX5_isWideEnough_24 : decode cX5_isWideEnough 24 = .ok (.ifCond .eq 18, 3) := by decide +kernel
theorem dX5_isWideEnough_27 : decode cX5_isWideEnough 27 = .ok (.iload_n 3, 1) := by decide +kernel
theorem dX5_isWideEnough_28 : decode cX5_isWideEnough 28 = .ok (.aload_n 1, 1) := by decide +kernel
theorem dX5_isWideEnough_29 : decode cX5_isWideEnough 29 = .ok (.iload 4, 2) := by decide +kernel
theorem dX5_isWideEnough_31 : decode cX5_isWideEnough 31 = .ok (.invokevirtual 63, 3) := by decide +kernel
theorem dX5_isWideEnough_34 : decode cX5_isWideEnough 34 = .ok (.iconst 1, 1) := by decide +kernel
theorem dX5_isWideEnough_35 : decode cX5_isWideEnough 35 = .ok (.invokestatic 66, 3) := by decide +kernel
theorem dX5_isWideEnough_38 : decode cX5_isWideEnough 38 = .ok (.iand, 1) := by decide +kernel
theorem dX5_isWideEnough_39 : decode cX5_isWideEnough 39 = .ok (.goto 4, 3) := by decide +kernel
theorem dX5_isWideEnough_42 : decode cX5_isWideEnough 42 = .ok (.iload_n 3, 1) := by decide +kernel
theorem dX5_isWideEnough_43 : decode cX5_isWideEnough 43 = .ok (.istore 5, 2) := by decide +kernel
theorem dX5_isWideEnough_45 : decode cX5_isWideEnough 45 = .ok (.iload 5, 2) := by decide +kernel
theorem dX5_isWideEnough_47 : decode cX5_isWideEnough 47 = .ok (.ifCond .ne 5, 3) := by decide +kernel
theorem dX5_isWideEnough_50 : decode cX5_isWideEnough 50 = .ok (.iconst 0, 1) := by decide +kernel
theorem dX5_isWideEnough_51 : decode cX5_isWideEnough 51 = .ok (.ireturn, 1) := by decide +kernel
theorem dX5_isWideEnough_52 : decode cX5_isWideEnough 52 = .ok (.aload_n 0, 1) := by decide +kernel
theorem dX5_isWideEnough_53 : decode cX5_isWideEnough 53 = .ok (.iconst 0, 1) := by decide +kernel
theorem dX5_isWideEnough_54 : decode cX5_isWideEnough 54 = .ok (.iload 4, 2) := by decide +kernel
theorem dX5_isWideEnough_56 : decode cX5_isWideEnough 56 = .ok (.iload 5, 2) := by decide +kernel
theorem dX5_isWideEnough_58 : decode cX5_isWideEnough 58 = .ok (.invokevirtual 69, 3) := by decide +kernel
theorem dX5_isWideEnough_61 : decode cX5_isWideEnough 61 = .ok (.iinc 4 1, 3) := by decide +kernel
theorem dX5_isWideEnough_64 : decode cX5_isWideEnough 64 = .ok (.goto (-55), 3) := by decide +kernel
theorem dX5_isWideEnough_67 : decode cX5_isWideEnough 67 = .ok (.aload_n 0, 1) := by decide +kernel
theorem dX5_isWideEnough_68 : decode cX5_isWideEnough 68 = .ok (.aload_n 1, 1) := by decide +kernel
theorem dX5_isWideEnough_69 : decode cX5_isWideEnough 69 = .ok (.iconst 1, 1) := by decide +kernel
theorem dX5_isWideEnough_70 : decode cX5_isWideEnough 70 = .ok (.aload_n 1, 1) := by decide +kernel
theorem dX5_isWideEnough_71 : decode cX5_isWideEnough 71 = .ok (.invokevirtual 22, 3) := by decide +kernel
theorem dX5_isWideEnough_74 : decode cX5_isWideEnough 74 = .ok (.ishl, 1) := by decide +kernel
theorem dX5_isWideEnough_75 : decode cX5_isWideEnough 75 = .ok (.iconst 1, 1) := by decide +kernel
theorem dX5_isWideEnough_76 : decode cX5_isWideEnough 76 = .ok (.isub, 1) := by decide +kernel
theorem dX5_isWideEnough_77 : decode cX5_isWideEnough 77 = .ok (.iconst 0, 1) := by decide +kernel
theorem dX5_isWideEnough_78 : decode cX5_isWideEnough 78 = .ok (.invokestatic 73, 3) := by decide +kernel
theorem dX5_isWideEnough_81 : decode cX5_isWideEnough 81 = .ok (.ireturn, 1) := by decide +kernel
theorem dX5_areSeated_0 : decode cX5_areSeated 0 = .ok (.iload_n 2, 1) := by decide +kernel
theorem dX5_areSeated_1 : decode cX5_areSeated 1 = .ok (.ifCond .ne 5, 3) := by decide +kernel
theorem dX5_areSeated_4 : decode cX5_areSeated 4 = .ok (.iconst 1, 1) := by decide +kernel
theorem dX5_areSeated_5 : decode cX5_areSeated 5 = .ok (.ireturn, 1) := by decide +kernel
theorem dX5_areSeated_6 : decode cX5_areSeated 6 = .ok (.iload_n 3, 1) := by decide +kernel
theorem dX5_areSeated_7 : decode cX5_areSeated 7 = .ok (.bipush 8, 2) := by decide +kernel
theorem dX5_areSeated_9 : decode cX5_areSeated 9 = .ok (.if_icmp .ge 13, 3) := by decide +kernel
theorem dX5_areSeated_12 : decode cX5_areSeated 12 = .ok (.aload_n 0, 1) := by decide +kernel
theorem dX5_areSeated_13 : decode cX5_areSeated 13 = .ok (.aload_n 1, 1) := by decide +kernel
theorem dX5_areSeated_14 : decode cX5_areSeated 14 = .ok (.iload_n 2, 1) := by decide +kernel
theorem dX5_areSeated_15 : decode cX5_areSeated 15 = .ok (.iload_n 3, 1) := by decide +kernel
theorem dX5_areSeated_16 : decode cX5_areSeated 16 = .ok (.invokevirtual 77, 3) := by decide +kernel
theorem dX5_areSeated_19 : decode cX5_areSeated 19 = .ok (.goto 4, 3) := by decide +kernel
theorem dX5_areSeated_22 : decode cX5_areSeated 22 = .ok (.iconst (-1), 1) := by decide +kernel
theorem dX5_areSeated_23 : decode cX5_areSeated 23 = .ok (.istore 4, 2) := by decide +kernel
theorem dX5_areSeated_25 : decode cX5_areSeated 25 = .ok (.iload 4, 2) := by decide +kernel
theorem dX5_areSeated_27 : decode cX5_areSeated 27 = .ok (.ifCond .ge 5, 3) := by decide +kernel
theorem dX5_areSeated_30 : decode cX5_areSeated 30 = .ok (.iconst 0, 1) := by decide +kernel
theorem dX5_areSeated_31 : decode cX5_areSeated 31 = .ok (.ireturn, 1) := by decide +kernel
theorem dX5_areSeated_32 : decode cX5_areSeated 32 = .ok (.iload_n 2, 1) := by decide +kernel
theorem dX5_areSeated_33 : decode cX5_areSeated 33 = .ok (.iconst 1, 1) := by decide +kernel
theorem dX5_areSeated_34 : decode cX5_areSeated 34 = .ok (.iload 4, 2) := by decide +kernel
theorem dX5_areSeated_36 : decode cX5_areSeated 36 = .ok (.ishl, 1) := by decide +kernel
theorem dX5_areSeated_37 : decode cX5_areSeated 37 = .ok (.iconst (-1), 1) := by decide +kernel
theorem dX5_areSeated_38 : decode cX5_areSeated 38 = .ok (.ixor, 1) := by decide +kernel
theorem dX5_areSeated_39 : decode cX5_areSeated 39 = .ok (.iand, 1) := by decide +kernel
theorem dX5_areSeated_40 : decode cX5_areSeated 40 = .ok (.istore 5, 2) := by decide +kernel
theorem dX5_areSeated_42 : decode cX5_areSeated 42 = .ok (.aload_n 0, 1) := by decide +kernel
theorem dX5_areSeated_43 : decode cX5_areSeated 43 = .ok (.iload_n 3, 1) := by decide +kernel
theorem dX5_areSeated_44 : decode cX5_areSeated 44 = .ok (.iload 4, 2) := by decide +kernel
theorem dX5_areSeated_46 : decode cX5_areSeated 46 = .ok (.invokevirtual 81, 3) := by decide +kernel
theorem dX5_areSeated_49 : decode cX5_areSeated 49 = .ok (.istore 6, 2) := by decide +kernel
theorem dX5_areSeated_51 : decode cX5_areSeated 51 = .ok (.iload_n 3, 1) := by decide +kernel
theorem dX5_areSeated_52 : decode cX5_areSeated 52 = .ok (.ifCond .ne 17, 3) := by decide +kernel
theorem dX5_areSeated_55 : decode cX5_areSeated 55 = .ok (.aload_n 1, 1) := by decide +kernel
theorem dX5_areSeated_56 : decode cX5_areSeated 56 = .ok (.invokevirtual 84, 3) := by decide +kernel
theorem dX5_areSeated_59 : decode cX5_areSeated 59 = .ok (.ifCond .ne 10, 3) := by decide +kernel
theorem dX5_areSeated_62 : decode cX5_areSeated 62 = .ok (.iload 6, 2) := by decide +kernel
theorem dX5_areSeated_64 : decode cX5_areSeated 64 = .ok (.invokestatic 87, 3) := by decide +kernel
theorem dX5_areSeated_67 : decode cX5_areSeated 67 = .ok (.istore 6, 2) := by decide +kernel
theorem dX5_areSeated_69 : decode cX5_areSeated 69 = .ok (.iconst 0, 1) := by decide +kernel
theorem dX5_areSeated_70 : decode cX5_areSeated 70 = .ok (.istore 7, 2) := by decide +kernel
theorem dX5_areSeated_72 : decode cX5_areSeated 72 = .ok (.iload 7, 2) := by decide +kernel
theorem dX5_areSeated_74 : decode cX5_areSeated 74 = .ok (.bipush 12, 2) := by decide +kernel
theorem dX5_areSeated_76 : decode cX5_areSeated 76 = .ok (.if_icmp .ge 50, 3) := by decide +kernel
theorem dX5_areSeated_79 : decode cX5_areSeated 79 = .ok (.iload 6, 2) := by decide +kernel
theorem dX5_areSeated_81 : decode cX5_areSeated 81 = .ok (.iload 7, 2) := by decide +kernel
theorem dX5_areSeated_83 : decode cX5_areSeated 83 = .ok (.ishr, 1) := by decide +kernel
theorem dX5_areSeated_84 : decode cX5_areSeated 84 = .ok (.iconst 1, 1) := by decide +kernel
theorem dX5_areSeated_85 : decode cX5_areSeated 85 = .ok (.iand, 1) := by decide +kernel
theorem dX5_areSeated_86 : decode cX5_areSeated 86 = .ok (.iconst 1, 1) := by decide +kernel
theorem dX5_areSeated_87 : decode cX5_areSeated 87 = .ok (.if_icmp .ne 33, 3) := by decide +kernel
theorem dX5_areSeated_90 : decode cX5_areSeated 90 = .ok (.aload_n 0, 1) := by decide +kernel
theorem dX5_areSeated_91 : decode cX5_areSeated 91 = .ok (.aload_n 1, 1) := by decide +kernel
theorem dX5_areSeated_92 : decode cX5_areSeated 92 = .ok (.iload 5, 2) := by decide +kernel
theorem dX5_areSeated_94 : decode cX5_areSeated 94 = .ok (.iload_n 3, 1) := by decide +kernel
theorem dX5_areSeated_95 : decode cX5_areSeated 95 = .ok (.iload 4, 2) := by decide +kernel
theorem dX5_areSeated_97 : decode cX5_areSeated 97 = .ok (.iload 7, 2) := by decide +kernel
theorem dX5_areSeated_99 : decode cX5_areSeated 99 = .ok (.invokevirtual 90, 3) := by decide +kernel
theorem dX5_areSeated_102 : decode cX5_areSeated 102 = .ok (.ifCond .eq 18, 3) := by decide +kernel
theorem dX5_areSeated_105 : decode cX5_areSeated 105 = .ok (.aload_n 0, 1) := by decide +kernel
theorem dX5_areSeated_106 : decode cX5_areSeated 106 = .ok (.aload_n 1, 1) := by decide +kernel
theorem dX5_areSeated_107 : decode cX5_areSeated 107 = .ok (.iload 5, 2) := by decide +kernel
theorem dX5_areSeated_109 : decode cX5_areSeated 109 = .ok (.iload_n 3, 1) := by decide +kernel
theorem dX5_areSeated_110 : decode cX5_areSeated 110 = .ok (.iconst 1, 1) := by decide +kernel
theorem dX5_areSeated_111 : decode cX5_areSeated 111 = .ok (.iadd, 1) := by decide +kernel
theorem dX5_areSeated_112 : decode cX5_areSeated 112 = .ok (.invokestatic 73, 3) := by decide +kernel
theorem dX5_areSeated_115 : decode cX5_areSeated 115 = .ok (.ifCond .eq 5, 3) := by decide +kernel
theorem dX5_areSeated_118 : decode cX5_areSeated 118 = .ok (.iconst 1, 1) := by decide +kernel
theorem dX5_areSeated_119 : decode cX5_areSeated 119 = .ok (.ireturn, 1) := by decide +kernel
theorem dX5_areSeated_120 : decode cX5_areSeated 120 = .ok (.iinc 7 1, 3) := by decide +kernel
theorem dX5_areSeated_123 : decode cX5_areSeated 123 = .ok (.goto (-51), 3) := by decide +kernel
theorem dX5_areSeated_126 : decode cX5_areSeated 126 = .ok (.iconst 0, 1) := by decide +kernel
theorem dX5_areSeated_127 : decode cX5_areSeated 127 = .ok (.ireturn, 1) := by decide +kernel
theorem dX5_lowerHalf_0 : decode cX5_lowerHalf 0 = .ok (.iload_n 0, 1) := by decide +kernel
theorem dX5_lowerHalf_1 : decode cX5_lowerHalf 1 = .ok (.iconst 1, 1) := by decide +kernel
theorem dX5_lowerHalf_2 : decode cX5_lowerHalf 2 = .ok (.iload_n 0, 1) := by decide +kernel
theorem dX5_lowerHalf_3 : decode cX5_lowerHalf 3 = .ok (.invokestatic 28, 3) := by decide +kernel
theorem dX5_lowerHalf_6 : decode cX5_lowerHalf 6 = .ok (.iconst 1, 1) := by decide +kernel
theorem dX5_lowerHalf_7 : decode cX5_lowerHalf 7 = .ok (.iadd, 1) := by decide +kernel
theorem dX5_lowerHalf_8 : decode cX5_lowerHalf 8 = .ok (.iconst 2, 1) := by decide +kernel
theorem dX5_lowerHalf_9 : decode cX5_lowerHalf 9 = .ok (.idiv, 1) := by decide +kernel
theorem dX5_lowerHalf_10 : decode cX5_lowerHalf 10 = .ok (.ishl, 1) := by decide +kernel
theorem dX5_lowerHalf_11 : decode cX5_lowerHalf 11 = .ok (.iconst 1, 1) := by decide +kernel
theorem dX5_lowerHalf_12 : decode cX5_lowerHalf 12 = .ok (.isub, 1) := by decide +kernel
theorem dX5_lowerHalf_13 : decode cX5_lowerHalf 13 = .ok (.iand, 1) := by decide +kernel
theorem dX5_lowerHalf_14 : decode cX5_lowerHalf 14 = .ok (.ireturn, 1) := by decide +kernel
theorem dX5_tightest_0 : decode cX5_tightest 0 = .ok (.iconst (-1), 1) := by decide +kernel
theorem dX5_tightest_1 : decode cX5_tightest 1 = .ok (.istore 4, 2) := by decide +kernel
theorem dX5_tightest_3 : decode cX5_tightest 3 = .ok (.iconst 0, 1) := by decide +kernel
theorem dX5_tightest_4 : decode cX5_tightest 4 = .ok (.istore 5, 2) := by decide +kernel
theorem dX5_tightest_6 : decode cX5_tightest 6 = .ok (.iconst 0, 1) := by decide +kernel
theorem dX5_tightest_7 : decode cX5_tightest 7 = .ok (.istore 6, 2) := by decide +kernel
theorem dX5_tightest_9 : decode cX5_tightest 9 = .ok (.iconst 0, 1) := by decide +kernel
theorem dX5_tightest_10 : decode cX5_tightest 10 = .ok (.istore 7, 2) := by decide +kernel
theorem dX5_tightest_12 : decode cX5_tightest 12 = .ok (.iload 7, 2) := by decide +kernel
theorem dX5_tightest_14 : decode cX5_tightest 14 = .ok (.aload_n 1, 1) := by decide +kernel
theorem dX5_tightest_15 : decode cX5_tightest 15 = .ok (.invokevirtual 22, 3) := by decide +kernel
theorem dX5_tightest_18 : decode cX5_tightest 18 = .ok (.if_icmp .ge 73, 3) := by decide +kernel
theorem dX5_tightest_21 : decode cX5_tightest 21 = .ok (.iload_n 2, 1) := by decide +kernel
theorem dX5_tightest_22 : decode cX5_tightest 22 = .ok (.iload 7, 2) := by decide +kernel
theorem dX5_tightest_24 : decode cX5_tightest 24 = .ok (.ishr, 1) := by decide +kernel
theorem dX5_tightest_25 : decode cX5_tightest 25 = .ok (.iconst 1, 1) := by decide +kernel
theorem dX5_tightest_26 : decode cX5_tightest 26 = .ok (.iand, 1) := by decide +kernel
theorem dX5_tightest_27 : decode cX5_tightest 27 = .ok (.iconst 1, 1) := by decide +kernel
theorem dX5_tightest_28 : decode cX5_tightest 28 = .ok (.if_icmp .ne 57, 3) := by decide +kernel
theorem dX5_tightest_31 : decode cX5_tightest 31 = .ok (.aload_n 0, 1) := by decide +kernel
theorem dX5_tightest_32 : decode cX5_tightest 32 = .ok (.iload_n 3, 1) := by decide +kernel
theorem dX5_tightest_33 : decode cX5_tightest 33 = .ok (.iload 7, 2) := by decide +kernel
theorem dX5_tightest_35 : decode cX5_tightest 35 = .ok (.invokevirtual 81, 3) := by decide +kernel
theorem dX5_tightest_38 : decode cX5_tightest 38 = .ok (.invokestatic 28, 3) := by decide +kernel
theorem dX5_tightest_41 : decode cX5_tightest 41 = .ok (.istore 8, 2) := by decide +kernel
theorem dX5_tightest_43 : decode cX5_tightest 43 = .ok (.iconst 1, 1) := by decide +kernel
theorem dX5_tightest_44 : decode cX5_tightest 44 = .ok (.aload_n 0, 1) := by decide +kernel
theorem dX5_tightest_45 : decode cX5_tightest 45 = .ok (.aload_n 1, 1) := by decide +kernel
theorem dX5_tightest_46 : decode cX5_tightest 46 = .ok (.iload_n 2, 1) := by decide +kernel
theorem dX5_tightest_47 : decode cX5_tightest 47 = .ok (.iload 7, 2) := by decide +kernel
theorem dX5_tightest_49 : decode cX5_tightest 49 = .ok (.invokevirtual 94, 3) := by decide +kernel
theorem dX5_tightest_52 : decode cX5_tightest 52 = .ok (.iadd, 1) := by decide +kernel
theorem dX5_tightest_53 : decode cX5_tightest 53 = .ok (.istore 9, 2) := by decide +kernel
theorem dX5_tightest_55 : decode cX5_tightest 55 = .ok (.iload 4, 2) := by decide +kernel
theorem dX5_tightest_57 : decode cX5_tightest 57 = .ok (.ifCond .lt 16, 3) := by decide +kernel
theorem dX5_tightest_60 : decode cX5_tightest 60 = .ok (.iload 8, 2) := by decide +kernel
theorem dX5_tightest_62 : decode cX5_tightest 62 = .ok (.iload 6, 2) := by decide +kernel
theorem dX5_tightest_64 : decode cX5_tightest 64 = .ok (.imul, 1) := by decide +kernel
theorem dX5_tightest_65 : decode cX5_tightest 65 = .ok (.iload 5, 2) := by decide +kernel
theorem dX5_tightest_67 : decode cX5_tightest 67 = .ok (.iload 9, 2) := by decide +kernel
theorem dX5_tightest_69 : decode cX5_tightest 69 = .ok (.imul, 1) := by decide +kernel
theorem dX5_tightest_70 : decode cX5_tightest 70 = .ok (.if_icmp .ge 15, 3) := by decide +kernel
theorem dX5_tightest_73 : decode cX5_tightest 73 = .ok (.iload 7, 2) := by decide +kernel
theorem dX5_tightest_75 : decode cX5_tightest 75 = .ok (.istore 4, 2) := by decide +kernel
theorem dX5_tightest_77 : decode cX5_tightest 77 = .ok (.iload 8, 2) := by decide +kernel
theorem dX5_tightest_79 : decode cX5_tightest 79 = .ok (.istore 5, 2) := by decide +kernel
theorem dX5_tightest_81 : decode cX5_tightest 81 = .ok (.iload 9, 2) := by decide +kernel
theorem dX5_tightest_83 : decode cX5_tightest 83 = .ok (.istore 6, 2) := by decide +kernel
theorem dX5_tightest_85 : decode cX5_tightest 85 = .ok (.iinc 7 1, 3) := by decide +kernel
theorem dX5_tightest_88 : decode cX5_tightest 88 = .ok (.goto (-76), 3) := by decide +kernel
theorem dX5_tightest_91 : decode cX5_tightest 91 = .ok (.iload 4, 2) := by decide +kernel
theorem dX5_tightest_93 : decode cX5_tightest 93 = .ok (.ireturn, 1) := by decide +kernel
theorem dX5_weightAmong_0 : decode cX5_weightAmong 0 = .ok (.iconst 0, 1) := by decide +kernel
theorem dX5_weightAmong_1 : decode cX5_weightAmong 1 = .ok (.istore 4, 2) := by decide +kernel
theorem dX5_weightAmong_3 : decode cX5_weightAmong 3 = .ok (.iconst 0, 1) := by decide +kernel
theorem dX5_weightAmong_4 : decode cX5_weightAmong 4 = .ok (.istore 5, 2) := by decide +kernel
theorem dX5_weightAmong_6 : decode cX5_weightAmong 6 = .ok (.iload 5, 2) := by decide +kernel
theorem dX5_weightAmong_8 : decode cX5_weightAmong 8 = .ok (.aload_n 1, 1) := by decide +kernel
theorem dX5_weightAmong_9 : decode cX5_weightAmong 9 = .ok (.invokevirtual 22, 3) := by decide +kernel
theorem dX5_weightAmong_12 : decode cX5_weightAmong 12 = .ok (.if_icmp .ge 35, 3) := by decide +kernel
theorem dX5_weightAmong_15 : decode cX5_weightAmong 15 = .ok (.iload 4, 2) := by decide +kernel
theorem dX5_weightAmong_17 : decode cX5_weightAmong 17 = .ok (.iload_n 2, 1) := by decide +kernel
theorem dX5_weightAmong_18 : decode cX5_weightAmong 18 = .ok (.iload 5, 2) := by decide +kernel
theorem dX5_weightAmong_20 : decode cX5_weightAmong 20 = .ok (.ishr, 1) := by decide +kernel
theorem dX5_weightAmong_21 : decode cX5_weightAmong 21 = .ok (.iconst 1, 1) := by decide +kernel
theorem dX5_weightAmong_22 : decode cX5_weightAmong 22 = .ok (.iand, 1) := by decide +kernel
theorem dX5_weightAmong_23 : decode cX5_weightAmong 23 = .ok (.iconst 1, 1) := by decide +kernel
theorem dX5_weightAmong_24 : decode cX5_weightAmong 24 = .ok (.if_icmp .ne 13, 3) := by decide +kernel
theorem dX5_weightAmong_27 : decode cX5_weightAmong 27 = .ok (.aload_n 1, 1) := by decide +kernel
theorem dX5_weightAmong_28 : decode cX5_weightAmong 28 = .ok (.iload_n 3, 1) := by decide +kernel
theorem dX5_weightAmong_29 : decode cX5_weightAmong 29 = .ok (.iload 5, 2) := by decide +kernel
theorem dX5_weightAmong_31 : decode cX5_weightAmong 31 = .ok (.invokevirtual 38, 3) := by decide +kernel
theorem dX5_weightAmong_34 : decode cX5_weightAmong 34 = .ok (.goto 4, 3) := by decide +kernel
theorem dX5_weightAmong_37 : decode cX5_weightAmong 37 = .ok (.iconst 0, 1) := by decide +kernel
theorem dX5_weightAmong_38 : decode cX5_weightAmong 38 = .ok (.iadd, 1) := by decide +kernel
theorem dX5_weightAmong_39 : decode cX5_weightAmong 39 = .ok (.istore 4, 2) := by decide +kernel
theorem dX5_weightAmong_41 : decode cX5_weightAmong 41 = .ok (.iinc 5 1, 3) := by decide +kernel
theorem dX5_weightAmong_44 : decode cX5_weightAmong 44 = .ok (.goto (-38), 3) := by decide +kernel
theorem dX5_weightAmong_47 : decode cX5_weightAmong 47 = .ok (.iload 4, 2) := by decide +kernel
theorem dX5_weightAmong_49 : decode cX5_weightAmong 49 = .ok (.ireturn, 1) := by decide +kernel
theorem dX5_leaves_0 : decode cX5_leaves 0 = .ok (.iconst 0, 1) := by decide +kernel
theorem dX5_leaves_1 : decode cX5_leaves 1 = .ok (.istore 6, 2) := by decide +kernel
theorem dX5_leaves_3 : decode cX5_leaves 3 = .ok (.iload 6, 2) := by decide +kernel
theorem dX5_leaves_5 : decode cX5_leaves 5 = .ok (.aload_n 1, 1) := by decide +kernel
theorem dX5_leaves_6 : decode cX5_leaves 6 = .ok (.invokevirtual 22, 3) := by decide +kernel
theorem dX5_leaves_9 : decode cX5_leaves 9 = .ok (.if_icmp .ge 62, 3) := by decide +kernel
theorem dX5_leaves_12 : decode cX5_leaves 12 = .ok (.iload_n 2, 1) := by decide +kernel
theorem dX5_leaves_13 : decode cX5_leaves 13 = .ok (.iload 6, 2) := by decide +kernel
theorem dX5_leaves_15 : decode cX5_leaves 15 = .ok (.ishr, 1) := by decide +kernel
theorem dX5_leaves_16 : decode cX5_leaves 16 = .ok (.iconst 1, 1) := by decide +kernel
theorem dX5_leaves_17 : decode cX5_leaves 17 = .ok (.iand, 1) := by decide +kernel
theorem dX5_leaves_18 : decode cX5_leaves 18 = .ok (.iconst 1, 1) := by decide +kernel
theorem dX5_leaves_19 : decode cX5_leaves 19 = .ok (.if_icmp .ne 46, 3) := by decide +kernel
theorem dX5_leaves_22 : decode cX5_leaves 22 = .ok (.aload_n 0, 1) := by decide +kernel
theorem dX5_leaves_23 : decode cX5_leaves 23 = .ok (.iload_n 3, 1) := by decide +kernel
theorem dX5_leaves_24 : decode cX5_leaves 24 = .ok (.iload 6, 2) := by decide +kernel
theorem dX5_leaves_26 : decode cX5_leaves 26 = .ok (.invokevirtual 81, 3) := by decide +kernel
theorem dX5_leaves_29 : decode cX5_leaves 29 = .ok (.iload 5, 2) := by decide +kernel
theorem dX5_leaves_31 : decode cX5_leaves 31 = .ok (.aload_n 1, 1) := by decide +kernel
theorem dX5_leaves_32 : decode cX5_leaves 32 = .ok (.iload 4, 2) := by decide +kernel
theorem dX5_leaves_34 : decode cX5_leaves 34 = .ok (.iload 6, 2) := by decide +kernel
theorem dX5_leaves_36 : decode cX5_leaves 36 = .ok (.invokevirtual 38, 3) := by decide +kernel
theorem dX5_leaves_39 : decode cX5_leaves 39 = .ok (.invokestatic 66, 3) := by decide +kernel
theorem dX5_leaves_42 : decode cX5_leaves 42 = .ok (.iconst (-1), 1) := by decide +kernel
theorem dX5_leaves_43 : decode cX5_leaves 43 = .ok (.ixor, 1) := by decide +kernel
theorem dX5_leaves_44 : decode cX5_leaves 44 = .ok (.iand, 1) := by decide +kernel
theorem dX5_leaves_45 : decode cX5_leaves 45 = .ok (.istore 7, 2) := by decide +kernel
theorem dX5_leaves_47 : decode cX5_leaves 47 = .ok (.iload 7, 2) := by decide +kernel
theorem dX5_leaves_49 : decode cX5_leaves 49 = .ok (.ifCond .ne 5, 3) := by decide +kernel
theorem dX5_leaves_52 : decode cX5_leaves 52 = .ok (.iconst 0, 1) := by decide +kernel
theorem dX5_leaves_53 : decode cX5_leaves 53 = .ok (.ireturn, 1) := by decide +kernel
theorem dX5_leaves_54 : decode cX5_leaves 54 = .ok (.aload_n 0, 1) := by decide +kernel
theorem dX5_leaves_55 : decode cX5_leaves 55 = .ok (.iload_n 3, 1) := by decide +kernel
theorem dX5_leaves_56 : decode cX5_leaves 56 = .ok (.iconst 1, 1) := by decide +kernel
theorem dX5_leaves_57 : decode cX5_leaves 57 = .ok (.iadd, 1) := by decide +kernel
theorem dX5_leaves_58 : decode cX5_leaves 58 = .ok (.iload 6, 2) := by decide +kernel
theorem dX5_leaves_60 : decode cX5_leaves 60 = .ok (.iload 7, 2) := by decide +kernel
theorem dX5_leaves_62 : decode cX5_leaves 62 = .ok (.invokevirtual 69, 3) := by decide +kernel
theorem dX5_leaves_65 : decode cX5_leaves 65 = .ok (.iinc 6 1, 3) := by decide +kernel
theorem dX5_leaves_68 : decode cX5_leaves 68 = .ok (.goto (-65), 3) := by decide +kernel
theorem dX5_leaves_71 : decode cX5_leaves 71 = .ok (.iconst 1, 1) := by decide +kernel
theorem dX5_leaves_72 : decode cX5_leaves 72 = .ok (.ireturn, 1) := by decide +kernel
theorem dX5_leftAt_0 : decode cX5_leftAt 0 = .ok (.iload_n 1, 1) := by decide +kernel
theorem dX5_leftAt_1 : decode cX5_leftAt 1 = .ok (.bipush 8, 2) := by decide +kernel
theorem dX5_leftAt_3 : decode cX5_leftAt 3 = .ok (.imul, 1) := by decide +kernel
theorem dX5_leftAt_4 : decode cX5_leftAt 4 = .ok (.iload_n 2, 1) := by decide +kernel
theorem dX5_leftAt_5 : decode cX5_leftAt 5 = .ok (.iadd, 1) := by decide +kernel
theorem dX5_leftAt_6 : decode cX5_leftAt 6 = .ok (.istore_n 3, 1) := by decide +kernel
theorem dX5_leftAt_7 : decode cX5_leftAt 7 = .ok (.iload_n 3, 1) := by decide +kernel
theorem dX5_leftAt_8 : decode cX5_leftAt 8 = .ok (.ifCond .lt 21, 3) := by decide +kernel
theorem dX5_leftAt_11 : decode cX5_leftAt 11 = .ok (.iload_n 3, 1) := by decide +kernel
theorem dX5_leftAt_12 : decode cX5_leftAt 12 = .ok (.aload_n 0, 1) := by decide +kernel
theorem dX5_leftAt_13 : decode cX5_leftAt 13 = .ok (.getfield 15, 3) := by decide +kernel
theorem dX5_leftAt_16 : decode cX5_leftAt 16 = .ok (.arraylength, 1) := by decide +kernel
theorem dX5_leftAt_17 : decode cX5_leftAt 17 = .ok (.if_icmp .ge 12, 3) := by decide +kernel
theorem dX5_leftAt_20 : decode cX5_leftAt 20 = .ok (.aload_n 0, 1) := by decide +kernel
theorem dX5_leftAt_21 : decode cX5_leftAt 21 = .ok (.getfield 15, 3) := by decide +kernel
theorem dX5_leftAt_24 : decode cX5_leftAt 24 = .ok (.iload_n 3, 1) := by decide +kernel
theorem dX5_leftAt_25 : decode cX5_leftAt 25 = .ok (.iaload, 1) := by decide +kernel
theorem dX5_leftAt_26 : decode cX5_leftAt 26 = .ok (.goto 4, 3) := by decide +kernel
theorem dX5_leftAt_29 : decode cX5_leftAt 29 = .ok (.iconst 0, 1) := by decide +kernel
theorem dX5_leftAt_30 : decode cX5_leftAt 30 = .ok (.ireturn, 1) := by decide +kernel
theorem dX5_leave_0 : decode cX5_leave 0 = .ok (.iload_n 1, 1) := by decide +kernel
theorem dX5_leave_1 : decode cX5_leave 1 = .ok (.bipush 8, 2) := by decide +kernel
theorem dX5_leave_3 : decode cX5_leave 3 = .ok (.imul, 1) := by decide +kernel
theorem dX5_leave_4 : decode cX5_leave 4 = .ok (.iload_n 2, 1) := by decide +kernel
theorem dX5_leave_5 : decode cX5_leave 5 = .ok (.iadd, 1) := by decide +kernel
theorem dX5_leave_6 : decode cX5_leave 6 = .ok (.istore 4, 2) := by decide +kernel
theorem dX5_leave_8 : decode cX5_leave 8 = .ok (.iload 4, 2) := by decide +kernel
theorem dX5_leave_10 : decode cX5_leave 10 = .ok (.ifCond .lt 21, 3) := by decide +kernel
theorem dX5_leave_13 : decode cX5_leave 13 = .ok (.iload 4, 2) := by decide +kernel
theorem dX5_leave_15 : decode cX5_leave 15 = .ok (.aload_n 0, 1) := by decide +kernel
theorem dX5_leave_16 : decode cX5_leave 16 = .ok (.getfield 15, 3) := by decide +kernel
theorem dX5_leave_19 : decode cX5_leave 19 = .ok (.arraylength, 1) := by decide +kernel
theorem dX5_leave_20 : decode cX5_leave 20 = .ok (.if_icmp .ge 11, 3) := by decide +kernel
theorem dX5_leave_23 : decode cX5_leave 23 = .ok (.aload_n 0, 1) := by decide +kernel
theorem dX5_leave_24 : decode cX5_leave 24 = .ok (.getfield 15, 3) := by decide +kernel
theorem dX5_leave_27 : decode cX5_leave 27 = .ok (.iload 4, 2) := by decide +kernel
theorem dX5_leave_29 : decode cX5_leave 29 = .ok (.iload_n 3, 1) := by decide +kernel
theorem dX5_leave_30 : decode cX5_leave 30 = .ok (.iastore, 1) := by decide +kernel
theorem dX5_leave_31 : decode cX5_leave 31 = .ok (.return_, 1) := by decide +kernel
theorem dX6_init_0 : decode cX6_init 0 = .ok (.aload_n 0, 1) := by decide +kernel
theorem dX6_init_1 : decode cX6_init 1 = .ok (.invokespecial 5, 3) := by decide +kernel
theorem dX6_init_4 : decode cX6_init 4 = .ok (.aload_n 0, 1) := by decide +kernel
theorem dX6_init_5 : decode cX6_init 5 = .ok (.new 11, 3) := by decide +kernel
theorem dX6_init_8 : decode cX6_init 8 = .ok (.dup, 1) := by decide +kernel
theorem dX6_init_9 : decode cX6_init 9 = .ok (.invokespecial 13, 3) := by decide +kernel
theorem dX6_init_12 : decode cX6_init 12 = .ok (.putfield 14, 3) := by decide +kernel
theorem dX6_init_15 : decode cX6_init 15 = .ok (.aload_n 0, 1) := by decide +kernel
theorem dX6_init_16 : decode cX6_init 16 = .ok (.new 11, 3) := by decide +kernel
theorem dX6_init_19 : decode cX6_init 19 = .ok (.dup, 1) := by decide +kernel
theorem dX6_init_20 : decode cX6_init 20 = .ok (.invokespecial 13, 3) := by decide +kernel
theorem dX6_init_23 : decode cX6_init 23 = .ok (.putfield 18, 3) := by decide +kernel
theorem dX6_init_26 : decode cX6_init 26 = .ok (.aload_n 0, 1) := by decide +kernel
theorem dX6_init_27 : decode cX6_init 27 = .ok (.iconst 0, 1) := by decide +kernel
theorem dX6_init_28 : decode cX6_init 28 = .ok (.putfield 21, 3) := by decide +kernel
theorem dX6_init_31 : decode cX6_init 31 = .ok (.aload_n 0, 1) := by decide +kernel
theorem dX6_init_32 : decode cX6_init 32 = .ok (.new 25, 3) := by decide +kernel
theorem dX6_init_35 : decode cX6_init 35 = .ok (.dup, 1) := by decide +kernel
theorem dX6_init_36 : decode cX6_init 36 = .ok (.invokespecial 27, 3) := by decide +kernel
theorem dX6_init_39 : decode cX6_init 39 = .ok (.putfield 28, 3) := by decide +kernel
theorem dX6_init_42 : decode cX6_init 42 = .ok (.aload_n 0, 1) := by decide +kernel
theorem dX6_init_43 : decode cX6_init 43 = .ok (.new 32, 3) := by decide +kernel
theorem dX6_init_46 : decode cX6_init 46 = .ok (.dup, 1) := by decide +kernel
theorem dX6_init_47 : decode cX6_init 47 = .ok (.invokespecial 34, 3) := by decide +kernel
theorem dX6_init_50 : decode cX6_init 50 = .ok (.putfield 35, 3) := by decide +kernel
theorem dX6_init_53 : decode cX6_init 53 = .ok (.aload_n 0, 1) := by decide +kernel
theorem dX6_init_54 : decode cX6_init 54 = .ok (.new 39, 3) := by decide +kernel
theorem dX6_init_57 : decode cX6_init 57 = .ok (.dup, 1) := by decide +kernel
theorem dX6_init_58 : decode cX6_init 58 = .ok (.invokespecial 41, 3) := by decide +kernel
theorem dX6_init_61 : decode cX6_init 61 = .ok (.putfield 42, 3) := by decide +kernel
theorem dX6_init_64 : decode cX6_init 64 = .ok (.aload_n 0, 1) := by decide +kernel
theorem dX6_init_65 : decode cX6_init 65 = .ok (.bipush 6, 2) := by decide +kernel
theorem dX6_init_67 : decode cX6_init 67 = .ok (.anewarray 46, 3) := by decide +kernel
theorem dX6_init_70 : decode cX6_init 70 = .ok (.putfield 48, 3) := by decide +kernel
theorem dX6_init_73 : decode cX6_init 73 = .ok (.iconst 0, 1) := by decide +kernel
theorem dX6_init_74 : decode cX6_init 74 = .ok (.istore_n 1, 1) := by decide +kernel
theorem dX6_init_75 : decode cX6_init 75 = .ok (.iload_n 1, 1) := by decide +kernel
theorem dX6_init_76 : decode cX6_init 76 = .ok (.bipush 6, 2) := by decide +kernel
theorem dX6_init_78 : decode cX6_init 78 = .ok (.if_icmp .ge 22, 3) := by decide +kernel
theorem dX6_init_81 : decode cX6_init 81 = .ok (.aload_n 0, 1) := by decide +kernel
theorem dX6_init_82 : decode cX6_init 82 = .ok (.getfield 48, 3) := by decide +kernel
theorem dX6_init_85 : decode cX6_init 85 = .ok (.iload_n 1, 1) := by decide +kernel
theorem dX6_init_86 : decode cX6_init 86 = .ok (.new 46, 3) := by decide +kernel
theorem dX6_init_89 : decode cX6_init 89 = .ok (.dup, 1) := by decide +kernel
theorem dX6_init_90 : decode cX6_init 90 = .ok (.invokespecial 52, 3) := by decide +kernel
theorem dX6_init_93 : decode cX6_init 93 = .ok (.aastore, 1) := by decide +kernel
theorem dX6_init_94 : decode cX6_init 94 = .ok (.iinc 1 1, 3) := by decide +kernel
theorem dX6_init_97 : decode cX6_init 97 = .ok (.goto (-22), 3) := by decide +kernel
theorem dX6_init_100 : decode cX6_init 100 = .ok (.return_, 1) := by decide +kernel
theorem dX6_station_0 : decode cX6_station 0 = .ok (.iload_n 1, 1) := by decide +kernel
theorem dX6_station_1 : decode cX6_station 1 = .ok (.iload_n 2, 1) := by decide +kernel
theorem dX6_station_2 : decode cX6_station 2 = .ok (.invokestatic 53, 3) := by decide +kernel
theorem dX6_station_5 : decode cX6_station 5 = .ok (.ifCond .eq 18, 3) := by decide +kernel
theorem dX6_station_8 : decode cX6_station 8 = .ok (.aload_n 0, 1) := by decide +kernel
theorem dX6_station_9 : decode cX6_station 9 = .ok (.getfield 14, 3) := by decide +kernel
theorem dX6_station_12 : decode cX6_station 12 = .ok (.getfield 57, 3) := by decide +kernel
theorem dX6_station_15 : decode cX6_station 15 = .ok (.iload_n 1, 1) := by decide +kernel
theorem dX6_station_16 : decode cX6_station 16 = .ok (.iload_n 2, 1) := by decide +kernel
theorem dX6_station_17 : decode cX6_station 17 = .ok (.invokevirtual 60, 3) := by decide +kernel
theorem dX6_station_20 : decode cX6_station 20 = .ok (.goto 5, 3) := by decide +kernel
theorem dX6_station_23 : decode cX6_station 23 = .ok (.bipush (-2), 2) := by decide +kernel
theorem dX6_station_25 : decode cX6_station 25 = .ok (.ireturn, 1) := by decide +kernel
theorem dX6_rule_0 : decode cX6_rule 0 = .ok (.iload_n 1, 1) := by decide +kernel
theorem dX6_rule_1 : decode cX6_rule 1 = .ok (.invokestatic 64, 3) := by decide +kernel
theorem dX6_rule_4 : decode cX6_rule 4 = .ok (.ifCond .ne 5, 3) := by decide +kernel
theorem dX6_rule_7 : decode cX6_rule 7 = .ok (.iconst (-1), 1) := by decide +kernel
theorem dX6_rule_8 : decode cX6_rule 8 = .ok (.ireturn, 1) := by decide +kernel
theorem dX6_rule_9 : decode cX6_rule 9 = .ok (.iload_n 2, 1) := by decide +kernel
theorem dX6_rule_10 : decode cX6_rule 10 = .ok (.invokestatic 68, 3) := by decide +kernel
theorem dX6_rule_13 : decode cX6_rule 13 = .ok (.ifCond .eq 10, 3) := by decide +kernel
theorem dX6_rule_16 : decode cX6_rule 16 = .ok (.iload_n 3, 1) := by decide +kernel
theorem dX6_rule_17 : decode cX6_rule 17 = .ok (.invokestatic 71, 3) := by decide +kernel
theorem dX6_rule_20 : decode cX6_rule 20 = .ok (.ifCond .ne 6, 3) := by decide +kernel
theorem dX6_rule_23 : decode cX6_rule 23 = .ok (.bipush (-2), 2) := by decide +kernel
theorem dX6_rule_25 : decode cX6_rule 25 = .ok (.ireturn, 1) := by decide +kernel
theorem dX6_rule_26 : decode cX6_rule 26 = .ok (.aload_n 0, 1) := by decide +kernel
theorem dX6_rule_27 : decode cX6_rule 27 = .ok (.getfield 14, 3) := by decide +kernel
theorem dX6_rule_30 : decode cX6_rule 30 = .ok (.getfield 57, 3) := by decide +kernel
theorem dX6_rule_33 : decode cX6_rule 33 = .ok (.iload_n 1, 1) := by decide +kernel
theorem dX6_rule_34 : decode cX6_rule 34 = .ok (.iload_n 2, 1) := by decide +kernel
theorem dX6_rule_35 : decode cX6_rule 35 = .ok (.iload_n 3, 1) := by decide +kernel
theorem dX6_rule_36 : decode cX6_rule 36 = .ok (.invokevirtual 74, 3) := by decide +kernel
theorem dX6_rule_39 : decode cX6_rule 39 = .ok (.ireturn, 1) := by decide +kernel
theorem dX6_channel_0 : decode cX6_channel 0 = .ok (.aload_n 0, 1) := by decide +kernel
theorem dX6_channel_1 : decode cX6_channel 1 = .ok (.getfield 14, 3) := by decide +kernel
theorem dX6_channel_4 : decode cX6_channel 4 = .ok (.getfield 57, 3) := by decide +kernel
theorem dX6_channel_7 : decode cX6_channel 7 = .ok (.astore_n 3, 1) := by decide +kernel
theorem dX6_channel_8 : decode cX6_channel 8 = .ok (.aload_n 3, 1) := by decide +kernel
theorem dX6_channel_9 : decode cX6_channel 9 = .ok (.iload_n 1, 1) := by decide +kernel
theorem dX6_channel_10 : decode cX6_channel 10 = .ok (.invokevirtual 78, 3) := by decide +kernel
theorem dX6_channel_13 : decode cX6_channel 13 = .ok (.ifCond .ne 5, 3) := by decide +kernel
theorem dX6_channel_16 : decode cX6_channel 16 = .ok (.iconst (-1), 1) := by decide +kernel
theorem dX6_channel_17 : decode cX6_channel 17 = .ok (.ireturn, 1) := by decide +kernel
theorem dX6_channel_18 : decode cX6_channel 18 = .ok (.iload_n 2, 1) := by decide +kernel
theorem dX6_channel_19 : decode cX6_channel 19 = .ok (.iconst (-1), 1) := by decide +kernel
theorem dX6_channel_20 : decode cX6_channel 20 = .ok (.if_icmp .eq 13, 3) := by decide +kernel
theorem dX6_channel_23 : decode cX6_channel 23 = .ok (.iload_n 2, 1) := by decide +kernel
theorem dX6_channel_24 : decode cX6_channel 24 = .ok (.invokestatic 81, 3) := by decide +kernel
theorem dX6_channel_27 : decode cX6_channel 27 = .ok (.ifCond .ne 6, 3) := by decide +kernel
theorem dX6_channel_30 : decode cX6_channel 30 = .ok (.bipush (-2), 2) := by decide +kernel
theorem dX6_channel_32 : decode cX6_channel 32 = .ok (.ireturn, 1) := by decide +kernel
theorem dX6_channel_33 : decode cX6_channel 33 = .ok (.iload_n 2, 1) := by decide +kernel
theorem dX6_channel_34 : decode cX6_channel 34 = .ok (.iconst (-1), 1) := by decide +kernel
theorem dX6_channel_35 : decode cX6_channel 35 = .ok (.if_icmp .eq 14, 3) := by decide +kernel
theorem dX6_channel_38 : decode cX6_channel 38 = .ok (.aload_n 3, 1) := by decide +kernel
theorem dX6_channel_39 : decode cX6_channel 39 = .ok (.iload_n 1, 1) := by decide +kernel
theorem dX6_channel_40 : decode cX6_channel 40 = .ok (.invokevirtual 84, 3) := by decide +kernel
theorem dX6_channel_43 : decode cX6_channel 43 = .ok (.ifCond .eq 6, 3) := by decide +kernel
theorem dX6_channel_46 : decode cX6_channel 46 = .ok (.bipush (-3), 2) := by decide +kernel
theorem dX6_channel_48 : decode cX6_channel 48 = .ok (.ireturn, 1) := by decide +kernel
theorem dX6_channel_49 : decode cX6_channel 49 = .ok (.aload_n 3, 1) := by decide +kernel
theorem dX6_channel_50 : decode cX6_channel 50 = .ok (.iload_n 1, 1) := by decide +kernel
theorem dX6_channel_51 : decode cX6_channel 51 = .ok (.invokevirtual 87, 3) := by decide +kernel
theorem dX6_channel_54 : decode cX6_channel 54 = .ok (.istore 4, 2) := by decide +kernel
theorem dX6_channel_56 : decode cX6_channel 56 = .ok (.aload_n 3, 1) := by decide +kernel
theorem dX6_channel_57 : decode cX6_channel 57 = .ok (.iload_n 1, 1) := by decide +kernel
theorem dX6_channel_58 : decode cX6_channel 58 = .ok (.iload_n 2, 1) := by decide +kernel
theorem dX6_channel_59 : decode cX6_channel 59 = .ok (.invokevirtual 91, 3) := by decide +kernel
theorem dX6_channel_62 : decode cX6_channel 62 = .ok (.iload 4, 2) := by decide +kernel
theorem dX6_channel_64 : decode cX6_channel 64 = .ok (.ireturn, 1) := by decide +kernel
theorem dX6_fix_0 : decode cX6_fix 0 = .ok (.aload_n 0, 1) := by decide +kernel
theorem dX6_fix_1 : decode cX6_fix 1 = .ok (.getfield 14, 3) := by decide +kernel
theorem dX6_fix_4 : decode cX6_fix 4 = .ok (.getfield 57, 3) := by decide +kernel
theorem dX6_fix_7 : decode cX6_fix 7 = .ok (.astore_n 3, 1) := by decide +kernel
theorem dX6_fix_8 : decode cX6_fix 8 = .ok (.aload_n 3, 1) := by decide +kernel
theorem dX6_fix_9 : decode cX6_fix 9 = .ok (.iload_n 1, 1) := by decide +kernel
theorem dX6_fix_10 : decode cX6_fix 10 = .ok (.invokevirtual 78, 3) := by decide +kernel
theorem dX6_fix_13 : decode cX6_fix 13 = .ok (.ifCond .ne 5, 3) := by decide +kernel
theorem dX6_fix_16 : decode cX6_fix 16 = .ok (.iconst (-1), 1) := by decide +kernel
theorem dX6_fix_17 : decode cX6_fix 17 = .ok (.ireturn, 1) := by decide +kernel
theorem dX6_fix_18 : decode cX6_fix 18 = .ok (.aload_n 3, 1) := by decide +kernel
theorem dX6_fix_19 : decode cX6_fix 19 = .ok (.iload_n 1, 1) := by decide +kernel
theorem dX6_fix_20 : decode cX6_fix 20 = .ok (.invokevirtual 95, 3) := by decide +kernel
theorem dX6_fix_23 : decode cX6_fix 23 = .ok (.iconst (-1), 1) := by decide +kernel
theorem dX6_fix_24 : decode cX6_fix 24 = .ok (.if_icmp .ne 6, 3) := by decide +kernel
theorem dX6_fix_27 : decode cX6_fix 27 = .ok (.bipush (-3), 2) := by decide +kernel
theorem dX6_fix_29 : decode cX6_fix 29 = .ok (.ireturn, 1) := by decide +kernel
theorem dX6_fix_30 : decode cX6_fix 30 = .ok (.aload_n 3, 1) := by decide +kernel
theorem dX6_fix_31 : decode cX6_fix 31 = .ok (.iload_n 1, 1) := by decide +kernel
theorem dX6_fix_32 : decode cX6_fix 32 = .ok (.invokevirtual 84, 3) := by decide +kernel
theorem dX6_fix_35 : decode cX6_fix 35 = .ok (.ifCond .eq 7, 3) := by decide +kernel
theorem dX6_fix_38 : decode cX6_fix 38 = .ok (.iconst 1, 1) := by decide +kernel
theorem dX6_fix_39 : decode cX6_fix 39 = .ok (.goto 4, 3) := by decide +kernel
theorem dX6_fix_42 : decode cX6_fix 42 = .ok (.iconst 0, 1) := by decide +kernel
theorem dX6_fix_43 : decode cX6_fix 43 = .ok (.istore 4, 2) := by decide +kernel
theorem dX6_fix_45 : decode cX6_fix 45 = .ok (.aload_n 3, 1) := by decide +kernel
theorem dX6_fix_46 : decode cX6_fix 46 = .ok (.iload_n 1, 1) := by decide +kernel
theorem dX6_fix_47 : decode cX6_fix 47 = .ok (.iload_n 2, 1) := by decide +kernel
theorem dX6_fix_48 : decode cX6_fix 48 = .ok (.invokevirtual 98, 3) := by decide +kernel
theorem dX6_fix_51 : decode cX6_fix 51 = .ok (.iload 4, 2) := by decide +kernel
theorem dX6_fix_53 : decode cX6_fix 53 = .ok (.ireturn, 1) := by decide +kernel
theorem dX6_move_0 : decode cX6_move 0 = .ok (.aload_n 0, 1) := by decide +kernel
theorem dX6_move_1 : decode cX6_move 1 = .ok (.getfield 14, 3) := by decide +kernel
theorem dX6_move_4 : decode cX6_move 4 = .ok (.getfield 57, 3) := by decide +kernel
theorem dX6_move_7 : decode cX6_move 7 = .ok (.astore 4, 2) := by decide +kernel
theorem dX6_move_9 : decode cX6_move 9 = .ok (.aload 4, 2) := by decide +kernel
theorem dX6_move_11 : decode cX6_move 11 = .ok (.iload_n 1, 1) := by decide +kernel
theorem dX6_move_12 : decode cX6_move 12 = .ok (.invokevirtual 78, 3) := by decide +kernel
theorem dX6_move_15 : decode cX6_move 15 = .ok (.ifCond .ne 5, 3) := by decide +kernel
theorem dX6_move_18 : decode cX6_move 18 = .ok (.iconst (-1), 1) := by decide +kernel
theorem dX6_move_19 : decode cX6_move 19 = .ok (.ireturn, 1) := by decide +kernel
theorem dX6_move_20 : decode cX6_move 20 = .ok (.iload_n 2, 1) := by decide +kernel
theorem dX6_move_21 : decode cX6_move 21 = .ok (.iload_n 3, 1) := by decide +kernel
theorem dX6_move_22 : decode cX6_move 22 = .ok (.invokestatic 53, 3) := by decide +kernel
theorem dX6_move_25 : decode cX6_move 25 = .ok (.ifCond .ne 6, 3) := by decide +kernel
theorem dX6_move_28 : decode cX6_move 28 = .ok (.bipush (-2), 2) := by decide +kernel
theorem dX6_move_30 : decode cX6_move 30 = .ok (.ireturn, 1) := by decide +kernel
theorem dX6_move_31 : decode cX6_move 31 = .ok (.aload 4, 2) := by decide +kernel
theorem dX6_move_33 : decode cX6_move 33 = .ok (.iload_n 2, 1) := by decide +kernel
theorem dX6_move_34 : decode cX6_move 34 = .ok (.iload_n 3, 1) := by decide +kernel
theorem dX6_move_35 : decode cX6_move 35 = .ok (.invokevirtual 102, 3) := by decide +kernel
theorem dX6_move_38 : decode cX6_move 38 = .ok (.istore 5, 2) := by decide +kernel
theorem dX6_move_40 : decode cX6_move 40 = .ok (.iload 5, 2) := by decide +kernel
theorem dX6_move_42 : decode cX6_move 42 = .ok (.ifCond .lt 12, 3) := by decide +kernel
theorem dX6_move_45 : decode cX6_move 45 = .ok (.iload 5, 2) := by decide +kernel
theorem dX6_move_47 : decode cX6_move 47 = .ok (.iload_n 1, 1) := by decide +kernel
theorem dX6_move_48 : decode cX6_move 48 = .ok (.if_icmp .eq 6, 3) := by decide +kernel
theorem dX6_move_51 : decode cX6_move 51 = .ok (.bipush (-3), 2) := by decide +kernel
theorem dX6_move_53 : decode cX6_move 53 = .ok (.ireturn, 1) := by decide +kernel
theorem dX6_move_54 : decode cX6_move 54 = .ok (.aload 4, 2) := by decide +kernel
theorem dX6_move_56 : decode cX6_move 56 = .ok (.iload_n 1, 1) := by decide +kernel
theorem dX6_move_57 : decode cX6_move 57 = .ok (.iload_n 2, 1) := by decide +kernel
theorem dX6_move_58 : decode cX6_move 58 = .ok (.iload_n 3, 1) := by decide +kernel
theorem dX6_move_59 : decode cX6_move 59 = .ok (.invokevirtual 105, 3) := by decide +kernel
theorem dX6_move_62 : decode cX6_move 62 = .ok (.ireturn, 1) := by decide +kernel
theorem dX6_feed_0 : decode cX6_feed 0 = .ok (.iload_n 1, 1) := by decide +kernel
theorem dX6_feed_1 : decode cX6_feed 1 = .ok (.ifCond .lt 9, 3) := by decide +kernel
theorem dX6_feed_4 : decode cX6_feed 4 = .ok (.iload_n 1, 1) := by decide +kernel
theorem dX6_feed_5 : decode cX6_feed 5 = .ok (.bipush 127, 2) := by decide +kernel
theorem dX6_feed_7 : decode cX6_feed 7 = .ok (.if_icmp .le 8, 3) := by decide +kernel
theorem dX6_feed_10 : decode cX6_feed 10 = .ok (.bipush (-2), 2) := by decide +kernel
theorem dX6_feed_12 : decode cX6_feed 12 = .ok (.goto 11, 3) := by decide +kernel
theorem dX6_feed_15 : decode cX6_feed 15 = .ok (.aload_n 0, 1) := by decide +kernel
theorem dX6_feed_16 : decode cX6_feed 16 = .ok (.getfield 42, 3) := by decide +kernel
theorem dX6_feed_19 : decode cX6_feed 19 = .ok (.iload_n 1, 1) := by decide +kernel
theorem dX6_feed_20 : decode cX6_feed 20 = .ok (.invokevirtual 108, 3) := by decide +kernel
theorem dX6_feed_23 : decode cX6_feed 23 = .ok (.ireturn, 1) := by decide +kernel
theorem dX6_read_0 : decode cX6_read 0 = .ok (.aload_n 0, 1) := by decide +kernel
theorem dX6_read_1 : decode cX6_read 1 = .ok (.getfield 42, 3) := by decide +kernel
theorem dX6_read_4 : decode cX6_read 4 = .ok (.invokevirtual 111, 3) := by decide +kernel
theorem dX6_read_7 : decode cX6_read 7 = .ok (.istore_n 1, 1) := by decide +kernel
theorem dX6_read_8 : decode cX6_read 8 = .ok (.aload_n 0, 1) := by decide +kernel
theorem dX6_read_9 : decode cX6_read 9 = .ok (.getfield 42, 3) := by decide +kernel
theorem dX6_read_12 : decode cX6_read 12 = .ok (.invokevirtual 115, 3) := by decide +kernel
theorem dX6_read_15 : decode cX6_read 15 = .ok (.iload_n 1, 1) := by decide +kernel
theorem dX6_read_16 : decode cX6_read 16 = .ok (.ifCond .lt 8, 3) := by decide +kernel
theorem dX6_read_19 : decode cX6_read 19 = .ok (.bipush (-10), 2) := by decide +kernel
theorem dX6_read_21 : decode cX6_read 21 = .ok (.iload_n 1, 1) := by decide +kernel
theorem dX6_read_22 : decode cX6_read 22 = .ok (.isub, 1) := by decide +kernel
theorem dX6_read_23 : decode cX6_read 23 = .ok (.ireturn, 1) := by decide +kernel
theorem dX6_read_24 : decode cX6_read 24 = .ok (.iconst 0, 1) := by decide +kernel
theorem dX6_read_25 : decode cX6_read 25 = .ok (.istore_n 2, 1) := by decide +kernel
theorem dX6_read_26 : decode cX6_read 26 = .ok (.iconst 0, 1) := by decide +kernel
theorem dX6_read_27 : decode cX6_read 27 = .ok (.istore_n 3, 1) := by decide +kernel
theorem dX6_read_28 : decode cX6_read 28 = .ok (.iload_n 3, 1) := by decide +kernel
theorem dX6_read_29 : decode cX6_read 29 = .ok (.aload_n 0, 1) := by decide +kernel
theorem dX6_read_30 : decode cX6_read 30 = .ok (.getfield 42, 3) := by decide +kernel
theorem dX6_read_33 : decode cX6_read 33 = .ok (.invokevirtual 118, 3) := by decide +kernel
theorem dX6_read_36 : decode cX6_read 36 = .ok (.if_icmp .ge 85, 3) := by decide +kernel
theorem dX6_read_39 : decode cX6_read 39 = .ok (.aload_n 0, 1) := by decide +kernel
theorem dX6_read_40 : decode cX6_read 40 = .ok (.getfield 14, 3) := by decide +kernel
theorem dX6_read_43 : decode cX6_read 43 = .ok (.getfield 57, 3) := by decide +kernel
theorem dX6_read_46 : decode cX6_read 46 = .ok (.aload_n 0, 1) := by decide +kernel
theorem dX6_read_47 : decode cX6_read 47 = .ok (.getfield 42, 3) := by decide +kernel
theorem dX6_read_50 : decode cX6_read 50 = .ok (.iload_n 3, 1) := by decide +kernel
theorem dX6_read_51 : decode cX6_read 51 = .ok (.invokevirtual 121, 3) := by decide +kernel
theorem dX6_read_54 : decode cX6_read 54 = .ok (.aload_n 0, 1) := by decide +kernel
theorem dX6_read_55 : decode cX6_read 55 = .ok (.getfield 42, 3) := by decide +kernel
theorem dX6_read_58 : decode cX6_read 58 = .ok (.iload_n 3, 1) := by decide +kernel
theorem dX6_read_59 : decode cX6_read 59 = .ok (.invokevirtual 124, 3) := by decide +kernel
theorem dX6_read_62 : decode cX6_read 62 = .ok (.invokevirtual 60, 3) := by decide +kernel
theorem dX6_read_65 : decode cX6_read 65 = .ok (.istore 4, 2) := by decide +kernel
theorem dX6_read_67 : decode cX6_read 67 = .ok (.iload 4, 2) := by decide +kernel
theorem dX6_read_69 : decode cX6_read 69 = .ok (.ifCond .lt 46, 3) := by decide +kernel
theorem dX6_read_72 : decode cX6_read 72 = .ok (.aload_n 0, 1) := by decide +kernel
theorem dX6_read_73 : decode cX6_read 73 = .ok (.getfield 14, 3) := by decide +kernel
theorem dX6_read_76 : decode cX6_read 76 = .ok (.getfield 57, 3) := by decide +kernel
theorem dX6_read_79 : decode cX6_read 79 = .ok (.iload 4, 2) := by decide +kernel
theorem dX6_read_81 : decode cX6_read 81 = .ok (.aload_n 0, 1) := by decide +kernel
theorem dX6_read_82 : decode cX6_read 82 = .ok (.getfield 42, 3) := by decide +kernel
theorem dX6_read_85 : decode cX6_read 85 = .ok (.iload_n 3, 1) := by decide +kernel
theorem dX6_read_86 : decode cX6_read 86 = .ok (.invokevirtual 127, 3) := by decide +kernel
theorem dX6_read_89 : decode cX6_read 89 = .ok (.invokevirtual 91, 3) := by decide +kernel
theorem dX6_read_92 : decode cX6_read 92 = .ok (.aload_n 0, 1) := by decide +kernel
theorem dX6_read_93 : decode cX6_read 93 = .ok (.getfield 14, 3) := by decide +kernel
theorem dX6_read_96 : decode cX6_read 96 = .ok (.getfield 57, 3) := by decide +kernel
theorem dX6_read_99 : decode cX6_read 99 = .ok (.iload 4, 2) := by decide +kernel
theorem dX6_read_101 : decode cX6_read 101 = .ok (.aload_n 0, 1) := by decide +kernel
theorem dX6_read_102 : decode cX6_read 102 = .ok (.getfield 42, 3) := by decide +kernel
theorem dX6_read_105 : decode cX6_read 105 = .ok (.iload_n 3, 1) := by decide +kernel
theorem dX6_read_106 : decode cX6_read 106 = .ok (.invokevirtual 130, 3) := by decide +kernel
theorem dX6_read_109 : decode cX6_read 109 = .ok (.invokevirtual 98, 3) := by decide +kernel
theorem dX6_read_112 : decode cX6_read 112 = .ok (.iinc 2 1, 3) := by decide +kernel
theorem dX6_read_115 : decode cX6_read 115 = .ok (.iinc 3 1, 3) := by decide +kernel
theorem dX6_read_118 : decode cX6_read 118 = .ok (.goto (-90), 3) := by decide +kernel
theorem dX6_read_121 : decode cX6_read 121 = .ok (.iload_n 2, 1) := by decide +kernel
theorem dX6_read_122 : decode cX6_read 122 = .ok (.ireturn, 1) := by decide +kernel
theorem dX6_of_0 : decode cX6_of 0 = .ok (.aload_n 0, 1) := by decide +kernel
theorem dX6_of_1 : decode cX6_of 1 = .ok (.getfield 14, 3) := by decide +kernel
theorem dX6_of_4 : decode cX6_of 4 = .ok (.getfield 57, 3) := by decide +kernel
theorem dX6_of_7 : decode cX6_of 7 = .ok (.astore_n 3, 1) := by decide +kernel
theorem dX6_of_8 : decode cX6_of 8 = .ok (.aload_n 3, 1) := by decide +kernel
theorem dX6_of_9 : decode cX6_of 9 = .ok (.iload_n 1, 1) := by decide +kernel
theorem dX6_of_10 : decode cX6_of 10 = .ok (.invokevirtual 78, 3) := by decide +kernel
theorem dX6_of_13 : decode cX6_of 13 = .ok (.ifCond .ne 5, 3) := by decide +kernel
theorem dX6_of_16 : decode cX6_of 16 = .ok (.iconst (-1), 1) := by decide +kernel
theorem dX6_of_17 : decode cX6_of 17 = .ok (.ireturn, 1) := by decide +kernel
theorem dX6_of_18 : decode cX6_of 18 = .ok (.iload_n 2, 1) := by decide +kernel
theorem dX6_of_19 : decode cX6_of 19 = .ok (.tableswitch 107 0 7 #[45, 51, 57, 63, 77, 86, 95, 101], 45) := by decide +kernel
theorem dX6_of_64 : decode cX6_of 64 = .ok (.aload_n 3, 1) := by decide +kernel
theorem dX6_of_65 : decode cX6_of 65 = .ok (.iload_n 1, 1) := by decide +kernel
theorem dX6_of_66 : decode cX6_of 66 = .ok (.invokevirtual 133, 3) := by decide +kernel
theorem dX6_of_69 : decode cX6_of 69 = .ok (.ireturn, 1) := by decide +kernel
theorem dX6_of_70 : decode cX6_of 70 = .ok (.aload_n 3, 1) := by decide +kernel
theorem dX6_of_71 : decode cX6_of 71 = .ok (.iload_n 1, 1) := by decide +kernel
theorem dX6_of_72 : decode cX6_of 72 = .ok (.invokevirtual 134, 3) := by decide +kernel
theorem dX6_of_75 : decode cX6_of 75 = .ok (.ireturn, 1) := by decide +kernel
theorem dX6_of_76 : decode cX6_of 76 = .ok (.aload_n 3, 1) := by decide +kernel
theorem dX6_of_77 : decode cX6_of 77 = .ok (.iload_n 1, 1) := by decide +kernel
theorem dX6_of_78 : decode cX6_of 78 = .ok (.invokevirtual 87, 3) := by decide +kernel
theorem dX6_of_81 : decode cX6_of 81 = .ok (.ireturn, 1) := by decide +kernel
theorem dX6_of_82 : decode cX6_of 82 = .ok (.aload_n 3, 1) := by decide +kernel
theorem dX6_of_83 : decode cX6_of 83 = .ok (.iload_n 1, 1) := by decide +kernel
theorem dX6_of_84 : decode cX6_of 84 = .ok (.invokevirtual 84, 3) := by decide +kernel
theorem dX6_of_87 : decode cX6_of 87 = .ok (.ifCond .eq 7, 3) := by decide +kernel
theorem dX6_of_90 : decode cX6_of 90 = .ok (.iconst 1, 1) := by decide +kernel
theorem dX6_of_91 : decode cX6_of 91 = .ok (.goto 4, 3) := by decide +kernel
theorem dX6_of_94 : decode cX6_of 94 = .ok (.iconst 0, 1) := by decide +kernel
theorem dX6_of_95 : decode cX6_of 95 = .ok (.ireturn, 1) := by decide +kernel
theorem dX6_of_96 : decode cX6_of 96 = .ok (.aload_n 3, 1) := by decide +kernel
theorem dX6_of_97 : decode cX6_of 97 = .ok (.iload_n 1, 1) := by decide +kernel
theorem dX6_of_98 : decode cX6_of 98 = .ok (.invokevirtual 135, 3) := by decide +kernel
theorem dX6_of_101 : decode cX6_of 101 = .ok (.invokestatic 138, 3) := by decide +kernel
theorem dX6_of_104 : decode cX6_of 104 = .ok (.ireturn, 1) := by decide +kernel
theorem dX6_of_105 : decode cX6_of 105 = .ok (.aload_n 3, 1) := by decide +kernel
theorem dX6_of_106 : decode cX6_of 106 = .ok (.iload_n 1, 1) := by decide +kernel
theorem dX6_of_107 : decode cX6_of 107 = .ok (.invokevirtual 135, 3) := by decide +kernel
theorem dX6_of_110 : decode cX6_of 110 = .ok (.invokestatic 143, 3) := by decide +kernel
theorem dX6_of_113 : decode cX6_of 113 = .ok (.ireturn, 1) := by decide +kernel
theorem dX6_of_114 : decode cX6_of 114 = .ok (.aload_n 3, 1) := by decide +kernel
theorem dX6_of_115 : decode cX6_of 115 = .ok (.iload_n 1, 1) := by decide +kernel
theorem dX6_of_116 : decode cX6_of 116 = .ok (.invokevirtual 146, 3) := by decide +kernel
theorem dX6_of_119 : decode cX6_of 119 = .ok (.ireturn, 1) := by decide +kernel
theorem dX6_of_120 : decode cX6_of 120 = .ok (.aload_n 3, 1) := by decide +kernel
theorem dX6_of_121 : decode cX6_of 121 = .ok (.iload_n 1, 1) := by decide +kernel
theorem dX6_of_122 : decode cX6_of 122 = .ok (.invokevirtual 149, 3) := by decide +kernel
theorem dX6_of_125 : decode cX6_of 125 = .ok (.ireturn, 1) := by decide +kernel
theorem dX6_of_126 : decode cX6_of 126 = .ok (.iconst (-1), 1) := by decide +kernel
theorem dX6_of_127 : decode cX6_of 127 = .ok (.ireturn, 1) := by decide +kernel
theorem dX6_apart_0 : decode cX6_apart 0 = .ok (.aload_n 0, 1) := by decide +kernel
theorem dX6_apart_1 : decode cX6_apart 1 = .ok (.getfield 14, 3) := by decide +kernel
theorem dX6_apart_4 : decode cX6_apart 4 = .ok (.getfield 57, 3) := by decide +kernel
theorem dX6_apart_7 : decode cX6_apart 7 = .ok (.astore_n 3, 1) := by decide +kernel
theorem dX6_apart_8 : decode cX6_apart 8 = .ok (.iload_n 1, 1) := by decide +kernel
theorem dX6_apart_9 : decode cX6_apart 9 = .ok (.iload_n 2, 1) := by decide +kernel
theorem dX6_apart_10 : decode cX6_apart 10 = .ok (.if_icmp .eq 28, 3) := by decide +kernel
theorem dX6_apart_13 : decode cX6_apart 13 = .ok (.aload_n 3, 1) := by decide +kernel
theorem dX6_apart_14 : decode cX6_apart 14 = .ok (.iload_n 1, 1) := by decide +kernel
theorem dX6_apart_15 : decode cX6_apart 15 = .ok (.invokevirtual 78, 3) := by decide +kernel
theorem dX6_apart_18 : decode cX6_apart 18 = .ok (.ifCond .eq 20, 3) := by decide +kernel
theorem dX6_apart_21 : decode cX6_apart 21 = .ok (.aload_n 3, 1) := by decide +kernel
theorem dX6_apart_22 : decode cX6_apart 22 = .ok (.iload_n 2, 1) := by decide +kernel
theorem dX6_apart_23 : decode cX6_apart 23 = .ok (.invokevirtual 78, 3) := by decide +kernel
theorem dX6_apart_26 : decode cX6_apart 26 = .ok (.ifCond .eq 12, 3) := by decide +kernel
theorem dX6_apart_29 : decode cX6_apart 29 = .ok (.aload_n 3, 1) := by decide +kernel
theorem dX6_apart_30 : decode cX6_apart 30 = .ok (.iload_n 1, 1) := by decide +kernel
theorem dX6_apart_31 : decode cX6_apart 31 = .ok (.iload_n 2, 1) := by decide +kernel
theorem dX6_apart_32 : decode cX6_apart 32 = .ok (.invokevirtual 152, 3) := by decide +kernel
theorem dX6_apart_35 : decode cX6_apart 35 = .ok (.goto 4, 3) := by decide +kernel
theorem dX6_apart_38 : decode cX6_apart 38 = .ok (.iconst (-1), 1) := by decide +kernel
theorem dX6_apart_39 : decode cX6_apart 39 = .ok (.ireturn, 1) := by decide +kernel
theorem dX6_at_0 : decode cX6_at 0 = .ok (.iload_n 1, 1) := by decide +kernel
theorem dX6_at_1 : decode cX6_at 1 = .ok (.iload_n 2, 1) := by decide +kernel
theorem dX6_at_2 : decode cX6_at 2 = .ok (.invokestatic 53, 3) := by decide +kernel
theorem dX6_at_5 : decode cX6_at 5 = .ok (.ifCond .ne 6, 3) := by decide +kernel
theorem dX6_at_8 : decode cX6_at 8 = .ok (.bipush (-2), 2) := by decide +kernel
theorem dX6_at_10 : decode cX6_at 10 = .ok (.ireturn, 1) := by decide +kernel
theorem dX6_at_11 : decode cX6_at 11 = .ok (.aload_n 0, 1) := by decide +kernel
theorem dX6_at_12 : decode cX6_at 12 = .ok (.getfield 14, 3) := by decide +kernel
theorem dX6_at_15 : decode cX6_at 15 = .ok (.getfield 57, 3) := by decide +kernel
theorem dX6_at_18 : decode cX6_at 18 = .ok (.iload_n 1, 1) := by decide +kernel
theorem dX6_at_19 : decode cX6_at 19 = .ok (.iload_n 2, 1) := by decide +kernel
theorem dX6_at_20 : decode cX6_at 20 = .ok (.invokevirtual 102, 3) := by decide +kernel
theorem dX6_at_23 : decode cX6_at 23 = .ok (.istore_n 3, 1) := by decide +kernel
theorem dX6_at_24 : decode cX6_at 24 = .ok (.iload_n 3, 1) := by decide +kernel
theorem dX6_at_25 : decode cX6_at 25 = .ok (.ifCond .ge 8, 3) := by decide +kernel
theorem dX6_at_28 : decode cX6_at 28 = .ok (.bipush (-5), 2) := by decide +kernel
theorem dX6_at_30 : decode cX6_at 30 = .ok (.goto 4, 3) := by decide +kernel
theorem dX6_at_33 : decode cX6_at 33 = .ok (.iload_n 3, 1) := by decide +kernel
theorem dX6_at_34 : decode cX6_at 34 = .ok (.ireturn, 1) := by decide +kernel
theorem dX6_assign_0 : decode cX6_assign 0 = .ok (.aload_n 0, 1) := by decide +kernel
theorem dX6_assign_1 : decode cX6_assign 1 = .ok (.getfield 14, 3) := by decide +kernel
theorem dX6_assign_4 : decode cX6_assign 4 = .ok (.getfield 57, 3) := by decide +kernel
theorem dX6_assign_7 : decode cX6_assign 7 = .ok (.invokevirtual 155, 3) := by decide +kernel
theorem dX6_assign_10 : decode cX6_assign 10 = .ok (.ireturn, 1) := by decide +kernel
theorem dX6_exchange_0 : decode cX6_exchange 0 = .ok (.aload_n 0, 1) := by decide +kernel
theorem dX6_exchange_1 : decode cX6_exchange 1 = .ok (.getfield 14, 3) := by decide +kernel
theorem dX6_exchange_4 : decode cX6_exchange 4 = .ok (.getfield 57, 3) := by decide +kernel
theorem dX6_exchange_7 : decode cX6_exchange 7 = .ok (.astore_n 3, 1) := by decide +kernel
theorem dX6_exchange_8 : decode cX6_exchange 8 = .ok (.aload_n 3, 1) := by decide +kernel
theorem dX6_exchange_9 : decode cX6_exchange 9 = .ok (.iload_n 1, 1) := by decide +kernel
theorem dX6_exchange_10 : decode cX6_exchange 10 = .ok (.invokevirtual 78, 3) := by decide +kernel
theorem dX6_exchange_13 : decode cX6_exchange 13 = .ok (.ifCond .ne 5, 3) := by decide +kernel
theorem dX6_exchange_16 : decode cX6_exchange 16 = .ok (.iconst (-1), 1) := by decide +kernel
theorem dX6_exchange_17 : decode cX6_exchange 17 = .ok (.ireturn, 1) := by decide +kernel
theorem dX6_exchange_18 : decode cX6_exchange 18 = .ok (.iload_n 2, 1) := by decide +kernel
theorem dX6_exchange_19 : decode cX6_exchange 19 = .ok (.invokestatic 81, 3) := by decide +kernel
theorem dX6_exchange_22 : decode cX6_exchange 22 = .ok (.ifCond .ne 6, 3) := by decide +kernel
theorem dX6_exchange_25 : decode cX6_exchange 25 = .ok (.bipush (-2), 2) := by decide +kernel
theorem dX6_exchange_27 : decode cX6_exchange 27 = .ok (.ireturn, 1) := by decide +kernel
theorem dX6_exchange_28 : decode cX6_exchange 28 = .ok (.aload_n 3, 1) := by decide +kernel
theorem dX6_exchange_29 : decode cX6_exchange 29 = .ok (.iload_n 1, 1) := by decide +kernel
theorem dX6_exchange_30 : decode cX6_exchange 30 = .ok (.invokevirtual 95, 3) := by decide +kernel
theorem dX6_exchange_33 : decode cX6_exchange 33 = .ok (.iconst (-1), 1) := by decide +kernel
theorem dX6_exchange_34 : decode cX6_exchange 34 = .ok (.if_icmp .eq 12, 3) := by decide +kernel
theorem dX6_exchange_37 : decode cX6_exchange 37 = .ok (.aload_n 3, 1) := by decide +kernel
theorem dX6_exchange_38 : decode cX6_exchange 38 = .ok (.iload_n 1, 1) := by decide +kernel
theorem dX6_exchange_39 : decode cX6_exchange 39 = .ok (.invokevirtual 95, 3) := by decide +kernel
theorem dX6_exchange_42 : decode cX6_exchange 42 = .ok (.iload_n 2, 1) := by decide +kernel
theorem dX6_exchange_43 : decode cX6_exchange 43 = .ok (.if_icmp .ne 6, 3) := by decide +kernel
theorem dX6_exchange_46 : decode cX6_exchange 46 = .ok (.bipush (-3), 2) := by decide +kernel
theorem dX6_exchange_48 : decode cX6_exchange 48 = .ok (.ireturn, 1) := by decide +kernel
theorem dX6_exchange_49 : decode cX6_exchange 49 = .ok (.aload_n 3, 1) := by decide +kernel
theorem dX6_exchange_50 : decode cX6_exchange 50 = .ok (.iload_n 1, 1) := by decide +kernel
theorem dX6_exchange_51 : decode cX6_exchange 51 = .ok (.iload_n 2, 1) := by decide +kernel
theorem dX6_exchange_52 : decode cX6_exchange 52 = .ok (.invokevirtual 158, 3) := by decide +kernel
theorem dX6_exchange_55 : decode cX6_exchange 55 = .ok (.ireturn, 1) := by decide +kernel
theorem dX6_told_0 : decode cX6_told 0 = .ok (.aload_n 0, 1) := by decide +kernel
theorem dX6_told_1 : decode cX6_told 1 = .ok (.getfield 14, 3) := by decide +kernel
theorem dX6_told_4 : decode cX6_told 4 = .ok (.getfield 57, 3) := by decide +kernel
theorem dX6_told_7 : decode cX6_told 7 = .ok (.astore_n 2, 1) := by decide +kernel
theorem dX6_told_8 : decode cX6_told 8 = .ok (.iload_n 1, 1) := by decide +kernel
theorem dX6_told_9 : decode cX6_told 9 = .ok (.tableswitch 127 0 8 #[51, 56, 61, 66, 75, 84, 109, 114, 122], 51) := by decide +kernel
theorem dX6_told_60 : decode cX6_told 60 = .ok (.aload_n 2, 1) := by decide +kernel
theorem dX6_told_61 : decode cX6_told 61 = .ok (.invokevirtual 161, 3) := by decide +kernel
theorem dX6_told_64 : decode cX6_told 64 = .ok (.ireturn, 1) := by decide +kernel
theorem dX6_told_65 : decode cX6_told 65 = .ok (.aload_n 2, 1) := by decide +kernel
theorem dX6_told_66 : decode cX6_told 66 = .ok (.invokevirtual 164, 3) := by decide +kernel
theorem dX6_told_69 : decode cX6_told 69 = .ok (.ireturn, 1) := by decide +kernel
theorem dX6_told_70 : decode cX6_told 70 = .ok (.aload_n 2, 1) := by decide +kernel
theorem dX6_told_71 : decode cX6_told 71 = .ok (.invokevirtual 167, 3) := by decide +kernel
theorem dX6_told_74 : decode cX6_told 74 = .ok (.ireturn, 1) := by decide +kernel
theorem dX6_told_75 : decode cX6_told 75 = .ok (.aload_n 0, 1) := by decide +kernel
theorem dX6_told_76 : decode cX6_told 76 = .ok (.getfield 35, 3) := by decide +kernel
theorem dX6_told_79 : decode cX6_told 79 = .ok (.aload_n 2, 1) := by decide +kernel
theorem dX6_told_80 : decode cX6_told 80 = .ok (.invokevirtual 170, 3) := by decide +kernel
theorem dX6_told_83 : decode cX6_told 83 = .ok (.ireturn, 1) := by decide +kernel
theorem dX6_told_84 : decode cX6_told 84 = .ok (.aload_n 0, 1) := by decide +kernel
theorem dX6_told_85 : decode cX6_told 85 = .ok (.getfield 35, 3) := by decide +kernel
theorem dX6_told_88 : decode cX6_told 88 = .ok (.aload_n 2, 1) := by decide +kernel
theorem dX6_told_89 : decode cX6_told 89 = .ok (.invokevirtual 174, 3) := by decide +kernel
theorem dX6_told_92 : decode cX6_told 92 = .ok (.ireturn, 1) := by decide +kernel
theorem dX6_told_93 : decode cX6_told 93 = .ok (.aload_n 0, 1) := by decide +kernel
theorem dX6_told_94 : decode cX6_told 94 = .ok (.getfield 35, 3) := by decide +kernel
theorem dX6_told_97 : decode cX6_told 97 = .ok (.aload_n 2, 1) := by decide +kernel
theorem dX6_told_98 : decode cX6_told 98 = .ok (.invokevirtual 174, 3) := by decide +kernel
theorem dX6_told_101 : decode cX6_told 101 = .ok (.aload_n 0, 1) := by decide +kernel
theorem dX6_told_102 : decode cX6_told 102 = .ok (.getfield 35, 3) := by decide +kernel
theorem dX6_told_105 : decode cX6_told 105 = .ok (.aload_n 2, 1) := by decide +kernel
theorem dX6_told_106 : decode cX6_told 106 = .ok (.invokevirtual 170, 3) := by decide +kernel
theorem dX6_told_109 : decode cX6_told 109 = .ok (.if_icmp .ne 7, 3) := by decide +kernel
theorem dX6_told_112 : decode cX6_told 112 = .ok (.iconst 1, 1) := by decide +kernel
theorem dX6_told_113 : decode cX6_told 113 = .ok (.goto 4, 3) := by decide +kernel
theorem dX6_told_116 : decode cX6_told 116 = .ok (.iconst 0, 1) := by decide +kernel
theorem dX6_told_117 : decode cX6_told 117 = .ok (.ireturn, 1) := by decide +kernel
theorem dX6_told_118 : decode cX6_told 118 = .ok (.aload_n 2, 1) := by decide +kernel
theorem dX6_told_119 : decode cX6_told 119 = .ok (.invokevirtual 177, 3) := by decide +kernel
theorem dX6_told_122 : decode cX6_told 122 = .ok (.ireturn, 1) := by decide +kernel
theorem dX6_told_123 : decode cX6_told 123 = .ok (.aload_n 2, 1) := by decide +kernel
theorem dX6_told_124 : decode cX6_told 124 = .ok (.invokevirtual 180, 3) := by decide +kernel
theorem dX6_told_127 : decode cX6_told 127 = .ok (.invokestatic 138, 3) := by decide +kernel
theorem dX6_told_130 : decode cX6_told 130 = .ok (.ireturn, 1) := by decide +kernel
theorem dX6_told_131 : decode cX6_told 131 = .ok (.aload_n 2, 1) := by decide +kernel
theorem dX6_told_132 : decode cX6_told 132 = .ok (.invokevirtual 183, 3) := by decide +kernel
theorem dX6_told_135 : decode cX6_told 135 = .ok (.ireturn, 1) := by decide +kernel
theorem dX6_told_136 : decode cX6_told 136 = .ok (.iconst (-1), 1) := by decide +kernel
theorem dX6_told_137 : decode cX6_told 137 = .ok (.ireturn, 1) := by decide +kernel
theorem dX6_clique_0 : decode cX6_clique 0 = .ok (.iload_n 1, 1) := by decide +kernel
theorem dX6_clique_1 : decode cX6_clique 1 = .ok (.invokestatic 71, 3) := by decide +kernel
theorem dX6_clique_4 : decode cX6_clique 4 = .ok (.ifCond .eq 21, 3) := by decide +kernel
theorem dX6_clique_7 : decode cX6_clique 7 = .ok (.aload_n 0, 1) := by decide +kernel
theorem dX6_clique_8 : decode cX6_clique 8 = .ok (.getfield 35, 3) := by decide +kernel
theorem dX6_clique_11 : decode cX6_clique 11 = .ok (.aload_n 0, 1) := by decide +kernel
theorem dX6_clique_12 : decode cX6_clique 12 = .ok (.getfield 14, 3) := by decide +kernel
theorem dX6_clique_15 : decode cX6_clique 15 = .ok (.getfield 57, 3) := by decide +kernel
theorem dX6_clique_18 : decode cX6_clique 18 = .ok (.iload_n 1, 1) := by decide +kernel
theorem dX6_clique_19 : decode cX6_clique 19 = .ok (.invokevirtual 186, 3) := by decide +kernel
theorem dX6_clique_22 : decode cX6_clique 22 = .ok (.goto 5, 3) := by decide +kernel
theorem dX6_clique_25 : decode cX6_clique 25 = .ok (.bipush (-2), 2) := by decide +kernel
theorem dX6_clique_27 : decode cX6_clique 27 = .ok (.ireturn, 1) := by decide +kernel
theorem dX6_sorted_0 : decode cX6_sorted 0 = .ok (.iload_n 1, 1) := by decide +kernel
theorem dX6_sorted_1 : decode cX6_sorted 1 = .ok (.ifCond .ge 7, 3) := by decide +kernel
theorem dX6_sorted_4 : decode cX6_sorted 4 = .ok (.iconst (-1), 1) := by decide +kernel
theorem dX6_sorted_5 : decode cX6_sorted 5 = .ok (.goto 14, 3) := by decide +kernel
theorem dX6_sorted_8 : decode cX6_sorted 8 = .ok (.aload_n 0, 1) := by decide +kernel
theorem dX6_sorted_9 : decode cX6_sorted 9 = .ok (.getfield 14, 3) := by decide +kernel
theorem dX6_sorted_12 : decode cX6_sorted 12 = .ok (.getfield 57, 3) := by decide +kernel
theorem dX6_sorted_15 : decode cX6_sorted 15 = .ok (.iload_n 1, 1) := by decide +kernel
theorem dX6_sorted_16 : decode cX6_sorted 16 = .ok (.invokevirtual 190, 3) := by decide +kernel
theorem dX6_sorted_19 : decode cX6_sorted 19 = .ok (.ireturn, 1) := by decide +kernel
theorem dX6_see_0 : decode cX6_see 0 = .ok (.iload_n 1, 1) := by decide +kernel
theorem dX6_see_1 : decode cX6_see 1 = .ok (.iconst (-1), 1) := by decide +kernel
theorem dX6_see_2 : decode cX6_see 2 = .ok (.if_icmp .ne 14, 3) := by decide +kernel
theorem dX6_see_5 : decode cX6_see 5 = .ok (.aload_n 0, 1) := by decide +kernel
theorem dX6_see_6 : decode cX6_see 6 = .ok (.getfield 14, 3) := by decide +kernel
theorem dX6_see_9 : decode cX6_see 9 = .ok (.getfield 193, 3) := by decide +kernel
theorem dX6_see_12 : decode cX6_see 12 = .ok (.invokevirtual 197, 3) := by decide +kernel
theorem dX6_see_15 : decode cX6_see 15 = .ok (.ireturn, 1) := by decide +kernel
theorem dX6_see_16 : decode cX6_see 16 = .ok (.aload_n 0, 1) := by decide +kernel
theorem dX6_see_17 : decode cX6_see 17 = .ok (.getfield 14, 3) := by decide +kernel
theorem dX6_see_20 : decode cX6_see 20 = .ok (.getfield 57, 3) := by decide +kernel
theorem dX6_see_23 : decode cX6_see 23 = .ok (.iload_n 1, 1) := by decide +kernel
theorem dX6_see_24 : decode cX6_see 24 = .ok (.invokevirtual 78, 3) := by decide +kernel
theorem dX6_see_27 : decode cX6_see 27 = .ok (.ifCond .ne 5, 3) := by decide +kernel
theorem dX6_see_30 : decode cX6_see 30 = .ok (.iconst (-1), 1) := by decide +kernel
theorem dX6_see_31 : decode cX6_see 31 = .ok (.ireturn, 1) := by decide +kernel
theorem dX6_see_32 : decode cX6_see 32 = .ok (.iload_n 2, 1) := by decide +kernel
theorem dX6_see_33 : decode cX6_see 33 = .ok (.invokestatic 81, 3) := by decide +kernel
theorem dX6_see_36 : decode cX6_see 36 = .ok (.ifCond .eq 18, 3) := by decide +kernel
theorem dX6_see_39 : decode cX6_see 39 = .ok (.aload_n 0, 1) := by decide +kernel
theorem dX6_see_40 : decode cX6_see 40 = .ok (.getfield 14, 3) := by decide +kernel
theorem dX6_see_43 : decode cX6_see 43 = .ok (.getfield 193, 3) := by decide +kernel
theorem dX6_see_46 : decode cX6_see 46 = .ok (.iload_n 1, 1) := by decide +kernel
theorem dX6_see_47 : decode cX6_see 47 = .ok (.iload_n 2, 1) := by decide +kernel
theorem dX6_see_48 : decode cX6_see 48 = .ok (.invokevirtual 201, 3) := by decide +kernel
theorem dX6_see_51 : decode cX6_see 51 = .ok (.goto 5, 3) := by decide +kernel
theorem dX6_see_54 : decode cX6_see 54 = .ok (.bipush (-2), 2) := by decide +kernel
theorem dX6_see_56 : decode cX6_see 56 = .ok (.ireturn, 1) := by decide +kernel
theorem dX6_fits_0 : decode cX6_fits 0 = .ok (.iload_n 1, 1) := by decide +kernel
theorem dX6_fits_1 : decode cX6_fits 1 = .ok (.invokestatic 64, 3) := by decide +kernel
theorem dX6_fits_4 : decode cX6_fits 4 = .ok (.ifCond .eq 12, 3) := by decide +kernel
theorem dX6_fits_7 : decode cX6_fits 7 = .ok (.iload_n 2, 1) := by decide +kernel
theorem dX6_fits_8 : decode cX6_fits 8 = .ok (.ifCond .lt 8, 3) := by decide +kernel
theorem dX6_fits_11 : decode cX6_fits 11 = .ok (.iload_n 2, 1) := by decide +kernel
theorem dX6_fits_12 : decode cX6_fits 12 = .ok (.iconst 1, 1) := by decide +kernel
theorem dX6_fits_13 : decode cX6_fits 13 = .ok (.if_icmp .le 5, 3) := by decide +kernel
theorem dX6_fits_16 : decode cX6_fits 16 = .ok (.iconst (-1), 1) := by decide +kernel
theorem dX6_fits_17 : decode cX6_fits 17 = .ok (.ireturn, 1) := by decide +kernel
theorem dX6_fits_18 : decode cX6_fits 18 = .ok (.aload_n 0, 1) := by decide +kernel
theorem dX6_fits_19 : decode cX6_fits 19 = .ok (.getfield 28, 3) := by decide +kernel
theorem dX6_fits_22 : decode cX6_fits 22 = .ok (.aload_n 0, 1) := by decide +kernel
theorem dX6_fits_23 : decode cX6_fits 23 = .ok (.getfield 14, 3) := by decide +kernel
theorem dX6_fits_26 : decode cX6_fits 26 = .ok (.getfield 57, 3) := by decide +kernel
theorem dX6_fits_29 : decode cX6_fits 29 = .ok (.invokevirtual 203, 3) := by decide +kernel
theorem dX6_fits_32 : decode cX6_fits 32 = .ok (.iconst 0, 1) := by decide +kernel
theorem dX6_fits_33 : decode cX6_fits 33 = .ok (.istore_n 3, 1) := by decide +kernel
theorem dX6_fits_34 : decode cX6_fits 34 = .ok (.bipush (-5), 2) := by decide +kernel
theorem dX6_fits_36 : decode cX6_fits 36 = .ok (.istore 4, 2) := by decide +kernel
theorem dX6_fits_38 : decode cX6_fits 38 = .ok (.iconst 0, 1) := by decide +kernel
theorem dX6_fits_39 : decode cX6_fits 39 = .ok (.istore 5, 2) := by decide +kernel
theorem dX6_fits_41 : decode cX6_fits 41 = .ok (.iconst 1, 1) := by decide +kernel
theorem dX6_fits_42 : decode cX6_fits 42 = .ok (.istore 6, 2) := by decide +kernel
theorem dX6_fits_44 : decode cX6_fits 44 = .ok (.iload 6, 2) := by decide +kernel
theorem dX6_fits_46 : decode cX6_fits 46 = .ok (.bipush 40, 2) := by decide +kernel
theorem dX6_fits_48 : decode cX6_fits 48 = .ok (.if_icmp .gt 96, 3) := by decide +kernel
theorem dX6_fits_51 : decode cX6_fits 51 = .ok (.aload_n 0, 1) := by decide +kernel
theorem dX6_fits_52 : decode cX6_fits 52 = .ok (.getfield 28, 3) := by decide +kernel
theorem dX6_fits_55 : decode cX6_fits 55 = .ok (.iload_n 1, 1) := by decide +kernel
theorem dX6_fits_56 : decode cX6_fits 56 = .ok (.iload 6, 2) := by decide +kernel
theorem dX6_fits_58 : decode cX6_fits 58 = .ok (.invokevirtual 207, 3) := by decide +kernel
theorem dX6_fits_61 : decode cX6_fits 61 = .ok (.ifCond .ne 9, 3) := by decide +kernel
theorem dX6_fits_64 : decode cX6_fits 64 = .ok (.iload 6, 2) := by decide +kernel
theorem dX6_fits_66 : decode cX6_fits 66 = .ok (.iconst 1, 1) := by decide +kernel
theorem dX6_fits_67 : decode cX6_fits 67 = .ok (.if_icmp .ne 37, 3) := by decide +kernel
theorem dX6_fits_70 : decode cX6_fits 70 = .ok (.aload_n 0, 1) := by decide +kernel
theorem dX6_fits_71 : decode cX6_fits 71 = .ok (.getfield 28, 3) := by decide +kernel
theorem dX6_fits_74 : decode cX6_fits 74 = .ok (.invokevirtual 155, 3) := by decide +kernel
theorem dX6_fits_77 : decode cX6_fits 77 = .ok (.pop, 1) := by decide +kernel
theorem dX6_fits_78 : decode cX6_fits 78 = .ok (.aload_n 0, 1) := by decide +kernel
theorem dX6_fits_79 : decode cX6_fits 79 = .ok (.getfield 14, 3) := by decide +kernel
theorem dX6_fits_82 : decode cX6_fits 82 = .ok (.getfield 193, 3) := by decide +kernel
theorem dX6_fits_85 : decode cX6_fits 85 = .ok (.aload_n 0, 1) := by decide +kernel
theorem dX6_fits_86 : decode cX6_fits 86 = .ok (.getfield 28, 3) := by decide +kernel
theorem dX6_fits_89 : decode cX6_fits 89 = .ok (.invokestatic 210, 3) := by decide +kernel
theorem dX6_fits_92 : decode cX6_fits 92 = .ok (.bipush (-5), 2) := by decide +kernel
theorem dX6_fits_94 : decode cX6_fits 94 = .ok (.if_icmp .ne 7, 3) := by decide +kernel
theorem dX6_fits_97 : decode cX6_fits 97 = .ok (.iconst 1, 1) := by decide +kernel
theorem dX6_fits_98 : decode cX6_fits 98 = .ok (.goto 4, 3) := by decide +kernel
theorem dX6_fits_101 : decode cX6_fits 101 = .ok (.iconst 0, 1) := by decide +kernel
theorem dX6_fits_102 : decode cX6_fits 102 = .ok (.istore 5, 2) := by decide +kernel
theorem dX6_fits_104 : decode cX6_fits 104 = .ok (.iload_n 3, 1) := by decide +kernel
theorem dX6_fits_105 : decode cX6_fits 105 = .ok (.iload 5, 2) := by decide +kernel
theorem dX6_fits_107 : decode cX6_fits 107 = .ok (.ifCond .eq 7, 3) := by decide +kernel
theorem dX6_fits_110 : decode cX6_fits 110 = .ok (.iconst 1, 1) := by decide +kernel
theorem dX6_fits_111 : decode cX6_fits 111 = .ok (.goto 4, 3) := by decide +kernel
theorem dX6_fits_114 : decode cX6_fits 114 = .ok (.iconst 0, 1) := by decide +kernel
theorem dX6_fits_115 : decode cX6_fits 115 = .ok (.iadd, 1) := by decide +kernel
theorem dX6_fits_116 : decode cX6_fits 116 = .ok (.istore_n 3, 1) := by decide +kernel
theorem dX6_fits_117 : decode cX6_fits 117 = .ok (.iload 5, 2) := by decide +kernel
theorem dX6_fits_119 : decode cX6_fits 119 = .ok (.ifCond .eq 15, 3) := by decide +kernel
theorem dX6_fits_122 : decode cX6_fits 122 = .ok (.iload 4, 2) := by decide +kernel
theorem dX6_fits_124 : decode cX6_fits 124 = .ok (.bipush (-5), 2) := by decide +kernel
theorem dX6_fits_126 : decode cX6_fits 126 = .ok (.if_icmp .ne 8, 3) := by decide +kernel
theorem dX6_fits_129 : decode cX6_fits 129 = .ok (.iload 6, 2) := by decide +kernel
theorem dX6_fits_131 : decode cX6_fits 131 = .ok (.goto 5, 3) := by decide +kernel
theorem dX6_fits_134 : decode cX6_fits 134 = .ok (.iload 4, 2) := by decide +kernel
theorem dX6_fits_136 : decode cX6_fits 136 = .ok (.istore 4, 2) := by decide +kernel
theorem dX6_fits_138 : decode cX6_fits 138 = .ok (.iinc 6 1, 3) := by decide +kernel
theorem dX6_fits_141 : decode cX6_fits 141 = .ok (.goto (-97), 3) := by decide +kernel
theorem dX6_fits_144 : decode cX6_fits 144 = .ok (.iload_n 2, 1) := by decide +kernel
theorem dX6_fits_145 : decode cX6_fits 145 = .ok (.ifCond .ne 7, 3) := by decide +kernel
theorem dX6_fits_148 : decode cX6_fits 148 = .ok (.iload_n 3, 1) := by decide +kernel
theorem dX6_fits_149 : decode cX6_fits 149 = .ok (.goto 5, 3) := by decide +kernel
theorem dX6_fits_152 : decode cX6_fits 152 = .ok (.iload 4, 2) := by decide +kernel
theorem dX6_fits_154 : decode cX6_fits 154 = .ok (.ireturn, 1) := by decide +kernel
theorem dX6_odds_0 : decode cX6_odds 0 = .ok (.aload_n 0, 1) := by decide +kernel
theorem dX6_odds_1 : decode cX6_odds 1 = .ok (.getfield 14, 3) := by decide +kernel
theorem dX6_odds_4 : decode cX6_odds 4 = .ok (.getfield 57, 3) := by decide +kernel
theorem dX6_odds_7 : decode cX6_odds 7 = .ok (.iload_n 1, 1) := by decide +kernel
theorem dX6_odds_8 : decode cX6_odds 8 = .ok (.invokevirtual 78, 3) := by decide +kernel
theorem dX6_odds_11 : decode cX6_odds 11 = .ok (.ifCond .eq 10, 3) := by decide +kernel
theorem dX6_odds_14 : decode cX6_odds 14 = .ok (.iload_n 2, 1) := by decide +kernel
theorem dX6_odds_15 : decode cX6_odds 15 = .ok (.invokestatic 214, 3) := by decide +kernel
theorem dX6_odds_18 : decode cX6_odds 18 = .ok (.ifCond .ne 7, 3) := by decide +kernel
theorem dX6_odds_21 : decode cX6_odds 21 = .ok (.ldc2_w 217, 3) := by decide +kernel
theorem dX6_odds_24 : decode cX6_odds 24 = .ok (.lreturn, 1) := by decide +kernel
theorem dX6_odds_25 : decode cX6_odds 25 = .ok (.aload_n 0, 1) := by decide +kernel
theorem dX6_odds_26 : decode cX6_odds 26 = .ok (.getfield 28, 3) := by decide +kernel
theorem dX6_odds_29 : decode cX6_odds 29 = .ok (.aload_n 0, 1) := by decide +kernel
theorem dX6_odds_30 : decode cX6_odds 30 = .ok (.getfield 14, 3) := by decide +kernel
theorem dX6_odds_33 : decode cX6_odds 33 = .ok (.getfield 57, 3) := by decide +kernel
theorem dX6_odds_36 : decode cX6_odds 36 = .ok (.invokevirtual 203, 3) := by decide +kernel
theorem dX6_odds_39 : decode cX6_odds 39 = .ok (.iconst 0, 1) := by decide +kernel
theorem dX6_odds_40 : decode cX6_odds 40 = .ok (.istore_n 3, 1) := by decide +kernel
theorem dX6_odds_41 : decode cX6_odds 41 = .ok (.iconst 0, 1) := by decide +kernel
theorem dX6_odds_42 : decode cX6_odds 42 = .ok (.istore 4, 2) := by decide +kernel
theorem dX6_odds_44 : decode cX6_odds 44 = .ok (.iload 4, 2) := by decide +kernel
theorem dX6_odds_46 : decode cX6_odds 46 = .ok (.bipush 10, 2) := by decide +kernel
theorem dX6_odds_48 : decode cX6_odds 48 = .ok (.if_icmp .ge 51, 3) := by decide +kernel
theorem dX6_odds_51 : decode cX6_odds 51 = .ok (.aload_n 0, 1) := by decide +kernel
theorem dX6_odds_52 : decode cX6_odds 52 = .ok (.getfield 28, 3) := by decide +kernel
theorem dX6_odds_55 : decode cX6_odds 55 = .ok (.iload_n 1, 1) := by decide +kernel
theorem dX6_odds_56 : decode cX6_odds 56 = .ok (.iload 4, 2) := by decide +kernel
theorem dX6_odds_58 : decode cX6_odds 58 = .ok (.invokevirtual 91, 3) := by decide +kernel
theorem dX6_odds_61 : decode cX6_odds 61 = .ok (.aload_n 0, 1) := by decide +kernel
theorem dX6_odds_62 : decode cX6_odds 62 = .ok (.getfield 28, 3) := by decide +kernel
theorem dX6_odds_65 : decode cX6_odds 65 = .ok (.iload_n 1, 1) := by decide +kernel
theorem dX6_odds_66 : decode cX6_odds 66 = .ok (.iconst 1, 1) := by decide +kernel
theorem dX6_odds_67 : decode cX6_odds 67 = .ok (.invokevirtual 98, 3) := by decide +kernel
theorem dX6_odds_70 : decode cX6_odds 70 = .ok (.aload_n 0, 1) := by decide +kernel
theorem dX6_odds_71 : decode cX6_odds 71 = .ok (.getfield 28, 3) := by decide +kernel
theorem dX6_odds_74 : decode cX6_odds 74 = .ok (.invokevirtual 155, 3) := by decide +kernel
theorem dX6_odds_77 : decode cX6_odds 77 = .ok (.ifCond .ne 16, 3) := by decide +kernel
theorem dX6_odds_80 : decode cX6_odds 80 = .ok (.aload_n 0, 1) := by decide +kernel
theorem dX6_odds_81 : decode cX6_odds 81 = .ok (.getfield 28, 3) := by decide +kernel
theorem dX6_odds_84 : decode cX6_odds 84 = .ok (.invokevirtual 167, 3) := by decide +kernel
theorem dX6_odds_87 : decode cX6_odds 87 = .ok (.ifCond .ne 6, 3) := by decide +kernel
theorem dX6_odds_90 : decode cX6_odds 90 = .ok (.iinc 3 1, 3) := by decide +kernel
theorem dX6_odds_93 : decode cX6_odds 93 = .ok (.iinc 4 1, 3) := by decide +kernel
theorem dX6_odds_96 : decode cX6_odds 96 = .ok (.goto (-52), 3) := by decide +kernel
theorem dX6_odds_99 : decode cX6_odds 99 = .ok (.iload_n 3, 1) := by decide +kernel
theorem dX6_odds_100 : decode cX6_odds 100 = .ok (.bipush 10, 2) := by decide +kernel
theorem dX6_odds_102 : decode cX6_odds 102 = .ok (.iload_n 2, 1) := by decide +kernel
theorem dX6_odds_103 : decode cX6_odds 103 = .ok (.invokestatic 219, 3) := by decide +kernel
theorem dX6_odds_106 : decode cX6_odds 106 = .ok (.lreturn, 1) := by decide +kernel
theorem dX6_mean_0 : decode cX6_mean 0 = .ok (.aload_n 0, 1) := by decide +kernel
theorem dX6_mean_1 : decode cX6_mean 1 = .ok (.getfield 14, 3) := by decide +kernel
theorem dX6_mean_4 : decode cX6_mean 4 = .ok (.getfield 57, 3) := by decide +kernel
theorem dX6_mean_7 : decode cX6_mean 7 = .ok (.invokevirtual 177, 3) := by decide +kernel
theorem dX6_mean_10 : decode cX6_mean 10 = .ok (.istore_n 2, 1) := by decide +kernel
theorem dX6_mean_11 : decode cX6_mean 11 = .ok (.iload_n 1, 1) := by decide +kernel
theorem dX6_mean_12 : decode cX6_mean 12 = .ok (.invokestatic 214, 3) := by decide +kernel
theorem dX6_mean_15 : decode cX6_mean 15 = .ok (.ifCond .eq 25, 3) := by decide +kernel
theorem dX6_mean_18 : decode cX6_mean 18 = .ok (.iload_n 2, 1) := by decide +kernel
theorem dX6_mean_19 : decode cX6_mean 19 = .ok (.ifCond .le 21, 3) := by decide +kernel
theorem dX6_mean_22 : decode cX6_mean 22 = .ok (.aload_n 0, 1) := by decide +kernel
theorem dX6_mean_23 : decode cX6_mean 23 = .ok (.getfield 14, 3) := by decide +kernel
theorem dX6_mean_26 : decode cX6_mean 26 = .ok (.getfield 57, 3) := by decide +kernel
theorem dX6_mean_29 : decode cX6_mean 29 = .ok (.invokevirtual 223, 3) := by decide +kernel
theorem dX6_mean_32 : decode cX6_mean 32 = .ok (.iload_n 2, 1) := by decide +kernel
theorem dX6_mean_33 : decode cX6_mean 33 = .ok (.iload_n 1, 1) := by decide +kernel
theorem dX6_mean_34 : decode cX6_mean 34 = .ok (.invokestatic 219, 3) := by decide +kernel
theorem dX6_mean_37 : decode cX6_mean 37 = .ok (.goto 6, 3) := by decide +kernel
theorem dX6_mean_40 : decode cX6_mean 40 = .ok (.ldc2_w 217, 3) := by decide +kernel
theorem dX6_mean_43 : decode cX6_mean 43 = .ok (.lreturn, 1) := by decide +kernel
theorem dX6_plan_0 : decode cX6_plan 0 = .ok (.iload_n 1, 1) := by decide +kernel
theorem dX6_plan_1 : decode cX6_plan 1 = .ok (.iconst (-1), 1) := by decide +kernel
theorem dX6_plan_2 : decode cX6_plan 2 = .ok (.if_icmp .ne 14, 3) := by decide +kernel
theorem dX6_plan_5 : decode cX6_plan 5 = .ok (.aload_n 0, 1) := by decide +kernel
theorem dX6_plan_6 : decode cX6_plan 6 = .ok (.getfield 14, 3) := by decide +kernel
theorem dX6_plan_9 : decode cX6_plan 9 = .ok (.getfield 226, 3) := by decide +kernel
theorem dX6_plan_12 : decode cX6_plan 12 = .ok (.invokevirtual 197, 3) := by decide +kernel
theorem dX6_plan_15 : decode cX6_plan 15 = .ok (.ireturn, 1) := by decide +kernel
theorem dX6_plan_16 : decode cX6_plan 16 = .ok (.iload_n 1, 1) := by decide +kernel
theorem dX6_plan_17 : decode cX6_plan 17 = .ok (.ifCond .lt 8, 3) := by decide +kernel
theorem dX6_plan_20 : decode cX6_plan 20 = .ok (.iload_n 1, 1) := by decide +kernel
theorem dX6_plan_21 : decode cX6_plan 21 = .ok (.iconst 3, 1) := by decide +kernel
theorem dX6_plan_22 : decode cX6_plan 22 = .ok (.if_icmp .le 5, 3) := by decide +kernel
theorem dX6_plan_25 : decode cX6_plan 25 = .ok (.iconst (-1), 1) := by decide +kernel
theorem dX6_plan_26 : decode cX6_plan 26 = .ok (.ireturn, 1) := by decide +kernel
theorem dX6_plan_27 : decode cX6_plan 27 = .ok (.iload_n 1, 1) := by decide +kernel
theorem dX6_plan_28 : decode cX6_plan 28 = .ok (.iconst 1, 1) := by decide +kernel
theorem dX6_plan_29 : decode cX6_plan 29 = .ok (.if_icmp .eq 8, 3) := by decide +kernel
theorem dX6_plan_32 : decode cX6_plan 32 = .ok (.iload_n 1, 1) := by decide +kernel
theorem dX6_plan_33 : decode cX6_plan 33 = .ok (.iconst 3, 1) := by decide +kernel
theorem dX6_plan_34 : decode cX6_plan 34 = .ok (.if_icmp .ne 19, 3) := by decide +kernel
theorem dX6_plan_37 : decode cX6_plan 37 = .ok (.aload_n 0, 1) := by decide +kernel
theorem dX6_plan_38 : decode cX6_plan 38 = .ok (.getfield 14, 3) := by decide +kernel
theorem dX6_plan_41 : decode cX6_plan 41 = .ok (.getfield 57, 3) := by decide +kernel
theorem dX6_plan_44 : decode cX6_plan 44 = .ok (.iload_n 2, 1) := by decide +kernel
theorem dX6_plan_45 : decode cX6_plan 45 = .ok (.invokevirtual 78, 3) := by decide +kernel
theorem dX6_plan_48 : decode cX6_plan 48 = .ok (.ifCond .ne 5, 3) := by decide +kernel
theorem dX6_plan_51 : decode cX6_plan 51 = .ok (.iconst (-1), 1) := by decide +kernel
theorem dX6_plan_52 : decode cX6_plan 52 = .ok (.ireturn, 1) := by decide +kernel
theorem dX6_plan_53 : decode cX6_plan 53 = .ok (.iload_n 1, 1) := by decide +kernel
theorem dX6_plan_54 : decode cX6_plan 54 = .ok (.iconst 2, 1) := by decide +kernel
theorem dX6_plan_55 : decode cX6_plan 55 = .ok (.if_icmp .ne 13, 3) := by decide +kernel
theorem dX6_plan_58 : decode cX6_plan 58 = .ok (.iload_n 2, 1) := by decide +kernel
theorem dX6_plan_59 : decode cX6_plan 59 = .ok (.invokestatic 68, 3) := by decide +kernel
theorem dX6_plan_62 : decode cX6_plan 62 = .ok (.ifCond .ne 6, 3) := by decide +kernel
theorem dX6_plan_65 : decode cX6_plan 65 = .ok (.bipush (-2), 2) := by decide +kernel
theorem dX6_plan_67 : decode cX6_plan 67 = .ok (.ireturn, 1) := by decide +kernel
theorem dX6_plan_68 : decode cX6_plan 68 = .ok (.aload_n 0, 1) := by decide +kernel
theorem dX6_plan_69 : decode cX6_plan 69 = .ok (.getfield 14, 3) := by decide +kernel
theorem dX6_plan_72 : decode cX6_plan 72 = .ok (.getfield 226, 3) := by decide +kernel
theorem dX6_plan_75 : decode cX6_plan 75 = .ok (.iload_n 1, 1) := by decide +kernel
theorem dX6_plan_76 : decode cX6_plan 76 = .ok (.iload_n 2, 1) := by decide +kernel
theorem dX6_plan_77 : decode cX6_plan 77 = .ok (.invokevirtual 201, 3) := by decide +kernel
theorem dX6_plan_80 : decode cX6_plan 80 = .ok (.ireturn, 1) := by decide +kernel
theorem dX6_ends_0 : decode cX6_ends 0 = .ok (.iload_n 1, 1) := by decide +kernel
theorem dX6_ends_1 : decode cX6_ends 1 = .ok (.ifCond .lt 8, 3) := by decide +kernel
theorem dX6_ends_4 : decode cX6_ends 4 = .ok (.iload_n 1, 1) := by decide +kernel
theorem dX6_ends_5 : decode cX6_ends 5 = .ok (.iconst 1, 1) := by decide +kernel
theorem dX6_ends_6 : decode cX6_ends 6 = .ok (.if_icmp .le 5, 3) := by decide +kernel
theorem dX6_ends_9 : decode cX6_ends 9 = .ok (.iconst (-1), 1) := by decide +kernel
theorem dX6_ends_10 : decode cX6_ends 10 = .ok (.ireturn, 1) := by decide +kernel
theorem dX6_ends_11 : decode cX6_ends 11 = .ok (.aload_n 0, 1) := by decide +kernel
theorem dX6_ends_12 : decode cX6_ends 12 = .ok (.getfield 28, 3) := by decide +kernel
theorem dX6_ends_15 : decode cX6_ends 15 = .ok (.aload_n 0, 1) := by decide +kernel
theorem dX6_ends_16 : decode cX6_ends 16 = .ok (.getfield 14, 3) := by decide +kernel
theorem dX6_ends_19 : decode cX6_ends 19 = .ok (.getfield 57, 3) := by decide +kernel
theorem dX6_ends_22 : decode cX6_ends 22 = .ok (.invokevirtual 203, 3) := by decide +kernel
theorem dX6_ends_25 : decode cX6_ends 25 = .ok (.iconst 0, 1) := by decide +kernel
theorem dX6_ends_26 : decode cX6_ends 26 = .ok (.istore_n 2, 1) := by decide +kernel
theorem dX6_ends_27 : decode cX6_ends 27 = .ok (.iload_n 2, 1) := by decide +kernel
theorem dX6_ends_28 : decode cX6_ends 28 = .ok (.aload_n 0, 1) := by decide +kernel
theorem dX6_ends_29 : decode cX6_ends 29 = .ok (.getfield 14, 3) := by decide +kernel
theorem dX6_ends_32 : decode cX6_ends 32 = .ok (.getfield 226, 3) := by decide +kernel
theorem dX6_ends_35 : decode cX6_ends 35 = .ok (.invokevirtual 229, 3) := by decide +kernel
theorem dX6_ends_38 : decode cX6_ends 38 = .ok (.if_icmp .ge 35, 3) := by decide +kernel
theorem dX6_ends_41 : decode cX6_ends 41 = .ok (.aload_n 0, 1) := by decide +kernel
theorem dX6_ends_42 : decode cX6_ends 42 = .ok (.aload_n 0, 1) := by decide +kernel
theorem dX6_ends_43 : decode cX6_ends 43 = .ok (.getfield 14, 3) := by decide +kernel
theorem dX6_ends_46 : decode cX6_ends 46 = .ok (.getfield 226, 3) := by decide +kernel
theorem dX6_ends_49 : decode cX6_ends 49 = .ok (.iload_n 2, 1) := by decide +kernel
theorem dX6_ends_50 : decode cX6_ends 50 = .ok (.invokevirtual 230, 3) := by decide +kernel
theorem dX6_ends_53 : decode cX6_ends 53 = .ok (.aload_n 0, 1) := by decide +kernel
theorem dX6_ends_54 : decode cX6_ends 54 = .ok (.getfield 14, 3) := by decide +kernel
theorem dX6_ends_57 : decode cX6_ends 57 = .ok (.getfield 226, 3) := by decide +kernel
theorem dX6_ends_60 : decode cX6_ends 60 = .ok (.iload_n 2, 1) := by decide +kernel
theorem dX6_ends_61 : decode cX6_ends 61 = .ok (.invokevirtual 233, 3) := by decide +kernel
theorem dX6_ends_64 : decode cX6_ends 64 = .ok (.invokevirtual 236, 3) := by decide +kernel
theorem dX6_ends_67 : decode cX6_ends 67 = .ok (.iinc 2 1, 3) := by decide +kernel
theorem dX6_ends_70 : decode cX6_ends 70 = .ok (.goto (-43), 3) := by decide +kernel
theorem dX6_ends_73 : decode cX6_ends 73 = .ok (.iload_n 1, 1) := by decide +kernel
theorem dX6_ends_74 : decode cX6_ends 74 = .ok (.ifCond .ne 13, 3) := by decide +kernel
theorem dX6_ends_77 : decode cX6_ends 77 = .ok (.aload_n 0, 1) := by decide +kernel
theorem dX6_ends_78 : decode cX6_ends 78 = .ok (.getfield 28, 3) := by decide +kernel
theorem dX6_ends_81 : decode cX6_ends 81 = .ok (.invokevirtual 164, 3) := by decide +kernel
theorem dX6_ends_84 : decode cX6_ends 84 = .ok (.goto 10, 3) := by decide +kernel
theorem dX6_ends_87 : decode cX6_ends 87 = .ok (.aload_n 0, 1) := by decide +kernel
theorem dX6_ends_88 : decode cX6_ends 88 = .ok (.getfield 28, 3) := by decide +kernel
theorem dX6_ends_91 : decode cX6_ends 91 = .ok (.invokevirtual 167, 3) := by decide +kernel
theorem dX6_ends_94 : decode cX6_ends 94 = .ok (.ireturn, 1) := by decide +kernel
theorem dX6_goAhead_0 : decode cX6_goAhead 0 = .ok (.iload_n 1, 1) := by decide +kernel
theorem dX6_goAhead_1 : decode cX6_goAhead 1 = .ok (.tableswitch 63 0 2 #[27, 38, 50], 27) := by decide +kernel
theorem dX6_goAhead_28 : decode cX6_goAhead 28 = .ok (.aload_n 0, 1) := by decide +kernel
theorem dX6_goAhead_29 : decode cX6_goAhead 29 = .ok (.getfield 28, 3) := by decide +kernel
theorem dX6_goAhead_32 : decode cX6_goAhead 32 = .ok (.invokevirtual 155, 3) := by decide +kernel
theorem dX6_goAhead_35 : decode cX6_goAhead 35 = .ok (.pop, 1) := by decide +kernel
theorem dX6_goAhead_36 : decode cX6_goAhead 36 = .ok (.goto 37, 3) := by decide +kernel
theorem dX6_goAhead_39 : decode cX6_goAhead 39 = .ok (.aload_n 0, 1) := by decide +kernel
theorem dX6_goAhead_40 : decode cX6_goAhead 40 = .ok (.getfield 28, 3) := by decide +kernel
theorem dX6_goAhead_43 : decode cX6_goAhead 43 = .ok (.iload_n 2, 1) := by decide +kernel
theorem dX6_goAhead_44 : decode cX6_goAhead 44 = .ok (.iconst (-1), 1) := by decide +kernel
theorem dX6_goAhead_45 : decode cX6_goAhead 45 = .ok (.invokevirtual 91, 3) := by decide +kernel
theorem dX6_goAhead_48 : decode cX6_goAhead 48 = .ok (.goto 25, 3) := by decide +kernel
theorem dX6_goAhead_51 : decode cX6_goAhead 51 = .ok (.aload_n 0, 1) := by decide +kernel
theorem dX6_goAhead_52 : decode cX6_goAhead 52 = .ok (.getfield 28, 3) := by decide +kernel
theorem dX6_goAhead_55 : decode cX6_goAhead 55 = .ok (.iconst 0, 1) := by decide +kernel
theorem dX6_goAhead_56 : decode cX6_goAhead 56 = .ok (.iload_n 2, 1) := by decide +kernel
theorem dX6_goAhead_57 : decode cX6_goAhead 57 = .ok (.invokevirtual 207, 3) := by decide +kernel
theorem dX6_goAhead_60 : decode cX6_goAhead 60 = .ok (.pop, 1) := by decide +kernel
theorem dX6_goAhead_61 : decode cX6_goAhead 61 = .ok (.goto 12, 3) := by decide +kernel
theorem dX6_goAhead_64 : decode cX6_goAhead 64 = .ok (.aload_n 0, 1) := by decide +kernel
theorem dX6_goAhead_65 : decode cX6_goAhead 65 = .ok (.getfield 28, 3) := by decide +kernel
theorem dX6_goAhead_68 : decode cX6_goAhead 68 = .ok (.iload_n 2, 1) := by decide +kernel
theorem dX6_goAhead_69 : decode cX6_goAhead 69 = .ok (.iconst 1, 1) := by decide +kernel
theorem dX6_goAhead_70 : decode cX6_goAhead 70 = .ok (.invokevirtual 98, 3) := by decide +kernel
theorem dX6_goAhead_73 : decode cX6_goAhead 73 = .ok (.return_, 1) := by decide +kernel
theorem dX6_book_0 : decode cX6_book 0 = .ok (.iload_n 1, 1) := by decide +kernel
theorem dX6_book_1 : decode cX6_book 1 = .ok (.iconst (-1), 1) := by decide +kernel
theorem dX6_book_2 : decode cX6_book 2 = .ok (.if_icmp .ne 14, 3) := by decide +kernel
theorem dX6_book_5 : decode cX6_book 5 = .ok (.aload_n 0, 1) := by decide +kernel
theorem dX6_book_6 : decode cX6_book 6 = .ok (.getfield 14, 3) := by decide +kernel
theorem dX6_book_9 : decode cX6_book 9 = .ok (.getfield 239, 3) := by decide +kernel
theorem dX6_book_12 : decode cX6_book 12 = .ok (.invokevirtual 197, 3) := by decide +kernel
theorem dX6_book_15 : decode cX6_book 15 = .ok (.ireturn, 1) := by decide +kernel
theorem dX6_book_16 : decode cX6_book 16 = .ok (.aload_n 0, 1) := by decide +kernel
theorem dX6_book_17 : decode cX6_book 17 = .ok (.getfield 14, 3) := by decide +kernel
theorem dX6_book_20 : decode cX6_book 20 = .ok (.getfield 57, 3) := by decide +kernel
theorem dX6_book_23 : decode cX6_book 23 = .ok (.iload_n 1, 1) := by decide +kernel
theorem dX6_book_24 : decode cX6_book 24 = .ok (.invokevirtual 78, 3) := by decide +kernel
theorem dX6_book_27 : decode cX6_book 27 = .ok (.ifCond .ne 5, 3) := by decide +kernel
theorem dX6_book_30 : decode cX6_book 30 = .ok (.iconst (-1), 1) := by decide +kernel
theorem dX6_book_31 : decode cX6_book 31 = .ok (.ireturn, 1) := by decide +kernel
theorem dX6_book_32 : decode cX6_book 32 = .ok (.iload_n 2, 1) := by decide +kernel
theorem dX6_book_33 : decode cX6_book 33 = .ok (.iconst (-1), 1) := by decide +kernel
theorem dX6_book_34 : decode cX6_book 34 = .ok (.if_icmp .eq 13, 3) := by decide +kernel
theorem dX6_book_37 : decode cX6_book 37 = .ok (.iload_n 2, 1) := by decide +kernel
theorem dX6_book_38 : decode cX6_book 38 = .ok (.invokestatic 81, 3) := by decide +kernel
theorem dX6_book_41 : decode cX6_book 41 = .ok (.ifCond .ne 6, 3) := by decide +kernel
theorem dX6_book_44 : decode cX6_book 44 = .ok (.bipush (-2), 2) := by decide +kernel
theorem dX6_book_46 : decode cX6_book 46 = .ok (.ireturn, 1) := by decide +kernel
theorem dX6_book_47 : decode cX6_book 47 = .ok (.aload_n 0, 1) := by decide +kernel
theorem dX6_book_48 : decode cX6_book 48 = .ok (.getfield 14, 3) := by decide +kernel
theorem dX6_book_51 : decode cX6_book 51 = .ok (.getfield 239, 3) := by decide +kernel
theorem dX6_book_54 : decode cX6_book 54 = .ok (.iload_n 1, 1) := by decide +kernel
theorem dX6_book_55 : decode cX6_book 55 = .ok (.iload_n 2, 1) := by decide +kernel
theorem dX6_book_56 : decode cX6_book 56 = .ok (.invokevirtual 201, 3) := by decide +kernel
theorem dX6_book_59 : decode cX6_book 59 = .ok (.ireturn, 1) := by decide +kernel
theorem dX6_looked_0 : decode cX6_looked 0 = .ok (.aload_n 0, 1) := by decide +kernel
theorem dX6_looked_1 : decode cX6_looked 1 = .ok (.getfield 14, 3) := by decide +kernel
theorem dX6_looked_4 : decode cX6_looked 4 = .ok (.getfield 239, 3) := by decide +kernel
theorem dX6_looked_7 : decode cX6_looked 7 = .ok (.aload_n 0, 1) := by decide +kernel
theorem dX6_looked_8 : decode cX6_looked 8 = .ok (.getfield 14, 3) := by decide +kernel
theorem dX6_looked_11 : decode cX6_looked 11 = .ok (.getfield 57, 3) := by decide +kernel
theorem dX6_looked_14 : decode cX6_looked 14 = .ok (.invokestatic 210, 3) := by decide +kernel
theorem dX6_looked_17 : decode cX6_looked 17 = .ok (.ireturn, 1) := by decide +kernel
theorem dX6_judge_0 : decode cX6_judge 0 = .ok (.iload_n 1, 1) := by decide +kernel
theorem dX6_judge_1 : decode cX6_judge 1 = .ok (.invokestatic 242, 3) := by decide +kernel
theorem dX6_judge_4 : decode cX6_judge 4 = .ok (.ifCond .ne 5, 3) := by decide +kernel
theorem dX6_judge_7 : decode cX6_judge 7 = .ok (.iconst (-1), 1) := by decide +kernel
theorem dX6_judge_8 : decode cX6_judge 8 = .ok (.ireturn, 1) := by decide +kernel
theorem dX6_judge_9 : decode cX6_judge 9 = .ok (.aload_n 0, 1) := by decide +kernel
theorem dX6_judge_10 : decode cX6_judge 10 = .ok (.getfield 48, 3) := by decide +kernel
theorem dX6_judge_13 : decode cX6_judge 13 = .ok (.iload_n 1, 1) := by decide +kernel
theorem dX6_judge_14 : decode cX6_judge 14 = .ok (.aaload, 1) := by decide +kernel
theorem dX6_judge_15 : decode cX6_judge 15 = .ok (.astore_n 3, 1) := by decide +kernel
theorem dX6_judge_16 : decode cX6_judge 16 = .ok (.aload_n 3, 1) := by decide +kernel
theorem dX6_judge_17 : decode cX6_judge 17 = .ok (.invokevirtual 245, 3) := by decide +kernel
theorem dX6_judge_20 : decode cX6_judge 20 = .ok (.ifCond .ne 13, 3) := by decide +kernel
theorem dX6_judge_23 : decode cX6_judge 23 = .ok (.aload_n 3, 1) := by decide +kernel
theorem dX6_judge_24 : decode cX6_judge 24 = .ok (.invokevirtual 249, 3) := by decide +kernel
theorem dX6_judge_27 : decode cX6_judge 27 = .ok (.ifCond .eq 6, 3) := by decide +kernel
theorem dX6_judge_30 : decode cX6_judge 30 = .ok (.bipush (-12), 2) := by decide +kernel
theorem dX6_judge_32 : decode cX6_judge 32 = .ok (.ireturn, 1) := by decide +kernel
theorem dX6_judge_33 : decode cX6_judge 33 = .ok (.iconst 0, 1) := by decide +kernel
theorem dX6_judge_34 : decode cX6_judge 34 = .ok (.istore 4, 2) := by decide +kernel
theorem dX6_judge_36 : decode cX6_judge 36 = .ok (.iload 4, 2) := by decide +kernel
theorem dX6_judge_38 : decode cX6_judge 38 = .ok (.aload_n 0, 1) := by decide +kernel
theorem dX6_judge_39 : decode cX6_judge 39 = .ok (.getfield 14, 3) := by decide +kernel
theorem dX6_judge_42 : decode cX6_judge 42 = .ok (.getfield 57, 3) := by decide +kernel
theorem dX6_judge_45 : decode cX6_judge 45 = .ok (.invokevirtual 161, 3) := by decide +kernel
theorem dX6_judge_48 : decode cX6_judge 48 = .ok (.if_icmp .ge 54, 3) := by decide +kernel
theorem dX6_judge_51 : decode cX6_judge 51 = .ok (.aload_n 3, 1) := by decide +kernel
theorem dX6_judge_52 : decode cX6_judge 52 = .ok (.iload_n 2, 1) := by decide +kernel
theorem dX6_judge_53 : decode cX6_judge 53 = .ok (.iload 4, 2) := by decide +kernel
theorem dX6_judge_55 : decode cX6_judge 55 = .ok (.iadd, 1) := by decide +kernel
theorem dX6_judge_56 : decode cX6_judge 56 = .ok (.invokevirtual 252, 3) := by decide +kernel
theorem dX6_judge_59 : decode cX6_judge 59 = .ok (.ifCond .ne 9, 3) := by decide +kernel
theorem dX6_judge_62 : decode cX6_judge 62 = .ok (.bipush 100, 2) := by decide +kernel
theorem dX6_judge_64 : decode cX6_judge 64 = .ok (.iload 4, 2) := by decide +kernel
theorem dX6_judge_66 : decode cX6_judge 66 = .ok (.iadd, 1) := by decide +kernel
theorem dX6_judge_67 : decode cX6_judge 67 = .ok (.ireturn, 1) := by decide +kernel
theorem dX6_judge_68 : decode cX6_judge 68 = .ok (.aload_n 3, 1) := by decide +kernel
theorem dX6_judge_69 : decode cX6_judge 69 = .ok (.iload_n 2, 1) := by decide +kernel
theorem dX6_judge_70 : decode cX6_judge 70 = .ok (.iload 4, 2) := by decide +kernel
theorem dX6_judge_72 : decode cX6_judge 72 = .ok (.iadd, 1) := by decide +kernel
theorem dX6_judge_73 : decode cX6_judge 73 = .ok (.invokevirtual 255, 3) := by decide +kernel
theorem dX6_judge_76 : decode cX6_judge 76 = .ok (.aload_n 0, 1) := by decide +kernel
theorem dX6_judge_77 : decode cX6_judge 77 = .ok (.getfield 14, 3) := by decide +kernel
theorem dX6_judge_80 : decode cX6_judge 80 = .ok (.getfield 57, 3) := by decide +kernel
theorem dX6_judge_83 : decode cX6_judge 83 = .ok (.iload 4, 2) := by decide +kernel
theorem dX6_judge_85 : decode cX6_judge 85 = .ok (.invokevirtual 95, 3) := by decide +kernel
theorem dX6_judge_88 : decode cX6_judge 88 = .ok (.i2l, 1) := by decide +kernel
theorem dX6_judge_89 : decode cX6_judge 89 = .ok (.lcmp, 1) := by decide +kernel
theorem dX6_judge_90 : decode cX6_judge 90 = .ok (.ifCond .eq 6, 3) := by decide +kernel
theorem dX6_judge_93 : decode cX6_judge 93 = .ok (.iload 4, 2) := by decide +kernel
theorem dX6_judge_95 : decode cX6_judge 95 = .ok (.ireturn, 1) := by decide +kernel
theorem dX6_judge_96 : decode cX6_judge 96 = .ok (.iinc 4 1, 3) := by decide +kernel
theorem dX6_judge_99 : decode cX6_judge 99 = .ok (.goto (-63), 3) := by decide +kernel
theorem dX6_judge_102 : decode cX6_judge 102 = .ok (.bipush (-5), 2) := by decide +kernel
theorem dX6_judge_104 : decode cX6_judge 104 = .ok (.ireturn, 1) := by decide +kernel
theorem dX6_image_0 : decode cX6_image 0 = .ok (.aload_n 0, 1) := by decide +kernel
theorem dX6_image_1 : decode cX6_image 1 = .ok (.getfield 18, 3) := by decide +kernel
theorem dX6_image_4 : decode cX6_image 4 = .ok (.aload_n 0, 1) := by decide +kernel
theorem dX6_image_5 : decode cX6_image 5 = .ok (.getfield 14, 3) := by decide +kernel
theorem dX6_image_8 : decode cX6_image 8 = .ok (.invokevirtual 259, 3) := by decide +kernel
theorem dX6_image_11 : decode cX6_image 11 = .ok (.aload_n 0, 1) := by decide +kernel
theorem dX6_image_12 : decode cX6_image 12 = .ok (.iconst 1, 1) := by decide +kernel
theorem dX6_image_13 : decode cX6_image 13 = .ok (.putfield 21, 3) := by decide +kernel
theorem dX6_image_16 : decode cX6_image 16 = .ok (.aload_n 0, 1) := by decide +kernel
theorem dX6_image_17 : decode cX6_image 17 = .ok (.getfield 18, 3) := by decide +kernel
theorem dX6_image_20 : decode cX6_image 20 = .ok (.getfield 57, 3) := by decide +kernel
theorem dX6_image_23 : decode cX6_image 23 = .ok (.invokevirtual 161, 3) := by decide +kernel
theorem dX6_image_26 : decode cX6_image 26 = .ok (.ireturn, 1) := by decide +kernel
theorem dX6_undo_0 : decode cX6_undo 0 = .ok (.aload_n 0, 1) := by decide +kernel
theorem dX6_undo_1 : decode cX6_undo 1 = .ok (.getfield 21, 3) := by decide +kernel
theorem dX6_undo_4 : decode cX6_undo 4 = .ok (.ifCond .ne 6, 3) := by decide +kernel
theorem dX6_undo_7 : decode cX6_undo 7 = .ok (.bipush (-3), 2) := by decide +kernel
theorem dX6_undo_9 : decode cX6_undo 9 = .ok (.ireturn, 1) := by decide +kernel
theorem dX6_undo_10 : decode cX6_undo 10 = .ok (.aload_n 0, 1) := by decide +kernel
theorem dX6_undo_11 : decode cX6_undo 11 = .ok (.getfield 14, 3) := by decide +kernel
theorem dX6_undo_14 : decode cX6_undo 14 = .ok (.aload_n 0, 1) := by decide +kernel
theorem dX6_undo_15 : decode cX6_undo 15 = .ok (.getfield 18, 3) := by decide +kernel
theorem dX6_undo_18 : decode cX6_undo 18 = .ok (.invokevirtual 259, 3) := by decide +kernel
theorem dX6_undo_21 : decode cX6_undo 21 = .ok (.aload_n 0, 1) := by decide +kernel
theorem dX6_undo_22 : decode cX6_undo 22 = .ok (.getfield 14, 3) := by decide +kernel
theorem dX6_undo_25 : decode cX6_undo 25 = .ok (.getfield 57, 3) := by decide +kernel
theorem dX6_undo_28 : decode cX6_undo 28 = .ok (.invokevirtual 161, 3) := by decide +kernel
theorem dX6_undo_31 : decode cX6_undo 31 = .ok (.ireturn, 1) := by decide +kernel
theorem dX6_count_0 : decode cX6_count 0 = .ok (.iload_n 1, 1) := by decide +kernel
theorem dX6_count_1 : decode cX6_count 1 = .ok (.tableswitch 102 0 5 #[39, 50, 61, 72, 83, 94], 39) := by decide +kernel
theorem dX6_count_40 : decode cX6_count 40 = .ok (.aload_n 0, 1) := by decide +kernel
theorem dX6_count_41 : decode cX6_count 41 = .ok (.getfield 14, 3) := by decide +kernel
theorem dX6_count_44 : decode cX6_count 44 = .ok (.getfield 57, 3) := by decide +kernel
theorem dX6_count_47 : decode cX6_count 47 = .ok (.invokevirtual 161, 3) := by decide +kernel
theorem dX6_count_50 : decode cX6_count 50 = .ok (.ireturn, 1) := by decide +kernel
theorem dX6_count_51 : decode cX6_count 51 = .ok (.aload_n 0, 1) := by decide +kernel
theorem dX6_count_52 : decode cX6_count 52 = .ok (.getfield 14, 3) := by decide +kernel
theorem dX6_count_55 : decode cX6_count 55 = .ok (.getfield 57, 3) := by decide +kernel
theorem dX6_count_58 : decode cX6_count 58 = .ok (.invokevirtual 262, 3) := by decide +kernel
theorem dX6_count_61 : decode cX6_count 61 = .ok (.ireturn, 1) := by decide +kernel
theorem dX6_count_62 : decode cX6_count 62 = .ok (.aload_n 0, 1) := by decide +kernel
theorem dX6_count_63 : decode cX6_count 63 = .ok (.getfield 14, 3) := by decide +kernel
theorem dX6_count_66 : decode cX6_count 66 = .ok (.getfield 193, 3) := by decide +kernel
theorem dX6_count_69 : decode cX6_count 69 = .ok (.invokevirtual 229, 3) := by decide +kernel
theorem dX6_count_72 : decode cX6_count 72 = .ok (.ireturn, 1) := by decide +kernel
theorem dX6_count_73 : decode cX6_count 73 = .ok (.aload_n 0, 1) := by decide +kernel
theorem dX6_count_74 : decode cX6_count 74 = .ok (.getfield 14, 3) := by decide +kernel
theorem dX6_count_77 : decode cX6_count 77 = .ok (.getfield 226, 3) := by decide +kernel
theorem dX6_count_80 : decode cX6_count 80 = .ok (.invokevirtual 229, 3) := by decide +kernel
theorem dX6_count_83 : decode cX6_count 83 = .ok (.ireturn, 1) := by decide +kernel
theorem dX6_count_84 : decode cX6_count 84 = .ok (.aload_n 0, 1) := by decide +kernel
theorem dX6_count_85 : decode cX6_count 85 = .ok (.getfield 14, 3) := by decide +kernel
theorem dX6_count_88 : decode cX6_count 88 = .ok (.getfield 239, 3) := by decide +kernel
theorem dX6_count_91 : decode cX6_count 91 = .ok (.invokevirtual 229, 3) := by decide +kernel
theorem dX6_count_94 : decode cX6_count 94 = .ok (.ireturn, 1) := by decide +kernel
theorem dX6_count_95 : decode cX6_count 95 = .ok (.aload_n 0, 1) := by decide +kernel
theorem dX6_count_96 : decode cX6_count 96 = .ok (.getfield 42, 3) := by decide +kernel
theorem dX6_count_99 : decode cX6_count 99 = .ok (.invokevirtual 265, 3) := by decide +kernel
theorem dX6_count_102 : decode cX6_count 102 = .ok (.ireturn, 1) := by decide +kernel
theorem dX6_count_103 : decode cX6_count 103 = .ok (.bipush (-2), 2) := by decide +kernel
theorem dX6_count_105 : decode cX6_count 105 = .ok (.ireturn, 1) := by decide +kernel
theorem dX6_tape_0 : decode cX6_tape 0 = .ok (.iload_n 1, 1) := by decide +kernel
theorem dX6_tape_1 : decode cX6_tape 1 = .ok (.invokestatic 242, 3) := by decide +kernel
theorem dX6_tape_4 : decode cX6_tape 4 = .ok (.ifCond .ne 5, 3) := by decide +kernel
theorem dX6_tape_7 : decode cX6_tape 7 = .ok (.iconst (-1), 1) := by decide +kernel
theorem dX6_tape_8 : decode cX6_tape 8 = .ok (.ireturn, 1) := by decide +kernel
theorem dX6_tape_9 : decode cX6_tape 9 = .ok (.iload_n 2, 1) := by decide +kernel
theorem dX6_tape_10 : decode cX6_tape 10 = .ok (.iconst (-1), 1) := by decide +kernel
theorem dX6_tape_11 : decode cX6_tape 11 = .ok (.if_icmp .ne 16, 3) := by decide +kernel
theorem dX6_tape_14 : decode cX6_tape 14 = .ok (.aload_n 0, 1) := by decide +kernel
theorem dX6_tape_15 : decode cX6_tape 15 = .ok (.getfield 48, 3) := by decide +kernel
theorem dX6_tape_18 : decode cX6_tape 18 = .ok (.iload_n 1, 1) := by decide +kernel
theorem dX6_tape_19 : decode cX6_tape 19 = .ok (.aaload, 1) := by decide +kernel
theorem dX6_tape_20 : decode cX6_tape 20 = .ok (.iconst (-1), 1) := by decide +kernel
theorem dX6_tape_21 : decode cX6_tape 21 = .ok (.iconst 0, 1) := by decide +kernel
theorem dX6_tape_22 : decode cX6_tape 22 = .ok (.invokevirtual 268, 3) := by decide +kernel
theorem dX6_tape_25 : decode cX6_tape 25 = .ok (.iconst 1, 1) := by decide +kernel
theorem dX6_tape_26 : decode cX6_tape 26 = .ok (.ireturn, 1) := by decide +kernel
theorem dX6_tape_27 : decode cX6_tape 27 = .ok (.iload_n 2, 1) := by decide +kernel
theorem dX6_tape_28 : decode cX6_tape 28 = .ok (.ifCond .lt 14, 3) := by decide +kernel
theorem dX6_tape_31 : decode cX6_tape 31 = .ok (.iload_n 2, 1) := by decide +kernel
theorem dX6_tape_32 : decode cX6_tape 32 = .ok (.iconst 4, 1) := by decide +kernel
theorem dX6_tape_33 : decode cX6_tape 33 = .ok (.if_icmp .gt 9, 3) := by decide +kernel
theorem dX6_tape_36 : decode cX6_tape 36 = .ok (.iload_n 3, 1) := by decide +kernel
theorem dX6_tape_37 : decode cX6_tape 37 = .ok (.bipush 60, 2) := by decide +kernel
theorem dX6_tape_39 : decode cX6_tape 39 = .ok (.if_icmp .le 6, 3) := by decide +kernel
theorem dX6_tape_42 : decode cX6_tape 42 = .ok (.bipush (-2), 2) := by decide +kernel
theorem dX6_tape_44 : decode cX6_tape 44 = .ok (.ireturn, 1) := by decide +kernel
theorem dX6_tape_45 : decode cX6_tape 45 = .ok (.iload_n 3, 1) := by decide +kernel
theorem dX6_tape_46 : decode cX6_tape 46 = .ok (.ifCond .ge 6, 3) := by decide +kernel
theorem dX6_tape_49 : decode cX6_tape 49 = .ok (.bipush (-14), 2) := by decide +kernel
theorem dX6_tape_51 : decode cX6_tape 51 = .ok (.ireturn, 1) := by decide +kernel
theorem dX6_tape_52 : decode cX6_tape 52 = .ok (.aload_n 0, 1) := by decide +kernel
theorem dX6_tape_53 : decode cX6_tape 53 = .ok (.getfield 48, 3) := by decide +kernel
theorem dX6_tape_56 : decode cX6_tape 56 = .ok (.iload_n 1, 1) := by decide +kernel
theorem dX6_tape_57 : decode cX6_tape 57 = .ok (.aaload, 1) := by decide +kernel
theorem dX6_tape_58 : decode cX6_tape 58 = .ok (.iload_n 2, 1) := by decide +kernel
theorem dX6_tape_59 : decode cX6_tape 59 = .ok (.iload_n 3, 1) := by decide +kernel
theorem dX6_tape_60 : decode cX6_tape 60 = .ok (.invokevirtual 268, 3) := by decide +kernel
theorem dX6_tape_63 : decode cX6_tape 63 = .ok (.iconst 1, 1) := by decide +kernel
theorem dX6_tape_64 : decode cX6_tape 64 = .ok (.ireturn, 1) := by decide +kernel
theorem dX6_item_0 : decode cX6_item 0 = .ok (.iload_n 1, 1) := by decide +kernel
theorem dX6_item_1 : decode cX6_item 1 = .ok (.invokestatic 242, 3) := by decide +kernel
theorem dX6_item_4 : decode cX6_item 4 = .ok (.ifCond .ne 5, 3) := by decide +kernel
theorem dX6_item_7 : decode cX6_item 7 = .ok (.iconst (-1), 1) := by decide +kernel
theorem dX6_item_8 : decode cX6_item 8 = .ok (.ireturn, 1) := by decide +kernel
theorem dX6_item_9 : decode cX6_item 9 = .ok (.aload_n 0, 1) := by decide +kernel
theorem dX6_item_10 : decode cX6_item 10 = .ok (.getfield 48, 3) := by decide +kernel
theorem dX6_item_13 : decode cX6_item 13 = .ok (.iload_n 1, 1) := by decide +kernel
theorem dX6_item_14 : decode cX6_item 14 = .ok (.aaload, 1) := by decide +kernel
theorem dX6_item_15 : decode cX6_item 15 = .ok (.astore 5, 2) := by decide +kernel
theorem dX6_item_17 : decode cX6_item 17 = .ok (.aload 5, 2) := by decide +kernel
theorem dX6_item_19 : decode cX6_item 19 = .ok (.invokevirtual 245, 3) := by decide +kernel
theorem dX6_item_22 : decode cX6_item 22 = .ok (.ifCond .eq 6, 3) := by decide +kernel
theorem dX6_item_25 : decode cX6_item 25 = .ok (.bipush (-11), 2) := by decide +kernel
theorem dX6_item_27 : decode cX6_item 27 = .ok (.ireturn, 1) := by decide +kernel
theorem dX6_item_28 : decode cX6_item 28 = .ok (.aload 5, 2) := by decide +kernel
theorem dX6_item_30 : decode cX6_item 30 = .ok (.iload_n 2, 1) := by decide +kernel
theorem dX6_item_31 : decode cX6_item 31 = .ok (.invokevirtual 252, 3) := by decide +kernel
theorem dX6_item_34 : decode cX6_item 34 = .ok (.ifCond .ne 6, 3) := by decide +kernel
theorem dX6_item_37 : decode cX6_item 37 = .ok (.bipush (-13), 2) := by decide +kernel
theorem dX6_item_39 : decode cX6_item 39 = .ok (.ireturn, 1) := by decide +kernel
theorem dX6_item_40 : decode cX6_item 40 = .ok (.aload 5, 2) := by decide +kernel
theorem dX6_item_42 : decode cX6_item 42 = .ok (.iload_n 2, 1) := by decide +kernel
theorem dX6_item_43 : decode cX6_item 43 = .ok (.lload_n 3, 1) := by decide +kernel
theorem dX6_item_44 : decode cX6_item 44 = .ok (.invokevirtual 271, 3) := by decide +kernel
theorem dX6_item_47 : decode cX6_item 47 = .ok (.iconst 1, 1) := by decide +kernel
theorem dX6_item_48 : decode cX6_item 48 = .ok (.ireturn, 1) := by decide +kernel
theorem dX6_peek_0 : decode cX6_peek 0 = .ok (.iload_n 1, 1) := by decide +kernel
theorem dX6_peek_1 : decode cX6_peek 1 = .ok (.invokestatic 242, 3) := by decide +kernel
theorem dX6_peek_4 : decode cX6_peek 4 = .ok (.ifCond .eq 29, 3) := by decide +kernel
theorem dX6_peek_7 : decode cX6_peek 7 = .ok (.aload_n 0, 1) := by decide +kernel
theorem dX6_peek_8 : decode cX6_peek 8 = .ok (.getfield 48, 3) := by decide +kernel
theorem dX6_peek_11 : decode cX6_peek 11 = .ok (.iload_n 1, 1) := by decide +kernel
theorem dX6_peek_12 : decode cX6_peek 12 = .ok (.aaload, 1) := by decide +kernel
theorem dX6_peek_13 : decode cX6_peek 13 = .ok (.iload_n 2, 1) := by decide +kernel
theorem dX6_peek_14 : decode cX6_peek 14 = .ok (.invokevirtual 252, 3) := by decide +kernel
theorem dX6_peek_17 : decode cX6_peek 17 = .ok (.ifCond .eq 16, 3) := by decide +kernel
theorem dX6_peek_20 : decode cX6_peek 20 = .ok (.aload_n 0, 1) := by decide +kernel
theorem dX6_peek_21 : decode cX6_peek 21 = .ok (.getfield 48, 3) := by decide +kernel
theorem dX6_peek_24 : decode cX6_peek 24 = .ok (.iload_n 1, 1) := by decide +kernel
theorem dX6_peek_25 : decode cX6_peek 25 = .ok (.aaload, 1) := by decide +kernel
theorem dX6_peek_26 : decode cX6_peek 26 = .ok (.iload_n 2, 1) := by decide +kernel
theorem dX6_peek_27 : decode cX6_peek 27 = .ok (.invokevirtual 255, 3) := by decide +kernel
theorem dX6_peek_30 : decode cX6_peek 30 = .ok (.goto 6, 3) := by decide +kernel
theorem dX6_peek_33 : decode cX6_peek 33 = .ok (.ldc2_w 217, 3) := by decide +kernel
theorem dX6_peek_36 : decode cX6_peek 36 = .ok (.lreturn, 1) := by decide +kernel
theorem dX6_shift_0 : decode cX6_shift 0 = .ok (.iload_n 1, 1) := by decide +kernel
theorem dX6_shift_1 : decode cX6_shift 1 = .ok (.invokestatic 242, 3) := by decide +kernel
theorem dX6_shift_4 : decode cX6_shift 4 = .ok (.ifCond .eq 10, 3) := by decide +kernel
theorem dX6_shift_7 : decode cX6_shift 7 = .ok (.iload_n 3, 1) := by decide +kernel
theorem dX6_shift_8 : decode cX6_shift 8 = .ok (.invokestatic 242, 3) := by decide +kernel
theorem dX6_shift_11 : decode cX6_shift 11 = .ok (.ifCond .ne 5, 3) := by decide +kernel
theorem dX6_shift_14 : decode cX6_shift 14 = .ok (.iconst (-1), 1) := by decide +kernel
theorem dX6_shift_15 : decode cX6_shift 15 = .ok (.ireturn, 1) := by decide +kernel
theorem dX6_shift_16 : decode cX6_shift 16 = .ok (.aload_n 0, 1) := by decide +kernel
theorem dX6_shift_17 : decode cX6_shift 17 = .ok (.getfield 48, 3) := by decide +kernel
theorem dX6_shift_20 : decode cX6_shift 20 = .ok (.iload_n 1, 1) := by decide +kernel
theorem dX6_shift_21 : decode cX6_shift 21 = .ok (.aaload, 1) := by decide +kernel
theorem dX6_shift_22 : decode cX6_shift 22 = .ok (.astore 6, 2) := by decide +kernel
theorem dX6_shift_24 : decode cX6_shift 24 = .ok (.aload_n 0, 1) := by decide +kernel
theorem dX6_shift_25 : decode cX6_shift 25 = .ok (.getfield 48, 3) := by decide +kernel
theorem dX6_shift_28 : decode cX6_shift 28 = .ok (.iload_n 3, 1) := by decide +kernel
theorem dX6_shift_29 : decode cX6_shift 29 = .ok (.aaload, 1) := by decide +kernel
theorem dX6_shift_30 : decode cX6_shift 30 = .ok (.astore 7, 2) := by decide +kernel
theorem dX6_shift_32 : decode cX6_shift 32 = .ok (.aload 6, 2) := by decide +kernel
theorem dX6_shift_34 : decode cX6_shift 34 = .ok (.invokevirtual 245, 3) := by decide +kernel
theorem dX6_shift_37 : decode cX6_shift 37 = .ok (.ifCond .ne 11, 3) := by decide +kernel
theorem dX6_shift_40 : decode cX6_shift 40 = .ok (.aload 7, 2) := by decide +kernel
theorem dX6_shift_42 : decode cX6_shift 42 = .ok (.invokevirtual 245, 3) := by decide +kernel
theorem dX6_shift_45 : decode cX6_shift 45 = .ok (.ifCond .eq 6, 3) := by decide +kernel
theorem dX6_shift_48 : decode cX6_shift 48 = .ok (.bipush (-11), 2) := by decide +kernel
theorem dX6_shift_50 : decode cX6_shift 50 = .ok (.ireturn, 1) := by decide +kernel
theorem dX6_shift_51 : decode cX6_shift 51 = .ok (.aload 6, 2) := by decide +kernel
theorem dX6_shift_53 : decode cX6_shift 53 = .ok (.invokevirtual 249, 3) := by decide +kernel
theorem dX6_shift_56 : decode cX6_shift 56 = .ok (.aload 7, 2) := by decide +kernel
theorem dX6_shift_58 : decode cX6_shift 58 = .ok (.invokevirtual 249, 3) := by decide +kernel
theorem dX6_shift_61 : decode cX6_shift 61 = .ok (.if_icmp .eq 6, 3) := by decide +kernel
theorem dX6_shift_64 : decode cX6_shift 64 = .ok (.bipush (-12), 2) := by decide +kernel
theorem dX6_shift_66 : decode cX6_shift 66 = .ok (.ireturn, 1) := by decide +kernel
theorem dX6_shift_67 : decode cX6_shift 67 = .ok (.aload 6, 2) := by decide +kernel
theorem dX6_shift_69 : decode cX6_shift 69 = .ok (.iload_n 2, 1) := by decide +kernel
theorem dX6_shift_70 : decode cX6_shift 70 = .ok (.iload 5, 2) := by decide +kernel
theorem dX6_shift_72 : decode cX6_shift 72 = .ok (.invokevirtual 275, 3) := by decide +kernel
theorem dX6_shift_75 : decode cX6_shift 75 = .ok (.ifCond .eq 15, 3) := by decide +kernel
theorem dX6_shift_78 : decode cX6_shift 78 = .ok (.aload 7, 2) := by decide +kernel
theorem dX6_shift_80 : decode cX6_shift 80 = .ok (.iload 4, 2) := by decide +kernel
theorem dX6_shift_82 : decode cX6_shift 82 = .ok (.iload 5, 2) := by decide +kernel
theorem dX6_shift_84 : decode cX6_shift 84 = .ok (.invokevirtual 275, 3) := by decide +kernel
theorem dX6_shift_87 : decode cX6_shift 87 = .ok (.ifCond .ne 6, 3) := by decide +kernel
theorem dX6_shift_90 : decode cX6_shift 90 = .ok (.bipush (-13), 2) := by decide +kernel
theorem dX6_shift_92 : decode cX6_shift 92 = .ok (.ireturn, 1) := by decide +kernel
theorem dX6_shift_93 : decode cX6_shift 93 = .ok (.aload 7, 2) := by decide +kernel
theorem dX6_shift_95 : decode cX6_shift 95 = .ok (.iload 4, 2) := by decide +kernel
theorem dX6_shift_97 : decode cX6_shift 97 = .ok (.aload 6, 2) := by decide +kernel
theorem dX6_shift_99 : decode cX6_shift 99 = .ok (.iload_n 2, 1) := by decide +kernel
theorem dX6_shift_100 : decode cX6_shift 100 = .ok (.iload 5, 2) := by decide +kernel
theorem dX6_shift_102 : decode cX6_shift 102 = .ok (.invokevirtual 278, 3) := by decide +kernel
theorem dX6_shift_105 : decode cX6_shift 105 = .ok (.iload 5, 2) := by decide +kernel
theorem dX6_shift_107 : decode cX6_shift 107 = .ok (.ireturn, 1) := by decide +kernel
theorem dX6_isOnPlane_0 : decode cX6_isOnPlane 0 = .ok (.iload_n 0, 1) := by decide +kernel
theorem dX6_isOnPlane_1 : decode cX6_isOnPlane 1 = .ok (.ifCond .lt 23, 3) := by decide +kernel
theorem dX6_isOnPlane_4 : decode cX6_isOnPlane 4 = .ok (.iload_n 0, 1) := by decide +kernel
theorem dX6_isOnPlane_5 : decode cX6_isOnPlane 5 = .ok (.bipush 32, 2) := by decide +kernel
theorem dX6_isOnPlane_7 : decode cX6_isOnPlane 7 = .ok (.if_icmp .ge 17, 3) := by decide +kernel
theorem dX6_isOnPlane_10 : decode cX6_isOnPlane 10 = .ok (.iload_n 1, 1) := by decide +kernel
theorem dX6_isOnPlane_11 : decode cX6_isOnPlane 11 = .ok (.ifCond .lt 13, 3) := by decide +kernel
theorem dX6_isOnPlane_14 : decode cX6_isOnPlane 14 = .ok (.iload_n 1, 1) := by decide +kernel
theorem dX6_isOnPlane_15 : decode cX6_isOnPlane 15 = .ok (.bipush 32, 2) := by decide +kernel
theorem dX6_isOnPlane_17 : decode cX6_isOnPlane 17 = .ok (.if_icmp .ge 7, 3) := by decide +kernel
theorem dX6_isOnPlane_20 : decode cX6_isOnPlane 20 = .ok (.iconst 1, 1) := by decide +kernel
theorem dX6_isOnPlane_21 : decode cX6_isOnPlane 21 = .ok (.goto 4, 3) := by decide +kernel
theorem dX6_isOnPlane_24 : decode cX6_isOnPlane 24 = .ok (.iconst 0, 1) := by decide +kernel
theorem dX6_isOnPlane_25 : decode cX6_isOnPlane 25 = .ok (.ireturn, 1) := by decide +kernel
theorem dX6_isChannel_0 : decode cX6_isChannel 0 = .ok (.iload_n 0, 1) := by decide +kernel
theorem dX6_isChannel_1 : decode cX6_isChannel 1 = .ok (.ifCond .lt 13, 3) := by decide +kernel
theorem dX6_isChannel_4 : decode cX6_isChannel 4 = .ok (.iload_n 0, 1) := by decide +kernel
theorem dX6_isChannel_5 : decode cX6_isChannel 5 = .ok (.bipush 20, 2) := by decide +kernel
theorem dX6_isChannel_7 : decode cX6_isChannel 7 = .ok (.if_icmp .ge 7, 3) := by decide +kernel
theorem dX6_isChannel_10 : decode cX6_isChannel 10 = .ok (.iconst 1, 1) := by decide +kernel
theorem dX6_isChannel_11 : decode cX6_isChannel 11 = .ok (.goto 4, 3) := by decide +kernel
theorem dX6_isChannel_14 : decode cX6_isChannel 14 = .ok (.iconst 0, 1) := by decide +kernel
theorem dX6_isChannel_15 : decode cX6_isChannel 15 = .ok (.ireturn, 1) := by decide +kernel
theorem dX6_isRule_0 : decode cX6_isRule 0 = .ok (.iload_n 0, 1) := by decide +kernel
theorem dX6_isRule_1 : decode cX6_isRule 1 = .ok (.ifCond .lt 12, 3) := by decide +kernel
theorem dX6_isRule_4 : decode cX6_isRule 4 = .ok (.iload_n 0, 1) := by decide +kernel
theorem dX6_isRule_5 : decode cX6_isRule 5 = .ok (.iconst 3, 1) := by decide +kernel
theorem dX6_isRule_6 : decode cX6_isRule 6 = .ok (.if_icmp .ge 7, 3) := by decide +kernel
theorem dX6_isRule_9 : decode cX6_isRule 9 = .ok (.iconst 1, 1) := by decide +kernel
theorem dX6_isRule_10 : decode cX6_isRule 10 = .ok (.goto 4, 3) := by decide +kernel
theorem dX6_isRule_13 : decode cX6_isRule 13 = .ok (.iconst 0, 1) := by decide +kernel
theorem dX6_isRule_14 : decode cX6_isRule 14 = .ok (.ireturn, 1) := by decide +kernel
theorem dX6_isNear_0 : decode cX6_isNear 0 = .ok (.iload_n 0, 1) := by decide +kernel
theorem dX6_isNear_1 : decode cX6_isNear 1 = .ok (.ifCond .lt 13, 3) := by decide +kernel
theorem dX6_isNear_4 : decode cX6_isNear 4 = .ok (.iload_n 0, 1) := by decide +kernel
theorem dX6_isNear_5 : decode cX6_isNear 5 = .ok (.bipush 40, 2) := by decide +kernel
theorem dX6_isNear_7 : decode cX6_isNear 7 = .ok (.if_icmp .gt 7, 3) := by decide +kernel
theorem dX6_isNear_10 : decode cX6_isNear 10 = .ok (.iconst 1, 1) := by decide +kernel
theorem dX6_isNear_11 : decode cX6_isNear 11 = .ok (.goto 4, 3) := by decide +kernel
theorem dX6_isNear_14 : decode cX6_isNear 14 = .ok (.iconst 0, 1) := by decide +kernel
theorem dX6_isNear_15 : decode cX6_isNear 15 = .ok (.ireturn, 1) := by decide +kernel
theorem dX6_isGap_0 : decode cX6_isGap 0 = .ok (.iload_n 0, 1) := by decide +kernel
theorem dX6_isGap_1 : decode cX6_isGap 1 = .ok (.iconst 1, 1) := by decide +kernel
theorem dX6_isGap_2 : decode cX6_isGap 2 = .ok (.if_icmp .lt 12, 3) := by decide +kernel
theorem dX6_isGap_5 : decode cX6_isGap 5 = .ok (.iload_n 0, 1) := by decide +kernel
theorem dX6_isGap_6 : decode cX6_isGap 6 = .ok (.iconst 4, 1) := by decide +kernel
theorem dX6_isGap_7 : decode cX6_isGap 7 = .ok (.if_icmp .gt 7, 3) := by decide +kernel
theorem dX6_isGap_10 : decode cX6_isGap 10 = .ok (.iconst 1, 1) := by decide +kernel
theorem dX6_isGap_11 : decode cX6_isGap 11 = .ok (.goto 4, 3) := by decide +kernel
theorem dX6_isGap_14 : decode cX6_isGap 14 = .ok (.iconst 0, 1) := by decide +kernel
theorem dX6_isGap_15 : decode cX6_isGap 15 = .ok (.ireturn, 1) := by decide +kernel
theorem dX6_isPart_0 : decode cX6_isPart 0 = .ok (.iload_n 0, 1) := by decide +kernel
theorem dX6_isPart_1 : decode cX6_isPart 1 = .ok (.ifCond .eq 8, 3) := by decide +kernel
theorem dX6_isPart_4 : decode cX6_isPart 4 = .ok (.iload_n 0, 1) := by decide +kernel
theorem dX6_isPart_5 : decode cX6_isPart 5 = .ok (.iconst 1, 1) := by decide +kernel
theorem dX6_isPart_6 : decode cX6_isPart 6 = .ok (.if_icmp .ne 7, 3) := by decide +kernel
theorem dX6_isPart_9 : decode cX6_isPart 9 = .ok (.iconst 1, 1) := by decide +kernel
theorem dX6_isPart_10 : decode cX6_isPart 10 = .ok (.goto 4, 3) := by decide +kernel
theorem dX6_isPart_13 : decode cX6_isPart 13 = .ok (.iconst 0, 1) := by decide +kernel
theorem dX6_isPart_14 : decode cX6_isPart 14 = .ok (.ireturn, 1) := by decide +kernel
theorem dX6_isTape_0 : decode cX6_isTape 0 = .ok (.iload_n 0, 1) := by decide +kernel
theorem dX6_isTape_1 : decode cX6_isTape 1 = .ok (.ifCond .lt 13, 3) := by decide +kernel
theorem dX6_isTape_4 : decode cX6_isTape 4 = .ok (.iload_n 0, 1) := by decide +kernel
theorem dX6_isTape_5 : decode cX6_isTape 5 = .ok (.bipush 6, 2) := by decide +kernel
theorem dX6_isTape_7 : decode cX6_isTape 7 = .ok (.if_icmp .ge 7, 3) := by decide +kernel
theorem dX6_isTape_10 : decode cX6_isTape 10 = .ok (.iconst 1, 1) := by decide +kernel
theorem dX6_isTape_11 : decode cX6_isTape 11 = .ok (.goto 4, 3) := by decide +kernel
theorem dX6_isTape_14 : decode cX6_isTape 14 = .ok (.iconst 0, 1) := by decide +kernel
theorem dX6_isTape_15 : decode cX6_isTape 15 = .ok (.ireturn, 1) := by decide +kernel
theorem dX6_firstOtherwise_0 : decode cX6_firstOtherwise 0 = .ok (.iconst 0, 1) := by decide +kernel
theorem dX6_firstOtherwise_1 : decode cX6_firstOtherwise 1 = .ok (.istore_n 2, 1) := by decide +kernel
theorem dX6_firstOtherwise_2 : decode cX6_firstOtherwise 2 = .ok (.iload_n 2, 1) := by decide +kernel
theorem dX6_firstOtherwise_3 : decode cX6_firstOtherwise 3 = .ok (.aload_n 0, 1) := by decide +kernel
theorem dX6_firstOtherwise_4 : decode cX6_firstOtherwise 4 = .ok (.invokevirtual 229, 3) := by decide +kernel
theorem dX6_firstOtherwise_7 : decode cX6_firstOtherwise 7 = .ok (.if_icmp .ge 28, 3) := by decide +kernel
theorem dX6_firstOtherwise_10 : decode cX6_firstOtherwise 10 = .ok (.aload_n 1, 1) := by decide +kernel
theorem dX6_firstOtherwise_11 : decode cX6_firstOtherwise 11 = .ok (.aload_n 0, 1) := by decide +kernel
theorem dX6_firstOtherwise_12 : decode cX6_firstOtherwise 12 = .ok (.iload_n 2, 1) := by decide +kernel
theorem dX6_firstOtherwise_13 : decode cX6_firstOtherwise 13 = .ok (.invokevirtual 230, 3) := by decide +kernel
theorem dX6_firstOtherwise_16 : decode cX6_firstOtherwise 16 = .ok (.invokevirtual 95, 3) := by decide +kernel
theorem dX6_firstOtherwise_19 : decode cX6_firstOtherwise 19 = .ok (.aload_n 0, 1) := by decide +kernel
theorem dX6_firstOtherwise_20 : decode cX6_firstOtherwise 20 = .ok (.iload_n 2, 1) := by decide +kernel
theorem dX6_firstOtherwise_21 : decode cX6_firstOtherwise 21 = .ok (.invokevirtual 233, 3) := by decide +kernel
theorem dX6_firstOtherwise_24 : decode cX6_firstOtherwise 24 = .ok (.if_icmp .eq 5, 3) := by decide +kernel
theorem dX6_firstOtherwise_27 : decode cX6_firstOtherwise 27 = .ok (.iload_n 2, 1) := by decide +kernel
theorem dX6_firstOtherwise_28 : decode cX6_firstOtherwise 28 = .ok (.ireturn, 1) := by decide +kernel
theorem dX6_firstOtherwise_29 : decode cX6_firstOtherwise 29 = .ok (.iinc 2 1, 3) := by decide +kernel
theorem dX6_firstOtherwise_32 : decode cX6_firstOtherwise 32 = .ok (.goto (-30), 3) := by decide +kernel
theorem dX6_firstOtherwise_35 : decode cX6_firstOtherwise 35 = .ok (.bipush (-5), 2) := by decide +kernel
theorem dX6_firstOtherwise_37 : decode cX6_firstOtherwise 37 = .ok (.ireturn, 1) := by decide +kernel
theorem dX6_band_0 : decode cX6_band 0 = .ok (.iload_n 0, 1) := by decide +kernel
theorem dX6_band_1 : decode cX6_band 1 = .ok (.ifCond .lt 7, 3) := by decide +kernel
theorem dX6_band_4 : decode cX6_band 4 = .ok (.iload_n 1, 1) := by decide +kernel
theorem dX6_band_5 : decode cX6_band 5 = .ok (.ifCond .gt 5, 3) := by decide +kernel
theorem dX6_band_8 : decode cX6_band 8 = .ok (.iconst 0, 1) := by decide +kernel
theorem dX6_band_9 : decode cX6_band 9 = .ok (.ireturn, 1) := by decide +kernel
theorem dX6_band_10 : decode cX6_band 10 = .ok (.iconst 1, 1) := by decide +kernel
theorem dX6_band_11 : decode cX6_band 11 = .ok (.iconst 2, 1) := by decide +kernel
theorem dX6_band_12 : decode cX6_band 12 = .ok (.iload_n 1, 1) := by decide +kernel
theorem dX6_band_13 : decode cX6_band 13 = .ok (.imul, 1) := by decide +kernel
theorem dX6_band_14 : decode cX6_band 14 = .ok (.iconst 1, 1) := by decide +kernel
theorem dX6_band_15 : decode cX6_band 15 = .ok (.isub, 1) := by decide +kernel
theorem dX6_band_16 : decode cX6_band 16 = .ok (.ishl, 1) := by decide +kernel
theorem dX6_band_17 : decode cX6_band 17 = .ok (.iconst 1, 1) := by decide +kernel
theorem dX6_band_18 : decode cX6_band 18 = .ok (.isub, 1) := by decide +kernel
theorem dX6_band_19 : decode cX6_band 19 = .ok (.iload_n 0, 1) := by decide +kernel
theorem dX6_band_20 : decode cX6_band 20 = .ok (.ishl, 1) := by decide +kernel
theorem dX6_band_21 : decode cX6_band 21 = .ok (.iload_n 1, 1) := by decide +kernel
theorem dX6_band_22 : decode cX6_band 22 = .ok (.iconst 1, 1) := by decide +kernel
theorem dX6_band_23 : decode cX6_band 23 = .ok (.isub, 1) := by decide +kernel
theorem dX6_band_24 : decode cX6_band 24 = .ok (.ishr, 1) := by decide +kernel
theorem dX6_band_25 : decode cX6_band 25 = .ok (.ireturn, 1) := by decide +kernel
theorem dX6_leastOf_0 : decode cX6_leastOf 0 = .ok (.iconst 0, 1) := by decide +kernel
theorem dX6_leastOf_1 : decode cX6_leastOf 1 = .ok (.istore_n 1, 1) := by decide +kernel
theorem dX6_leastOf_2 : decode cX6_leastOf 2 = .ok (.iload_n 1, 1) := by decide +kernel
theorem dX6_leastOf_3 : decode cX6_leastOf 3 = .ok (.bipush 20, 2) := by decide +kernel
theorem dX6_leastOf_5 : decode cX6_leastOf 5 = .ok (.if_icmp .ge 20, 3) := by decide +kernel
theorem dX6_leastOf_8 : decode cX6_leastOf 8 = .ok (.iload_n 0, 1) := by decide +kernel
theorem dX6_leastOf_9 : decode cX6_leastOf 9 = .ok (.iload_n 1, 1) := by decide +kernel
theorem dX6_leastOf_10 : decode cX6_leastOf 10 = .ok (.ishr, 1) := by decide +kernel
theorem dX6_leastOf_11 : decode cX6_leastOf 11 = .ok (.iconst 1, 1) := by decide +kernel
theorem dX6_leastOf_12 : decode cX6_leastOf 12 = .ok (.iand, 1) := by decide +kernel
theorem dX6_leastOf_13 : decode cX6_leastOf 13 = .ok (.iconst 1, 1) := by decide +kernel
theorem dX6_leastOf_14 : decode cX6_leastOf 14 = .ok (.if_icmp .ne 5, 3) := by decide +kernel
theorem dX6_leastOf_17 : decode cX6_leastOf 17 = .ok (.iload_n 1, 1) := by decide +kernel
theorem dX6_leastOf_18 : decode cX6_leastOf 18 = .ok (.ireturn, 1) := by decide +kernel
theorem dX6_leastOf_19 : decode cX6_leastOf 19 = .ok (.iinc 1 1, 3) := by decide +kernel
theorem dX6_leastOf_22 : decode cX6_leastOf 22 = .ok (.goto (-20), 3) := by decide +kernel
theorem dX6_leastOf_25 : decode cX6_leastOf 25 = .ok (.bipush (-5), 2) := by decide +kernel
theorem dX6_leastOf_27 : decode cX6_leastOf 27 = .ok (.ireturn, 1) := by decide +kernel
theorem dX6_partOf_0 : decode cX6_partOf 0 = .ok (.iload_n 0, 1) := by decide +kernel
theorem dX6_partOf_1 : decode cX6_partOf 1 = .ok (.istore_n 3, 1) := by decide +kernel
theorem dX6_partOf_2 : decode cX6_partOf 2 = .ok (.iload_n 1, 1) := by decide +kernel
theorem dX6_partOf_3 : decode cX6_partOf 3 = .ok (.istore 4, 2) := by decide +kernel
theorem dX6_partOf_5 : decode cX6_partOf 5 = .ok (.iconst 0, 1) := by decide +kernel
theorem dX6_partOf_6 : decode cX6_partOf 6 = .ok (.istore 5, 2) := by decide +kernel
theorem dX6_partOf_8 : decode cX6_partOf 8 = .ok (.iload 5, 2) := by decide +kernel
theorem dX6_partOf_10 : decode cX6_partOf 10 = .ok (.bipush 64, 2) := by decide +kernel
theorem dX6_partOf_12 : decode cX6_partOf 12 = .ok (.if_icmp .ge 27, 3) := by decide +kernel
theorem dX6_partOf_15 : decode cX6_partOf 15 = .ok (.iload 4, 2) := by decide +kernel
theorem dX6_partOf_17 : decode cX6_partOf 17 = .ok (.ifCond .eq 22, 3) := by decide +kernel
theorem dX6_partOf_20 : decode cX6_partOf 20 = .ok (.iload_n 3, 1) := by decide +kernel
theorem dX6_partOf_21 : decode cX6_partOf 21 = .ok (.iload 4, 2) := by decide +kernel
theorem dX6_partOf_23 : decode cX6_partOf 23 = .ok (.irem, 1) := by decide +kernel
theorem dX6_partOf_24 : decode cX6_partOf 24 = .ok (.istore 6, 2) := by decide +kernel
theorem dX6_partOf_26 : decode cX6_partOf 26 = .ok (.iload 4, 2) := by decide +kernel
theorem dX6_partOf_28 : decode cX6_partOf 28 = .ok (.istore_n 3, 1) := by decide +kernel
theorem dX6_partOf_29 : decode cX6_partOf 29 = .ok (.iload 6, 2) := by decide +kernel
theorem dX6_partOf_31 : decode cX6_partOf 31 = .ok (.istore 4, 2) := by decide +kernel
theorem dX6_partOf_33 : decode cX6_partOf 33 = .ok (.iinc 5 1, 3) := by decide +kernel
theorem dX6_partOf_36 : decode cX6_partOf 36 = .ok (.goto (-28), 3) := by decide +kernel
theorem dX6_partOf_39 : decode cX6_partOf 39 = .ok (.iload_n 3, 1) := by decide +kernel
theorem dX6_partOf_40 : decode cX6_partOf 40 = .ok (.ifCond .ne 7, 3) := by decide +kernel
theorem dX6_partOf_43 : decode cX6_partOf 43 = .ok (.ldc2_w 217, 3) := by decide +kernel
theorem dX6_partOf_46 : decode cX6_partOf 46 = .ok (.lreturn, 1) := by decide +kernel
theorem dX6_partOf_47 : decode cX6_partOf 47 = .ok (.iload_n 2, 1) := by decide +kernel
theorem dX6_partOf_48 : decode cX6_partOf 48 = .ok (.ifCond .ne 10, 3) := by decide +kernel
theorem dX6_partOf_51 : decode cX6_partOf 51 = .ok (.iload_n 0, 1) := by decide +kernel
theorem dX6_partOf_52 : decode cX6_partOf 52 = .ok (.iload_n 3, 1) := by decide +kernel
theorem dX6_partOf_53 : decode cX6_partOf 53 = .ok (.idiv, 1) := by decide +kernel
theorem dX6_partOf_54 : decode cX6_partOf 54 = .ok (.i2l, 1) := by decide +kernel
theorem dX6_partOf_55 : decode cX6_partOf 55 = .ok (.goto 7, 3) := by decide +kernel
theorem dX6_partOf_58 : decode cX6_partOf 58 = .ok (.iload_n 1, 1) := by decide +kernel
theorem dX6_partOf_59 : decode cX6_partOf 59 = .ok (.iload_n 3, 1) := by decide +kernel
theorem dX6_partOf_60 : decode cX6_partOf 60 = .ok (.idiv, 1) := by decide +kernel
theorem dX6_partOf_61 : decode cX6_partOf 61 = .ok (.i2l, 1) := by decide +kernel
theorem dX6_partOf_62 : decode cX6_partOf 62 = .ok (.lreturn, 1) := by decide +kernel
theorem dX7_init_0 : decode cX7_init 0 = .ok (.aload_n 0, 1) := by decide +kernel
theorem dX7_init_1 : decode cX7_init 1 = .ok (.invokespecial 3, 3) := by decide +kernel
theorem dX7_init_4 : decode cX7_init 4 = .ok (.aload_n 0, 1) := by decide +kernel
theorem dX7_init_5 : decode cX7_init 5 = .ok (.bipush 84, 2) := by decide +kernel
theorem dX7_init_7 : decode cX7_init 7 = .ok (.newarray .int, 2) := by decide +kernel
theorem dX7_init_9 : decode cX7_init 9 = .ok (.putfield 11, 3) := by decide +kernel
theorem dX7_init_12 : decode cX7_init 12 = .ok (.aload_n 0, 1) := by decide +kernel
theorem dX7_init_13 : decode cX7_init 13 = .ok (.bipush 84, 2) := by decide +kernel
theorem dX7_init_15 : decode cX7_init 15 = .ok (.newarray .int, 2) := by decide +kernel
theorem dX7_init_17 : decode cX7_init 17 = .ok (.putfield 15, 3) := by decide +kernel
theorem dX7_init_20 : decode cX7_init 20 = .ok (.aload_n 0, 1) := by decide +kernel
theorem dX7_init_21 : decode cX7_init 21 = .ok (.bipush 84, 2) := by decide +kernel
theorem dX7_init_23 : decode cX7_init 23 = .ok (.newarray .int, 2) := by decide +kernel
theorem dX7_init_25 : decode cX7_init 25 = .ok (.putfield 18, 3) := by decide +kernel
theorem dX7_init_28 : decode cX7_init 28 = .ok (.aload_n 0, 1) := by decide +kernel
theorem dX7_init_29 : decode cX7_init 29 = .ok (.bipush 100, 2) := by decide +kernel
theorem dX7_init_31 : decode cX7_init 31 = .ok (.newarray .int, 2) := by decide +kernel
theorem dX7_init_33 : decode cX7_init 33 = .ok (.putfield 21, 3) := by decide +kernel
theorem dX7_init_36 : decode cX7_init 36 = .ok (.aload_n 0, 1) := by decide +kernel
theorem dX7_init_37 : decode cX7_init 37 = .ok (.bipush 32, 2) := by decide +kernel
theorem dX7_init_39 : decode cX7_init 39 = .ok (.newarray .int, 2) := by decide +kernel
theorem dX7_init_41 : decode cX7_init 41 = .ok (.putfield 24, 3) := by decide +kernel
theorem dX7_init_44 : decode cX7_init 44 = .ok (.aload_n 0, 1) := by decide +kernel
theorem dX7_init_45 : decode cX7_init 45 = .ok (.bipush 6, 2) := by decide +kernel
theorem dX7_init_47 : decode cX7_init 47 = .ok (.newarray .int, 2) := by decide +kernel
theorem dX7_init_49 : decode cX7_init 49 = .ok (.dup, 1) := by decide +kernel
theorem dX7_init_50 : decode cX7_init 50 = .ok (.iconst 0, 1) := by decide +kernel
theorem dX7_init_51 : decode cX7_init 51 = .ok (.iconst (-1), 1) := by decide +kernel
theorem dX7_init_52 : decode cX7_init 52 = .ok (.iastore, 1) := by decide +kernel
theorem dX7_init_53 : decode cX7_init 53 = .ok (.dup, 1) := by decide +kernel
theorem dX7_init_54 : decode cX7_init 54 = .ok (.iconst 1, 1) := by decide +kernel
theorem dX7_init_55 : decode cX7_init 55 = .ok (.iconst (-1), 1) := by decide +kernel
theorem dX7_init_56 : decode cX7_init 56 = .ok (.iastore, 1) := by decide +kernel
theorem dX7_init_57 : decode cX7_init 57 = .ok (.dup, 1) := by decide +kernel
theorem dX7_init_58 : decode cX7_init 58 = .ok (.iconst 2, 1) := by decide +kernel
theorem dX7_init_59 : decode cX7_init 59 = .ok (.iconst (-1), 1) := by decide +kernel
theorem dX7_init_60 : decode cX7_init 60 = .ok (.iastore, 1) := by decide +kernel
theorem dX7_init_61 : decode cX7_init 61 = .ok (.dup, 1) := by decide +kernel
theorem dX7_init_62 : decode cX7_init 62 = .ok (.iconst 3, 1) := by decide +kernel
theorem dX7_init_63 : decode cX7_init 63 = .ok (.iconst (-1), 1) := by decide +kernel
theorem dX7_init_64 : decode cX7_init 64 = .ok (.iastore, 1) := by decide +kernel
theorem dX7_init_65 : decode cX7_init 65 = .ok (.dup, 1) := by decide +kernel
theorem dX7_init_66 : decode cX7_init 66 = .ok (.iconst 4, 1) := by decide +kernel
theorem dX7_init_67 : decode cX7_init 67 = .ok (.iconst (-1), 1) := by decide +kernel
theorem dX7_init_68 : decode cX7_init 68 = .ok (.iastore, 1) := by decide +kernel
theorem dX7_init_69 : decode cX7_init 69 = .ok (.dup, 1) := by decide +kernel
theorem dX7_init_70 : decode cX7_init 70 = .ok (.iconst 5, 1) := by decide +kernel
theorem dX7_init_71 : decode cX7_init 71 = .ok (.iconst (-1), 1) := by decide +kernel
theorem dX7_init_72 : decode cX7_init 72 = .ok (.iastore, 1) := by decide +kernel
theorem dX7_init_73 : decode cX7_init 73 = .ok (.putfield 27, 3) := by decide +kernel
theorem dX7_init_76 : decode cX7_init 76 = .ok (.aload_n 0, 1) := by decide +kernel
theorem dX7_init_77 : decode cX7_init 77 = .ok (.bipush 6, 2) := by decide +kernel
theorem dX7_init_79 : decode cX7_init 79 = .ok (.newarray .int, 2) := by decide +kernel
theorem dX7_init_81 : decode cX7_init 81 = .ok (.putfield 30, 3) := by decide +kernel
theorem dX7_init_84 : decode cX7_init 84 = .ok (.aload_n 0, 1) := by decide +kernel
theorem dX7_init_85 : decode cX7_init 85 = .ok (.sipush 360, 3) := by decide +kernel
theorem dX7_init_88 : decode cX7_init 88 = .ok (.newarray .long, 2) := by decide +kernel
theorem dX7_init_90 : decode cX7_init 90 = .ok (.putfield 33, 3) := by decide +kernel
theorem dX7_init_93 : decode cX7_init 93 = .ok (.iconst 0, 1) := by decide +kernel
theorem dX7_init_94 : decode cX7_init 94 = .ok (.istore_n 1, 1) := by decide +kernel
theorem dX7_init_95 : decode cX7_init 95 = .ok (.iload_n 1, 1) := by decide +kernel
theorem dX7_init_96 : decode cX7_init 96 = .ok (.iconst 3, 1) := by decide +kernel
theorem dX7_init_97 : decode cX7_init 97 = .ok (.if_icmp .ge 23, 3) := by decide +kernel
theorem dX7_init_100 : decode cX7_init 100 = .ok (.aload_n 0, 1) := by decide +kernel
theorem dX7_init_101 : decode cX7_init 101 = .ok (.getfield 11, 3) := by decide +kernel
theorem dX7_init_104 : decode cX7_init 104 = .ok (.bipush 36, 2) := by decide +kernel
theorem dX7_init_106 : decode cX7_init 106 = .ok (.iconst 2, 1) := by decide +kernel
theorem dX7_init_107 : decode cX7_init 107 = .ok (.iload_n 1, 1) := by decide +kernel
theorem dX7_init_108 : decode cX7_init 108 = .ok (.imul, 1) := by decide +kernel
theorem dX7_init_109 : decode cX7_init 109 = .ok (.iadd, 1) := by decide +kernel
theorem dX7_init_110 : decode cX7_init 110 = .ok (.iconst 1, 1) := by decide +kernel
theorem dX7_init_111 : decode cX7_init 111 = .ok (.iadd, 1) := by decide +kernel
theorem dX7_init_112 : decode cX7_init 112 = .ok (.iconst 1, 1) := by decide +kernel
theorem dX7_init_113 : decode cX7_init 113 = .ok (.iastore, 1) := by decide +kernel
theorem dX7_init_114 : decode cX7_init 114 = .ok (.iinc 1 1, 3) := by decide +kernel
theorem dX7_init_117 : decode cX7_init 117 = .ok (.goto (-22), 3) := by decide +kernel
theorem dX7_init_120 : decode cX7_init 120 = .ok (.return_, 1) := by decide +kernel
theorem dX7_in_0 : decode cX7_in 0 = .ok (.lload_n 0, 1) := by decide +kernel
theorem dX7_in_1 : decode cX7_in 1 = .ok (.lload_n 2, 1) := by decide +kernel
theorem dX7_in_2 : decode cX7_in 2 = .ok (.lcmp, 1) := by decide +kernel
theorem dX7_in_3 : decode cX7_in 3 = .ok (.ifCond .lt 14, 3) := by decide +kernel
theorem dX7_in_6 : decode cX7_in 6 = .ok (.lload_n 0, 1) := by decide +kernel
theorem dX7_in_7 : decode cX7_in 7 = .ok (.lload 4, 2) := by decide +kernel
theorem dX7_in_9 : decode cX7_in 9 = .ok (.lcmp, 1) := by decide +kernel
theorem dX7_in_10 : decode cX7_in 10 = .ok (.ifCond .gt 7, 3) := by decide +kernel
theorem dX7_in_13 : decode cX7_in 13 = .ok (.iconst 1, 1) := by decide +kernel
theorem dX7_in_14 : decode cX7_in 14 = .ok (.goto 4, 3) := by decide +kernel
theorem dX7_in_17 : decode cX7_in 17 = .ok (.iconst 0, 1) := by decide +kernel
theorem dX7_in_18 : decode cX7_in 18 = .ok (.ireturn, 1) := by decide +kernel
theorem dX7_copies_0 : decode cX7_copies 0 = .ok (.iconst 0, 1) := by decide +kernel
theorem dX7_copies_1 : decode cX7_copies 1 = .ok (.istore_n 2, 1) := by decide +kernel
theorem dX7_copies_2 : decode cX7_copies 2 = .ok (.iload_n 2, 1) := by decide +kernel
theorem dX7_copies_3 : decode cX7_copies 3 = .ok (.bipush 84, 2) := by decide +kernel
theorem dX7_copies_5 : decode cX7_copies 5 = .ok (.if_icmp .ge 15, 3) := by decide +kernel
theorem dX7_copies_8 : decode cX7_copies 8 = .ok (.aload_n 1, 1) := by decide +kernel
theorem dX7_copies_9 : decode cX7_copies 9 = .ok (.iload_n 2, 1) := by decide +kernel
theorem dX7_copies_10 : decode cX7_copies 10 = .ok (.aload_n 0, 1) := by decide +kernel
theorem dX7_copies_11 : decode cX7_copies 11 = .ok (.iload_n 2, 1) := by decide +kernel
theorem dX7_copies_12 : decode cX7_copies 12 = .ok (.iaload, 1) := by decide +kernel
theorem dX7_copies_13 : decode cX7_copies 13 = .ok (.iastore, 1) := by decide +kernel
theorem dX7_copies_14 : decode cX7_copies 14 = .ok (.iinc 2 1, 3) := by decide +kernel
theorem dX7_copies_17 : decode cX7_copies 17 = .ok (.goto (-15), 3) := by decide +kernel
theorem dX7_copies_20 : decode cX7_copies 20 = .ok (.return_, 1) := by decide +kernel
theorem dX7_isStation_0 : decode cX7_isStation 0 = .ok (.iload_n 1, 1) := by decide +kernel
theorem dX7_isStation_1 : decode cX7_isStation 1 = .ok (.i2l, 1) := by decide +kernel
theorem dX7_isStation_2 : decode cX7_isStation 2 = .ok (.lconst 0, 1) := by decide +kernel
theorem dX7_isStation_3 : decode cX7_isStation 3 = .ok (.aload_n 0, 1) := by decide +kernel
theorem dX7_isStation_4 : decode cX7_isStation 4 = .ok (.getfield 11, 3) := by decide +kernel
theorem dX7_isStation_7 : decode cX7_isStation 7 = .ok (.iconst 0, 1) := by decide +kernel
theorem dX7_isStation_8 : decode cX7_isStation 8 = .ok (.iaload, 1) := by decide +kernel
theorem dX7_isStation_9 : decode cX7_isStation 9 = .ok (.iconst 1, 1) := by decide +kernel
theorem dX7_isStation_10 : decode cX7_isStation 10 = .ok (.isub, 1) := by decide +kernel
theorem dX7_isStation_11 : decode cX7_isStation 11 = .ok (.i2l, 1) := by decide +kernel
theorem dX7_isStation_12 : decode cX7_isStation 12 = .ok (.invokestatic 37, 3) := by decide +kernel
theorem dX7_isStation_15 : decode cX7_isStation 15 = .ok (.ireturn, 1) := by decide +kernel
theorem dX7_x_0 : decode cX7_x 0 = .ok (.aload_n 0, 1) := by decide +kernel
theorem dX7_x_1 : decode cX7_x 1 = .ok (.getfield 11, 3) := by decide +kernel
theorem dX7_x_4 : decode cX7_x 4 = .ok (.iconst 4, 1) := by decide +kernel
theorem dX7_x_5 : decode cX7_x 5 = .ok (.iconst 4, 1) := by decide +kernel
theorem dX7_x_6 : decode cX7_x 6 = .ok (.iload_n 1, 1) := by decide +kernel
theorem dX7_x_7 : decode cX7_x 7 = .ok (.imul, 1) := by decide +kernel
theorem dX7_x_8 : decode cX7_x 8 = .ok (.iadd, 1) := by decide +kernel
theorem dX7_x_9 : decode cX7_x 9 = .ok (.iaload, 1) := by decide +kernel
theorem dX7_x_10 : decode cX7_x 10 = .ok (.ireturn, 1) := by decide +kernel
theorem dX7_y_0 : decode cX7_y 0 = .ok (.aload_n 0, 1) := by decide +kernel
theorem dX7_y_1 : decode cX7_y 1 = .ok (.getfield 11, 3) := by decide +kernel
theorem dX7_y_4 : decode cX7_y 4 = .ok (.iconst 4, 1) := by decide +kernel
theorem dX7_y_5 : decode cX7_y 5 = .ok (.iconst 4, 1) := by decide +kernel
theorem dX7_y_6 : decode cX7_y 6 = .ok (.iload_n 1, 1) := by decide +kernel
theorem dX7_y_7 : decode cX7_y 7 = .ok (.imul, 1) := by decide +kernel
theorem dX7_y_8 : decode cX7_y 8 = .ok (.iadd, 1) := by decide +kernel
theorem dX7_y_9 : decode cX7_y 9 = .ok (.iconst 1, 1) := by decide +kernel
theorem dX7_y_10 : decode cX7_y 10 = .ok (.iadd, 1) := by decide +kernel
theorem dX7_y_11 : decode cX7_y 11 = .ok (.iaload, 1) := by decide +kernel
theorem dX7_y_12 : decode cX7_y 12 = .ok (.ireturn, 1) := by decide +kernel
theorem dX7_channelOf_0 : decode cX7_channelOf 0 = .ok (.aload_n 0, 1) := by decide +kernel
theorem dX7_channelOf_1 : decode cX7_channelOf 1 = .ok (.getfield 11, 3) := by decide +kernel
theorem dX7_channelOf_4 : decode cX7_channelOf 4 = .ok (.iconst 4, 1) := by decide +kernel
theorem dX7_channelOf_5 : decode cX7_channelOf 5 = .ok (.iconst 4, 1) := by decide +kernel
theorem dX7_channelOf_6 : decode cX7_channelOf 6 = .ok (.iload_n 1, 1) := by decide +kernel
theorem dX7_channelOf_7 : decode cX7_channelOf 7 = .ok (.imul, 1) := by decide +kernel
theorem dX7_channelOf_8 : decode cX7_channelOf 8 = .ok (.iadd, 1) := by decide +kernel
theorem dX7_channelOf_9 : decode cX7_channelOf 9 = .ok (.iconst 2, 1) := by decide +kernel
theorem dX7_channelOf_10 : decode cX7_channelOf 10 = .ok (.iadd, 1) := by decide +kernel
theorem dX7_channelOf_11 : decode cX7_channelOf 11 = .ok (.iaload, 1) := by decide +kernel
theorem dX7_channelOf_12 : decode cX7_channelOf 12 = .ok (.ireturn, 1) := by decide +kernel
theorem dX7_isFixed_0 : decode cX7_isFixed 0 = .ok (.aload_n 0, 1) := by decide +kernel
theorem dX7_isFixed_1 : decode cX7_isFixed 1 = .ok (.getfield 11, 3) := by decide +kernel
theorem dX7_isFixed_4 : decode cX7_isFixed 4 = .ok (.iconst 4, 1) := by decide +kernel
theorem dX7_isFixed_5 : decode cX7_isFixed 5 = .ok (.iconst 4, 1) := by decide +kernel
theorem dX7_isFixed_6 : decode cX7_isFixed 6 = .ok (.iload_n 1, 1) := by decide +kernel
theorem dX7_isFixed_7 : decode cX7_isFixed 7 = .ok (.imul, 1) := by decide +kernel
theorem dX7_isFixed_8 : decode cX7_isFixed 8 = .ok (.iadd, 1) := by decide +kernel
theorem dX7_isFixed_9 : decode cX7_isFixed 9 = .ok (.iconst 3, 1) := by decide +kernel
theorem dX7_isFixed_10 : decode cX7_isFixed 10 = .ok (.iadd, 1) := by decide +kernel
theorem dX7_isFixed_11 : decode cX7_isFixed 11 = .ok (.iaload, 1) := by decide +kernel
theorem dX7_isFixed_12 : decode cX7_isFixed 12 = .ok (.iconst 1, 1) := by decide +kernel
end
section
theorem dX7_isFixed_13 : decode cX7_isFixed 13 = .ok (.if_icmp .ne 7, 3) := by decide +kernel
theorem dX7_isFixed_16 : decode cX7_isFixed 16 = .ok (.iconst 1, 1) := by decide +kernel
theorem dX7_isFixed_17 : decode cX7_isFixed 17 = .ok (.goto 4, 3) := by decide +kernel
theorem dX7_isFixed_20 : decode cX7_isFixed 20 = .ok (.iconst 0, 1) := by decide +kernel
theorem dX7_isFixed_21 : decode cX7_isFixed 21 = .ok (.ireturn, 1) := by decide +kernel
theorem dX7_has_0 : decode cX7_has 0 = .ok (.aload_n 0, 1) := by decide +kernel
theorem dX7_has_1 : decode cX7_has 1 = .ok (.getfield 11, 3) := by decide +kernel
theorem dX7_has_4 : decode cX7_has 4 = .ok (.iconst 4, 1) := by decide +kernel
theorem dX7_has_5 : decode cX7_has 5 = .ok (.iconst 4, 1) := by decide +kernel
theorem dX7_has_6 : decode cX7_has 6 = .ok (.iload_n 1, 1) := by decide +kernel
theorem dX7_has_7 : decode cX7_has 7 = .ok (.imul, 1) := by decide +kernel
theorem dX7_has_8 : decode cX7_has 8 = .ok (.iadd, 1) := by decide +kernel
theorem dX7_has_9 : decode cX7_has 9 = .ok (.iconst 2, 1) := by decide +kernel
theorem dX7_has_10 : decode cX7_has 10 = .ok (.iadd, 1) := by decide +kernel
theorem dX7_has_11 : decode cX7_has 11 = .ok (.iload_n 2, 1) := by decide +kernel
theorem dX7_has_12 : decode cX7_has 12 = .ok (.iastore, 1) := by decide +kernel
theorem dX7_has_13 : decode cX7_has 13 = .ok (.return_, 1) := by decide +kernel
theorem dX7_stationAt_0 : decode cX7_stationAt 0 = .ok (.iconst 0, 1) := by decide +kernel
theorem dX7_stationAt_1 : decode cX7_stationAt 1 = .ok (.istore_n 3, 1) := by decide +kernel
theorem dX7_stationAt_2 : decode cX7_stationAt 2 = .ok (.iload_n 3, 1) := by decide +kernel
theorem dX7_stationAt_3 : decode cX7_stationAt 3 = .ok (.aload_n 0, 1) := by decide +kernel
theorem dX7_stationAt_4 : decode cX7_stationAt 4 = .ok (.getfield 11, 3) := by decide +kernel
theorem dX7_stationAt_7 : decode cX7_stationAt 7 = .ok (.iconst 0, 1) := by decide +kernel
theorem dX7_stationAt_8 : decode cX7_stationAt 8 = .ok (.iaload, 1) := by decide +kernel
theorem dX7_stationAt_9 : decode cX7_stationAt 9 = .ok (.if_icmp .ge 29, 3) := by decide +kernel
theorem dX7_stationAt_12 : decode cX7_stationAt 12 = .ok (.aload_n 0, 1) := by decide +kernel
theorem dX7_stationAt_13 : decode cX7_stationAt 13 = .ok (.iload_n 3, 1) := by decide +kernel
theorem dX7_stationAt_14 : decode cX7_stationAt 14 = .ok (.invokevirtual 41, 3) := by decide +kernel
theorem dX7_stationAt_17 : decode cX7_stationAt 17 = .ok (.iload_n 1, 1) := by decide +kernel
theorem dX7_stationAt_18 : decode cX7_stationAt 18 = .ok (.if_icmp .ne 14, 3) := by decide +kernel
theorem dX7_stationAt_21 : decode cX7_stationAt 21 = .ok (.aload_n 0, 1) := by decide +kernel
theorem dX7_stationAt_22 : decode cX7_stationAt 22 = .ok (.iload_n 3, 1) := by decide +kernel
theorem dX7_stationAt_23 : decode cX7_stationAt 23 = .ok (.invokevirtual 45, 3) := by decide +kernel
theorem dX7_stationAt_26 : decode cX7_stationAt 26 = .ok (.iload_n 2, 1) := by decide +kernel
theorem dX7_stationAt_27 : decode cX7_stationAt 27 = .ok (.if_icmp .ne 5, 3) := by decide +kernel
theorem dX7_stationAt_30 : decode cX7_stationAt 30 = .ok (.iload_n 3, 1) := by decide +kernel
theorem dX7_stationAt_31 : decode cX7_stationAt 31 = .ok (.ireturn, 1) := by decide +kernel
theorem dX7_stationAt_32 : decode cX7_stationAt 32 = .ok (.iinc 3 1, 3) := by decide +kernel
theorem dX7_stationAt_35 : decode cX7_stationAt 35 = .ok (.goto (-33), 3) := by decide +kernel
theorem dX7_stationAt_38 : decode cX7_stationAt 38 = .ok (.iconst (-1), 1) := by decide +kernel
theorem dX7_stationAt_39 : decode cX7_stationAt 39 = .ok (.ireturn, 1) := by decide +kernel
theorem dX7_isPlace_0 : decode cX7_isPlace 0 = .ok (.iload_n 0, 1) := by decide +kernel
theorem dX7_isPlace_1 : decode cX7_isPlace 1 = .ok (.i2l, 1) := by decide +kernel
theorem dX7_isPlace_2 : decode cX7_isPlace 2 = .ok (.lconst 0, 1) := by decide +kernel
theorem dX7_isPlace_3 : decode cX7_isPlace 3 = .ok (.ldc2_w 48, 3) := by decide +kernel
theorem dX7_isPlace_6 : decode cX7_isPlace 6 = .ok (.invokestatic 37, 3) := by decide +kernel
theorem dX7_isPlace_9 : decode cX7_isPlace 9 = .ok (.ifCond .eq 19, 3) := by decide +kernel
theorem dX7_isPlace_12 : decode cX7_isPlace 12 = .ok (.iload_n 1, 1) := by decide +kernel
theorem dX7_isPlace_13 : decode cX7_isPlace 13 = .ok (.i2l, 1) := by decide +kernel
theorem dX7_isPlace_14 : decode cX7_isPlace 14 = .ok (.lconst 0, 1) := by decide +kernel
theorem dX7_isPlace_15 : decode cX7_isPlace 15 = .ok (.ldc2_w 48, 3) := by decide +kernel
theorem dX7_isPlace_18 : decode cX7_isPlace 18 = .ok (.invokestatic 37, 3) := by decide +kernel
theorem dX7_isPlace_21 : decode cX7_isPlace 21 = .ok (.ifCond .eq 7, 3) := by decide +kernel
theorem dX7_isPlace_24 : decode cX7_isPlace 24 = .ok (.iconst 1, 1) := by decide +kernel
theorem dX7_isPlace_25 : decode cX7_isPlace 25 = .ok (.goto 4, 3) := by decide +kernel
theorem dX7_isPlace_28 : decode cX7_isPlace 28 = .ok (.iconst 0, 1) := by decide +kernel
theorem dX7_isPlace_29 : decode cX7_isPlace 29 = .ok (.ireturn, 1) := by decide +kernel
theorem dX7_station_0 : decode cX7_station 0 = .ok (.iload_n 1, 1) := by decide +kernel
theorem dX7_station_1 : decode cX7_station 1 = .ok (.iload_n 2, 1) := by decide +kernel
theorem dX7_station_2 : decode cX7_station 2 = .ok (.invokestatic 50, 3) := by decide +kernel
theorem dX7_station_5 : decode cX7_station 5 = .ok (.ifCond .ne 6, 3) := by decide +kernel
theorem dX7_station_8 : decode cX7_station 8 = .ok (.bipush (-2), 2) := by decide +kernel
theorem dX7_station_10 : decode cX7_station 10 = .ok (.ireturn, 1) := by decide +kernel
theorem dX7_station_11 : decode cX7_station 11 = .ok (.aload_n 0, 1) := by decide +kernel
theorem dX7_station_12 : decode cX7_station 12 = .ok (.iload_n 1, 1) := by decide +kernel
theorem dX7_station_13 : decode cX7_station 13 = .ok (.iload_n 2, 1) := by decide +kernel
theorem dX7_station_14 : decode cX7_station 14 = .ok (.invokevirtual 54, 3) := by decide +kernel
theorem dX7_station_17 : decode cX7_station 17 = .ok (.ifCond .lt 6, 3) := by decide +kernel
theorem dX7_station_20 : decode cX7_station 20 = .ok (.bipush (-3), 2) := by decide +kernel
theorem dX7_station_22 : decode cX7_station 22 = .ok (.ireturn, 1) := by decide +kernel
theorem dX7_station_23 : decode cX7_station 23 = .ok (.aload_n 0, 1) := by decide +kernel
theorem dX7_station_24 : decode cX7_station 24 = .ok (.getfield 11, 3) := by decide +kernel
theorem dX7_station_27 : decode cX7_station 27 = .ok (.iconst 0, 1) := by decide +kernel
theorem dX7_station_28 : decode cX7_station 28 = .ok (.iaload, 1) := by decide +kernel
theorem dX7_station_29 : decode cX7_station 29 = .ok (.istore_n 3, 1) := by decide +kernel
theorem dX7_station_30 : decode cX7_station 30 = .ok (.iload_n 3, 1) := by decide +kernel
theorem dX7_station_31 : decode cX7_station 31 = .ok (.bipush 8, 2) := by decide +kernel
theorem dX7_station_33 : decode cX7_station 33 = .ok (.if_icmp .ne 6, 3) := by decide +kernel
theorem dX7_station_36 : decode cX7_station 36 = .ok (.bipush (-4), 2) := by decide +kernel
theorem dX7_station_38 : decode cX7_station 38 = .ok (.ireturn, 1) := by decide +kernel
theorem dX7_station_39 : decode cX7_station 39 = .ok (.aload_n 0, 1) := by decide +kernel
theorem dX7_station_40 : decode cX7_station 40 = .ok (.getfield 11, 3) := by decide +kernel
theorem dX7_station_43 : decode cX7_station 43 = .ok (.iconst 4, 1) := by decide +kernel
theorem dX7_station_44 : decode cX7_station 44 = .ok (.iconst 4, 1) := by decide +kernel
theorem dX7_station_45 : decode cX7_station 45 = .ok (.iload_n 3, 1) := by decide +kernel
theorem dX7_station_46 : decode cX7_station 46 = .ok (.imul, 1) := by decide +kernel
theorem dX7_station_47 : decode cX7_station 47 = .ok (.iadd, 1) := by decide +kernel
theorem dX7_station_48 : decode cX7_station 48 = .ok (.iload_n 1, 1) := by decide +kernel
theorem dX7_station_49 : decode cX7_station 49 = .ok (.iastore, 1) := by decide +kernel
theorem dX7_station_50 : decode cX7_station 50 = .ok (.aload_n 0, 1) := by decide +kernel
theorem dX7_station_51 : decode cX7_station 51 = .ok (.getfield 11, 3) := by decide +kernel
theorem dX7_station_54 : decode cX7_station 54 = .ok (.iconst 4, 1) := by decide +kernel
theorem dX7_station_55 : decode cX7_station 55 = .ok (.iconst 4, 1) := by decide +kernel
theorem dX7_station_56 : decode cX7_station 56 = .ok (.iload_n 3, 1) := by decide +kernel
theorem dX7_station_57 : decode cX7_station 57 = .ok (.imul, 1) := by decide +kernel
theorem dX7_station_58 : decode cX7_station 58 = .ok (.iadd, 1) := by decide +kernel
theorem dX7_station_59 : decode cX7_station 59 = .ok (.iconst 1, 1) := by decide +kernel
theorem dX7_station_60 : decode cX7_station 60 = .ok (.iadd, 1) := by decide +kernel
theorem dX7_station_61 : decode cX7_station 61 = .ok (.iload_n 2, 1) := by decide +kernel
theorem dX7_station_62 : decode cX7_station 62 = .ok (.iastore, 1) := by decide +kernel
theorem dX7_station_63 : decode cX7_station 63 = .ok (.aload_n 0, 1) := by decide +kernel
theorem dX7_station_64 : decode cX7_station 64 = .ok (.getfield 11, 3) := by decide +kernel
theorem dX7_station_67 : decode cX7_station 67 = .ok (.iconst 4, 1) := by decide +kernel
theorem dX7_station_68 : decode cX7_station 68 = .ok (.iconst 4, 1) := by decide +kernel
theorem dX7_station_69 : decode cX7_station 69 = .ok (.iload_n 3, 1) := by decide +kernel
theorem dX7_station_70 : decode cX7_station 70 = .ok (.imul, 1) := by decide +kernel
theorem dX7_station_71 : decode cX7_station 71 = .ok (.iadd, 1) := by decide +kernel
theorem dX7_station_72 : decode cX7_station 72 = .ok (.iconst 2, 1) := by decide +kernel
theorem dX7_station_73 : decode cX7_station 73 = .ok (.iadd, 1) := by decide +kernel
theorem dX7_station_74 : decode cX7_station 74 = .ok (.iconst (-1), 1) := by decide +kernel
theorem dX7_station_75 : decode cX7_station 75 = .ok (.iastore, 1) := by decide +kernel
theorem dX7_station_76 : decode cX7_station 76 = .ok (.aload_n 0, 1) := by decide +kernel
theorem dX7_station_77 : decode cX7_station 77 = .ok (.getfield 11, 3) := by decide +kernel
theorem dX7_station_80 : decode cX7_station 80 = .ok (.iconst 4, 1) := by decide +kernel
theorem dX7_station_81 : decode cX7_station 81 = .ok (.iconst 4, 1) := by decide +kernel
theorem dX7_station_82 : decode cX7_station 82 = .ok (.iload_n 3, 1) := by decide +kernel
theorem dX7_station_83 : decode cX7_station 83 = .ok (.imul, 1) := by decide +kernel
theorem dX7_station_84 : decode cX7_station 84 = .ok (.iadd, 1) := by decide +kernel
theorem dX7_station_85 : decode cX7_station 85 = .ok (.iconst 3, 1) := by decide +kernel
theorem dX7_station_86 : decode cX7_station 86 = .ok (.iadd, 1) := by decide +kernel
theorem dX7_station_87 : decode cX7_station 87 = .ok (.iconst 0, 1) := by decide +kernel
theorem dX7_station_88 : decode cX7_station 88 = .ok (.iastore, 1) := by decide +kernel
theorem dX7_station_89 : decode cX7_station 89 = .ok (.aload_n 0, 1) := by decide +kernel
theorem dX7_station_90 : decode cX7_station 90 = .ok (.getfield 11, 3) := by decide +kernel
theorem dX7_station_93 : decode cX7_station 93 = .ok (.iconst 0, 1) := by decide +kernel
theorem dX7_station_94 : decode cX7_station 94 = .ok (.iload_n 3, 1) := by decide +kernel
theorem dX7_station_95 : decode cX7_station 95 = .ok (.iconst 1, 1) := by decide +kernel
theorem dX7_station_96 : decode cX7_station 96 = .ok (.iadd, 1) := by decide +kernel
theorem dX7_station_97 : decode cX7_station 97 = .ok (.iastore, 1) := by decide +kernel
theorem dX7_station_98 : decode cX7_station 98 = .ok (.iload_n 3, 1) := by decide +kernel
theorem dX7_station_99 : decode cX7_station 99 = .ok (.ireturn, 1) := by decide +kernel
theorem dX7_rule_0 : decode cX7_rule 0 = .ok (.iload_n 1, 1) := by decide +kernel
theorem dX7_rule_1 : decode cX7_rule 1 = .ok (.i2l, 1) := by decide +kernel
theorem dX7_rule_2 : decode cX7_rule 2 = .ok (.lconst 0, 1) := by decide +kernel
theorem dX7_rule_3 : decode cX7_rule 3 = .ok (.ldc2_w 58, 3) := by decide +kernel
theorem dX7_rule_6 : decode cX7_rule 6 = .ok (.invokestatic 37, 3) := by decide +kernel
theorem dX7_rule_9 : decode cX7_rule 9 = .ok (.ifCond .ne 5, 3) := by decide +kernel
theorem dX7_rule_12 : decode cX7_rule 12 = .ok (.iconst (-1), 1) := by decide +kernel
theorem dX7_rule_13 : decode cX7_rule 13 = .ok (.ireturn, 1) := by decide +kernel
theorem dX7_rule_14 : decode cX7_rule 14 = .ok (.iload_n 2, 1) := by decide +kernel
theorem dX7_rule_15 : decode cX7_rule 15 = .ok (.i2l, 1) := by decide +kernel
theorem dX7_rule_16 : decode cX7_rule 16 = .ok (.lconst 0, 1) := by decide +kernel
theorem dX7_rule_17 : decode cX7_rule 17 = .ok (.ldc2_w 60, 3) := by decide +kernel
theorem dX7_rule_20 : decode cX7_rule 20 = .ok (.invokestatic 37, 3) := by decide +kernel
theorem dX7_rule_23 : decode cX7_rule 23 = .ok (.ifCond .eq 15, 3) := by decide +kernel
theorem dX7_rule_26 : decode cX7_rule 26 = .ok (.iload_n 3, 1) := by decide +kernel
theorem dX7_rule_27 : decode cX7_rule 27 = .ok (.i2l, 1) := by decide +kernel
theorem dX7_rule_28 : decode cX7_rule 28 = .ok (.lconst 1, 1) := by decide +kernel
theorem dX7_rule_29 : decode cX7_rule 29 = .ok (.ldc2_w 62, 3) := by decide +kernel
theorem dX7_rule_32 : decode cX7_rule 32 = .ok (.invokestatic 37, 3) := by decide +kernel
theorem dX7_rule_35 : decode cX7_rule 35 = .ok (.ifCond .ne 6, 3) := by decide +kernel
theorem dX7_rule_38 : decode cX7_rule 38 = .ok (.bipush (-2), 2) := by decide +kernel
theorem dX7_rule_40 : decode cX7_rule 40 = .ok (.ireturn, 1) := by decide +kernel
theorem dX7_rule_41 : decode cX7_rule 41 = .ok (.bipush 100, 2) := by decide +kernel
theorem dX7_rule_43 : decode cX7_rule 43 = .ok (.aload_n 0, 1) := by decide +kernel
theorem dX7_rule_44 : decode cX7_rule 44 = .ok (.getfield 11, 3) := by decide +kernel
theorem dX7_rule_47 : decode cX7_rule 47 = .ok (.bipush 36, 2) := by decide +kernel
theorem dX7_rule_49 : decode cX7_rule 49 = .ok (.iconst 2, 1) := by decide +kernel
theorem dX7_rule_50 : decode cX7_rule 50 = .ok (.iload_n 1, 1) := by decide +kernel
theorem dX7_rule_51 : decode cX7_rule 51 = .ok (.imul, 1) := by decide +kernel
theorem dX7_rule_52 : decode cX7_rule 52 = .ok (.iadd, 1) := by decide +kernel
theorem dX7_rule_53 : decode cX7_rule 53 = .ok (.iaload, 1) := by decide +kernel
theorem dX7_rule_54 : decode cX7_rule 54 = .ok (.imul, 1) := by decide +kernel
theorem dX7_rule_55 : decode cX7_rule 55 = .ok (.aload_n 0, 1) := by decide +kernel
theorem dX7_rule_56 : decode cX7_rule 56 = .ok (.getfield 11, 3) := by decide +kernel
theorem dX7_rule_59 : decode cX7_rule 59 = .ok (.bipush 36, 2) := by decide +kernel
theorem dX7_rule_61 : decode cX7_rule 61 = .ok (.iconst 2, 1) := by decide +kernel
theorem dX7_rule_62 : decode cX7_rule 62 = .ok (.iload_n 1, 1) := by decide +kernel
theorem dX7_rule_63 : decode cX7_rule 63 = .ok (.imul, 1) := by decide +kernel
theorem dX7_rule_64 : decode cX7_rule 64 = .ok (.iadd, 1) := by decide +kernel
theorem dX7_rule_65 : decode cX7_rule 65 = .ok (.iconst 1, 1) := by decide +kernel
theorem dX7_rule_66 : decode cX7_rule 66 = .ok (.iadd, 1) := by decide +kernel
theorem dX7_rule_67 : decode cX7_rule 67 = .ok (.iaload, 1) := by decide +kernel
theorem dX7_rule_68 : decode cX7_rule 68 = .ok (.iadd, 1) := by decide +kernel
theorem dX7_rule_69 : decode cX7_rule 69 = .ok (.istore 4, 2) := by decide +kernel
theorem dX7_rule_71 : decode cX7_rule 71 = .ok (.aload_n 0, 1) := by decide +kernel
theorem dX7_rule_72 : decode cX7_rule 72 = .ok (.getfield 11, 3) := by decide +kernel
theorem dX7_rule_75 : decode cX7_rule 75 = .ok (.bipush 36, 2) := by decide +kernel
theorem dX7_rule_77 : decode cX7_rule 77 = .ok (.iconst 2, 1) := by decide +kernel
theorem dX7_rule_78 : decode cX7_rule 78 = .ok (.iload_n 1, 1) := by decide +kernel
theorem dX7_rule_79 : decode cX7_rule 79 = .ok (.imul, 1) := by decide +kernel
theorem dX7_rule_80 : decode cX7_rule 80 = .ok (.iadd, 1) := by decide +kernel
theorem dX7_rule_81 : decode cX7_rule 81 = .ok (.iload_n 2, 1) := by decide +kernel
theorem dX7_rule_82 : decode cX7_rule 82 = .ok (.iastore, 1) := by decide +kernel
theorem dX7_rule_83 : decode cX7_rule 83 = .ok (.aload_n 0, 1) := by decide +kernel
theorem dX7_rule_84 : decode cX7_rule 84 = .ok (.getfield 11, 3) := by decide +kernel
theorem dX7_rule_87 : decode cX7_rule 87 = .ok (.bipush 36, 2) := by decide +kernel
theorem dX7_rule_89 : decode cX7_rule 89 = .ok (.iconst 2, 1) := by decide +kernel
theorem dX7_rule_90 : decode cX7_rule 90 = .ok (.iload_n 1, 1) := by decide +kernel
theorem dX7_rule_91 : decode cX7_rule 91 = .ok (.imul, 1) := by decide +kernel
theorem dX7_rule_92 : decode cX7_rule 92 = .ok (.iadd, 1) := by decide +kernel
theorem dX7_rule_93 : decode cX7_rule 93 = .ok (.iconst 1, 1) := by decide +kernel
theorem dX7_rule_94 : decode cX7_rule 94 = .ok (.iadd, 1) := by decide +kernel
theorem dX7_rule_95 : decode cX7_rule 95 = .ok (.iload_n 3, 1) := by decide +kernel
theorem dX7_rule_96 : decode cX7_rule 96 = .ok (.iastore, 1) := by decide +kernel
theorem dX7_rule_97 : decode cX7_rule 97 = .ok (.iload 4, 2) := by decide +kernel
theorem dX7_rule_99 : decode cX7_rule 99 = .ok (.ireturn, 1) := by decide +kernel
theorem dX7_toldOf_0 : decode cX7_toldOf 0 = .ok (.iload_n 0, 1) := by decide +kernel
theorem dX7_toldOf_1 : decode cX7_toldOf 1 = .ok (.ifCond .ge 8, 3) := by decide +kernel
theorem dX7_toldOf_4 : decode cX7_toldOf 4 = .ok (.bipush (-5), 2) := by decide +kernel
theorem dX7_toldOf_6 : decode cX7_toldOf 6 = .ok (.goto 4, 3) := by decide +kernel
theorem dX7_toldOf_9 : decode cX7_toldOf 9 = .ok (.iload_n 0, 1) := by decide +kernel
theorem dX7_toldOf_10 : decode cX7_toldOf 10 = .ok (.ireturn, 1) := by decide +kernel
theorem dX7_channel_0 : decode cX7_channel 0 = .ok (.aload_n 0, 1) := by decide +kernel
theorem dX7_channel_1 : decode cX7_channel 1 = .ok (.iload_n 1, 1) := by decide +kernel
theorem dX7_channel_2 : decode cX7_channel 2 = .ok (.invokevirtual 64, 3) := by decide +kernel
theorem dX7_channel_5 : decode cX7_channel 5 = .ok (.ifCond .ne 5, 3) := by decide +kernel
theorem dX7_channel_8 : decode cX7_channel 8 = .ok (.iconst (-1), 1) := by decide +kernel
theorem dX7_channel_9 : decode cX7_channel 9 = .ok (.ireturn, 1) := by decide +kernel
theorem dX7_channel_10 : decode cX7_channel 10 = .ok (.iload_n 2, 1) := by decide +kernel
theorem dX7_channel_11 : decode cX7_channel 11 = .ok (.i2l, 1) := by decide +kernel
theorem dX7_channel_12 : decode cX7_channel 12 = .ok (.ldc2_w 68, 3) := by decide +kernel
theorem dX7_channel_15 : decode cX7_channel 15 = .ok (.ldc2_w 70, 3) := by decide +kernel
theorem dX7_channel_18 : decode cX7_channel 18 = .ok (.invokestatic 37, 3) := by decide +kernel
theorem dX7_channel_21 : decode cX7_channel 21 = .ok (.ifCond .ne 6, 3) := by decide +kernel
theorem dX7_channel_24 : decode cX7_channel 24 = .ok (.bipush (-2), 2) := by decide +kernel
theorem dX7_channel_26 : decode cX7_channel 26 = .ok (.ireturn, 1) := by decide +kernel
theorem dX7_channel_27 : decode cX7_channel 27 = .ok (.aload_n 0, 1) := by decide +kernel
theorem dX7_channel_28 : decode cX7_channel 28 = .ok (.iload_n 1, 1) := by decide +kernel
theorem dX7_channel_29 : decode cX7_channel 29 = .ok (.invokevirtual 72, 3) := by decide +kernel
theorem dX7_channel_32 : decode cX7_channel 32 = .ok (.ifCond .eq 10, 3) := by decide +kernel
theorem dX7_channel_35 : decode cX7_channel 35 = .ok (.iload_n 2, 1) := by decide +kernel
theorem dX7_channel_36 : decode cX7_channel 36 = .ok (.ifCond .lt 6, 3) := by decide +kernel
theorem dX7_channel_39 : decode cX7_channel 39 = .ok (.bipush (-3), 2) := by decide +kernel
theorem dX7_channel_41 : decode cX7_channel 41 = .ok (.ireturn, 1) := by decide +kernel
theorem dX7_channel_42 : decode cX7_channel 42 = .ok (.aload_n 0, 1) := by decide +kernel
theorem dX7_channel_43 : decode cX7_channel 43 = .ok (.iload_n 1, 1) := by decide +kernel
theorem dX7_channel_44 : decode cX7_channel 44 = .ok (.invokevirtual 75, 3) := by decide +kernel
theorem dX7_channel_47 : decode cX7_channel 47 = .ok (.istore_n 3, 1) := by decide +kernel
theorem dX7_channel_48 : decode cX7_channel 48 = .ok (.aload_n 0, 1) := by decide +kernel
theorem dX7_channel_49 : decode cX7_channel 49 = .ok (.iload_n 1, 1) := by decide +kernel
theorem dX7_channel_50 : decode cX7_channel 50 = .ok (.iload_n 2, 1) := by decide +kernel
theorem dX7_channel_51 : decode cX7_channel 51 = .ok (.invokevirtual 78, 3) := by decide +kernel
theorem dX7_channel_54 : decode cX7_channel 54 = .ok (.aload_n 0, 1) := by decide +kernel
theorem dX7_channel_55 : decode cX7_channel 55 = .ok (.getfield 11, 3) := by decide +kernel
theorem dX7_channel_58 : decode cX7_channel 58 = .ok (.iconst 4, 1) := by decide +kernel
theorem dX7_channel_59 : decode cX7_channel 59 = .ok (.iconst 4, 1) := by decide +kernel
theorem dX7_channel_60 : decode cX7_channel 60 = .ok (.iload_n 1, 1) := by decide +kernel
theorem dX7_channel_61 : decode cX7_channel 61 = .ok (.imul, 1) := by decide +kernel
theorem dX7_channel_62 : decode cX7_channel 62 = .ok (.iadd, 1) := by decide +kernel
theorem dX7_channel_63 : decode cX7_channel 63 = .ok (.iconst 3, 1) := by decide +kernel
theorem dX7_channel_64 : decode cX7_channel 64 = .ok (.iadd, 1) := by decide +kernel
theorem dX7_channel_65 : decode cX7_channel 65 = .ok (.iconst 0, 1) := by decide +kernel
theorem dX7_channel_66 : decode cX7_channel 66 = .ok (.iastore, 1) := by decide +kernel
theorem dX7_channel_67 : decode cX7_channel 67 = .ok (.iload_n 3, 1) := by decide +kernel
theorem dX7_channel_68 : decode cX7_channel 68 = .ok (.invokestatic 82, 3) := by decide +kernel
theorem dX7_channel_71 : decode cX7_channel 71 = .ok (.ireturn, 1) := by decide +kernel
theorem dX7_fix_0 : decode cX7_fix 0 = .ok (.aload_n 0, 1) := by decide +kernel
theorem dX7_fix_1 : decode cX7_fix 1 = .ok (.iload_n 1, 1) := by decide +kernel
theorem dX7_fix_2 : decode cX7_fix 2 = .ok (.invokevirtual 64, 3) := by decide +kernel
theorem dX7_fix_5 : decode cX7_fix 5 = .ok (.ifCond .ne 5, 3) := by decide +kernel
theorem dX7_fix_8 : decode cX7_fix 8 = .ok (.iconst (-1), 1) := by decide +kernel
theorem dX7_fix_9 : decode cX7_fix 9 = .ok (.ireturn, 1) := by decide +kernel
theorem dX7_fix_10 : decode cX7_fix 10 = .ok (.aload_n 0, 1) := by decide +kernel
theorem dX7_fix_11 : decode cX7_fix 11 = .ok (.iload_n 1, 1) := by decide +kernel
theorem dX7_fix_12 : decode cX7_fix 12 = .ok (.invokevirtual 75, 3) := by decide +kernel
theorem dX7_fix_15 : decode cX7_fix 15 = .ok (.ifCond .ge 6, 3) := by decide +kernel
theorem dX7_fix_18 : decode cX7_fix 18 = .ok (.bipush (-3), 2) := by decide +kernel
theorem dX7_fix_20 : decode cX7_fix 20 = .ok (.ireturn, 1) := by decide +kernel
theorem dX7_fix_21 : decode cX7_fix 21 = .ok (.aload_n 0, 1) := by decide +kernel
theorem dX7_fix_22 : decode cX7_fix 22 = .ok (.getfield 11, 3) := by decide +kernel
theorem dX7_fix_25 : decode cX7_fix 25 = .ok (.iconst 4, 1) := by decide +kernel
theorem dX7_fix_26 : decode cX7_fix 26 = .ok (.iconst 4, 1) := by decide +kernel
theorem dX7_fix_27 : decode cX7_fix 27 = .ok (.iload_n 1, 1) := by decide +kernel
theorem dX7_fix_28 : decode cX7_fix 28 = .ok (.imul, 1) := by decide +kernel
theorem dX7_fix_29 : decode cX7_fix 29 = .ok (.iadd, 1) := by decide +kernel
theorem dX7_fix_30 : decode cX7_fix 30 = .ok (.iconst 3, 1) := by decide +kernel
theorem dX7_fix_31 : decode cX7_fix 31 = .ok (.iadd, 1) := by decide +kernel
theorem dX7_fix_32 : decode cX7_fix 32 = .ok (.iaload, 1) := by decide +kernel
theorem dX7_fix_33 : decode cX7_fix 33 = .ok (.istore_n 3, 1) := by decide +kernel
theorem dX7_fix_34 : decode cX7_fix 34 = .ok (.aload_n 0, 1) := by decide +kernel
theorem dX7_fix_35 : decode cX7_fix 35 = .ok (.getfield 11, 3) := by decide +kernel
theorem dX7_fix_38 : decode cX7_fix 38 = .ok (.iconst 4, 1) := by decide +kernel
theorem dX7_fix_39 : decode cX7_fix 39 = .ok (.iconst 4, 1) := by decide +kernel
theorem dX7_fix_40 : decode cX7_fix 40 = .ok (.iload_n 1, 1) := by decide +kernel
theorem dX7_fix_41 : decode cX7_fix 41 = .ok (.imul, 1) := by decide +kernel
theorem dX7_fix_42 : decode cX7_fix 42 = .ok (.iadd, 1) := by decide +kernel
theorem dX7_fix_43 : decode cX7_fix 43 = .ok (.iconst 3, 1) := by decide +kernel
theorem dX7_fix_44 : decode cX7_fix 44 = .ok (.iadd, 1) := by decide +kernel
theorem dX7_fix_45 : decode cX7_fix 45 = .ok (.iload_n 2, 1) := by decide +kernel
theorem dX7_fix_46 : decode cX7_fix 46 = .ok (.ifCond .eq 7, 3) := by decide +kernel
theorem dX7_fix_49 : decode cX7_fix 49 = .ok (.iconst 1, 1) := by decide +kernel
theorem dX7_fix_50 : decode cX7_fix 50 = .ok (.goto 4, 3) := by decide +kernel
theorem dX7_fix_53 : decode cX7_fix 53 = .ok (.iconst 0, 1) := by decide +kernel
theorem dX7_fix_54 : decode cX7_fix 54 = .ok (.iastore, 1) := by decide +kernel
theorem dX7_fix_55 : decode cX7_fix 55 = .ok (.iload_n 3, 1) := by decide +kernel
theorem dX7_fix_56 : decode cX7_fix 56 = .ok (.ireturn, 1) := by decide +kernel
theorem dX7_square_0 : decode cX7_square 0 = .ok (.iload_n 0, 1) := by decide +kernel
theorem dX7_square_1 : decode cX7_square 1 = .ok (.iload_n 0, 1) := by decide +kernel
theorem dX7_square_2 : decode cX7_square 2 = .ok (.imul, 1) := by decide +kernel
theorem dX7_square_3 : decode cX7_square 3 = .ok (.ireturn, 1) := by decide +kernel
theorem dX7_move_0 : decode cX7_move 0 = .ok (.aload_n 0, 1) := by decide +kernel
theorem dX7_move_1 : decode cX7_move 1 = .ok (.iload_n 1, 1) := by decide +kernel
theorem dX7_move_2 : decode cX7_move 2 = .ok (.invokevirtual 64, 3) := by decide +kernel
theorem dX7_move_5 : decode cX7_move 5 = .ok (.ifCond .ne 5, 3) := by decide +kernel
theorem dX7_move_8 : decode cX7_move 8 = .ok (.iconst (-1), 1) := by decide +kernel
theorem dX7_move_9 : decode cX7_move 9 = .ok (.ireturn, 1) := by decide +kernel
theorem dX7_move_10 : decode cX7_move 10 = .ok (.iload_n 2, 1) := by decide +kernel
theorem dX7_move_11 : decode cX7_move 11 = .ok (.iload_n 3, 1) := by decide +kernel
theorem dX7_move_12 : decode cX7_move 12 = .ok (.invokestatic 50, 3) := by decide +kernel
theorem dX7_move_15 : decode cX7_move 15 = .ok (.ifCond .ne 6, 3) := by decide +kernel
theorem dX7_move_18 : decode cX7_move 18 = .ok (.bipush (-2), 2) := by decide +kernel
theorem dX7_move_20 : decode cX7_move 20 = .ok (.ireturn, 1) := by decide +kernel
theorem dX7_move_21 : decode cX7_move 21 = .ok (.aload_n 0, 1) := by decide +kernel
theorem dX7_move_22 : decode cX7_move 22 = .ok (.iload_n 2, 1) := by decide +kernel
theorem dX7_move_23 : decode cX7_move 23 = .ok (.iload_n 3, 1) := by decide +kernel
theorem dX7_move_24 : decode cX7_move 24 = .ok (.invokevirtual 54, 3) := by decide +kernel
theorem dX7_move_27 : decode cX7_move 27 = .ok (.istore 4, 2) := by decide +kernel
theorem dX7_move_29 : decode cX7_move 29 = .ok (.iload 4, 2) := by decide +kernel
theorem dX7_move_31 : decode cX7_move 31 = .ok (.ifCond .lt 12, 3) := by decide +kernel
theorem dX7_move_34 : decode cX7_move 34 = .ok (.iload 4, 2) := by decide +kernel
theorem dX7_move_36 : decode cX7_move 36 = .ok (.iload_n 1, 1) := by decide +kernel
theorem dX7_move_37 : decode cX7_move 37 = .ok (.if_icmp .eq 6, 3) := by decide +kernel
theorem dX7_move_40 : decode cX7_move 40 = .ok (.bipush (-3), 2) := by decide +kernel
theorem dX7_move_42 : decode cX7_move 42 = .ok (.ireturn, 1) := by decide +kernel
theorem dX7_move_43 : decode cX7_move 43 = .ok (.iload_n 2, 1) := by decide +kernel
theorem dX7_move_44 : decode cX7_move 44 = .ok (.aload_n 0, 1) := by decide +kernel
theorem dX7_move_45 : decode cX7_move 45 = .ok (.iload_n 1, 1) := by decide +kernel
theorem dX7_move_46 : decode cX7_move 46 = .ok (.invokevirtual 41, 3) := by decide +kernel
theorem dX7_move_49 : decode cX7_move 49 = .ok (.isub, 1) := by decide +kernel
theorem dX7_move_50 : decode cX7_move 50 = .ok (.invokestatic 85, 3) := by decide +kernel
theorem dX7_move_53 : decode cX7_move 53 = .ok (.iload_n 3, 1) := by decide +kernel
theorem dX7_move_54 : decode cX7_move 54 = .ok (.aload_n 0, 1) := by decide +kernel
theorem dX7_move_55 : decode cX7_move 55 = .ok (.iload_n 1, 1) := by decide +kernel
theorem dX7_move_56 : decode cX7_move 56 = .ok (.invokevirtual 45, 3) := by decide +kernel
theorem dX7_move_59 : decode cX7_move 59 = .ok (.isub, 1) := by decide +kernel
theorem dX7_move_60 : decode cX7_move 60 = .ok (.invokestatic 85, 3) := by decide +kernel
theorem dX7_move_63 : decode cX7_move 63 = .ok (.iadd, 1) := by decide +kernel
theorem dX7_move_64 : decode cX7_move 64 = .ok (.istore 5, 2) := by decide +kernel
theorem dX7_move_66 : decode cX7_move 66 = .ok (.aload_n 0, 1) := by decide +kernel
theorem dX7_move_67 : decode cX7_move 67 = .ok (.getfield 11, 3) := by decide +kernel
theorem dX7_move_70 : decode cX7_move 70 = .ok (.iconst 4, 1) := by decide +kernel
theorem dX7_move_71 : decode cX7_move 71 = .ok (.iconst 4, 1) := by decide +kernel
theorem dX7_move_72 : decode cX7_move 72 = .ok (.iload_n 1, 1) := by decide +kernel
theorem dX7_move_73 : decode cX7_move 73 = .ok (.imul, 1) := by decide +kernel
theorem dX7_move_74 : decode cX7_move 74 = .ok (.iadd, 1) := by decide +kernel
theorem dX7_move_75 : decode cX7_move 75 = .ok (.iload_n 2, 1) := by decide +kernel
theorem dX7_move_76 : decode cX7_move 76 = .ok (.iastore, 1) := by decide +kernel
theorem dX7_move_77 : decode cX7_move 77 = .ok (.aload_n 0, 1) := by decide +kernel
theorem dX7_move_78 : decode cX7_move 78 = .ok (.getfield 11, 3) := by decide +kernel
theorem dX7_move_81 : decode cX7_move 81 = .ok (.iconst 4, 1) := by decide +kernel
theorem dX7_move_82 : decode cX7_move 82 = .ok (.iconst 4, 1) := by decide +kernel
theorem dX7_move_83 : decode cX7_move 83 = .ok (.iload_n 1, 1) := by decide +kernel
theorem dX7_move_84 : decode cX7_move 84 = .ok (.imul, 1) := by decide +kernel
theorem dX7_move_85 : decode cX7_move 85 = .ok (.iadd, 1) := by decide +kernel
theorem dX7_move_86 : decode cX7_move 86 = .ok (.iconst 1, 1) := by decide +kernel
theorem dX7_move_87 : decode cX7_move 87 = .ok (.iadd, 1) := by decide +kernel
theorem dX7_move_88 : decode cX7_move 88 = .ok (.iload_n 3, 1) := by decide +kernel
theorem dX7_move_89 : decode cX7_move 89 = .ok (.iastore, 1) := by decide +kernel
theorem dX7_move_90 : decode cX7_move 90 = .ok (.iload 5, 2) := by decide +kernel
theorem dX7_move_92 : decode cX7_move 92 = .ok (.ireturn, 1) := by decide +kernel
theorem dX7_feed_0 : decode cX7_feed 0 = .ok (.iload_n 1, 1) := by decide +kernel
theorem dX7_feed_1 : decode cX7_feed 1 = .ok (.i2l, 1) := by decide +kernel
theorem dX7_feed_2 : decode cX7_feed 2 = .ok (.lconst 0, 1) := by decide +kernel
theorem dX7_feed_3 : decode cX7_feed 3 = .ok (.ldc2_w 88, 3) := by decide +kernel
theorem dX7_feed_6 : decode cX7_feed 6 = .ok (.invokestatic 37, 3) := by decide +kernel
theorem dX7_feed_9 : decode cX7_feed 9 = .ok (.ifCond .ne 6, 3) := by decide +kernel
theorem dX7_feed_12 : decode cX7_feed 12 = .ok (.bipush (-2), 2) := by decide +kernel
theorem dX7_feed_14 : decode cX7_feed 14 = .ok (.ireturn, 1) := by decide +kernel
theorem dX7_feed_15 : decode cX7_feed 15 = .ok (.aload_n 0, 1) := by decide +kernel
theorem dX7_feed_16 : decode cX7_feed 16 = .ok (.getfield 90, 3) := by decide +kernel
theorem dX7_feed_19 : decode cX7_feed 19 = .ok (.bipush 100, 2) := by decide +kernel
theorem dX7_feed_21 : decode cX7_feed 21 = .ok (.if_icmp .ne 6, 3) := by decide +kernel
theorem dX7_feed_24 : decode cX7_feed 24 = .ok (.bipush (-4), 2) := by decide +kernel
theorem dX7_feed_26 : decode cX7_feed 26 = .ok (.ireturn, 1) := by decide +kernel
theorem dX7_feed_27 : decode cX7_feed 27 = .ok (.aload_n 0, 1) := by decide +kernel
theorem dX7_feed_28 : decode cX7_feed 28 = .ok (.getfield 21, 3) := by decide +kernel
theorem dX7_feed_31 : decode cX7_feed 31 = .ok (.aload_n 0, 1) := by decide +kernel
theorem dX7_feed_32 : decode cX7_feed 32 = .ok (.getfield 90, 3) := by decide +kernel
theorem dX7_feed_35 : decode cX7_feed 35 = .ok (.iload_n 1, 1) := by decide +kernel
theorem dX7_feed_36 : decode cX7_feed 36 = .ok (.iastore, 1) := by decide +kernel
theorem dX7_feed_37 : decode cX7_feed 37 = .ok (.aload_n 0, 1) := by decide +kernel
theorem dX7_feed_38 : decode cX7_feed 38 = .ok (.dup, 1) := by decide +kernel
theorem dX7_feed_39 : decode cX7_feed 39 = .ok (.getfield 90, 3) := by decide +kernel
theorem dX7_feed_42 : decode cX7_feed 42 = .ok (.iconst 1, 1) := by decide +kernel
theorem dX7_feed_43 : decode cX7_feed 43 = .ok (.iadd, 1) := by decide +kernel
theorem dX7_feed_44 : decode cX7_feed 44 = .ok (.putfield 90, 3) := by decide +kernel
theorem dX7_feed_47 : decode cX7_feed 47 = .ok (.aload_n 0, 1) := by decide +kernel
theorem dX7_feed_48 : decode cX7_feed 48 = .ok (.getfield 90, 3) := by decide +kernel
theorem dX7_feed_51 : decode cX7_feed 51 = .ok (.ireturn, 1) := by decide +kernel
theorem dX7_byteAt_0 : decode cX7_byteAt 0 = .ok (.iload_n 1, 1) := by decide +kernel
theorem dX7_byteAt_1 : decode cX7_byteAt 1 = .ok (.aload_n 0, 1) := by decide +kernel
theorem dX7_byteAt_2 : decode cX7_byteAt 2 = .ok (.getfield 90, 3) := by decide +kernel
theorem dX7_byteAt_5 : decode cX7_byteAt 5 = .ok (.if_icmp .ge 12, 3) := by decide +kernel
theorem dX7_byteAt_8 : decode cX7_byteAt 8 = .ok (.aload_n 0, 1) := by decide +kernel
theorem dX7_byteAt_9 : decode cX7_byteAt 9 = .ok (.getfield 21, 3) := by decide +kernel
theorem dX7_byteAt_12 : decode cX7_byteAt 12 = .ok (.iload_n 1, 1) := by decide +kernel
theorem dX7_byteAt_13 : decode cX7_byteAt 13 = .ok (.iaload, 1) := by decide +kernel
theorem dX7_byteAt_14 : decode cX7_byteAt 14 = .ok (.goto 4, 3) := by decide +kernel
theorem dX7_byteAt_17 : decode cX7_byteAt 17 = .ok (.iconst (-1), 1) := by decide +kernel
theorem dX7_byteAt_18 : decode cX7_byteAt 18 = .ok (.ireturn, 1) := by decide +kernel
theorem dX7_isNumber_0 : decode cX7_isNumber 0 = .ok (.aload_n 0, 1) := by decide +kernel
theorem dX7_isNumber_1 : decode cX7_isNumber 1 = .ok (.aload_n 0, 1) := by decide +kernel
theorem dX7_isNumber_2 : decode cX7_isNumber 2 = .ok (.getfield 94, 3) := by decide +kernel
theorem dX7_isNumber_5 : decode cX7_isNumber 5 = .ok (.invokevirtual 97, 3) := by decide +kernel
theorem dX7_isNumber_8 : decode cX7_isNumber 8 = .ok (.istore_n 3, 1) := by decide +kernel
theorem dX7_isNumber_9 : decode cX7_isNumber 9 = .ok (.iload_n 3, 1) := by decide +kernel
theorem dX7_isNumber_10 : decode cX7_isNumber 10 = .ok (.i2l, 1) := by decide +kernel
theorem dX7_isNumber_11 : decode cX7_isNumber 11 = .ok (.ldc2_w 100, 3) := by decide +kernel
theorem dX7_isNumber_14 : decode cX7_isNumber 14 = .ok (.ldc2_w 102, 3) := by decide +kernel
theorem dX7_isNumber_17 : decode cX7_isNumber 17 = .ok (.invokestatic 37, 3) := by decide +kernel
theorem dX7_isNumber_20 : decode cX7_isNumber 20 = .ok (.ifCond .ne 5, 3) := by decide +kernel
theorem dX7_isNumber_23 : decode cX7_isNumber 23 = .ok (.iconst 0, 1) := by decide +kernel
theorem dX7_isNumber_24 : decode cX7_isNumber 24 = .ok (.ireturn, 1) := by decide +kernel
theorem dX7_isNumber_25 : decode cX7_isNumber 25 = .ok (.aload_n 0, 1) := by decide +kernel
theorem dX7_isNumber_26 : decode cX7_isNumber 26 = .ok (.dup, 1) := by decide +kernel
theorem dX7_isNumber_27 : decode cX7_isNumber 27 = .ok (.getfield 94, 3) := by decide +kernel
theorem dX7_isNumber_30 : decode cX7_isNumber 30 = .ok (.iconst 1, 1) := by decide +kernel
theorem dX7_isNumber_31 : decode cX7_isNumber 31 = .ok (.iadd, 1) := by decide +kernel
theorem dX7_isNumber_32 : decode cX7_isNumber 32 = .ok (.putfield 94, 3) := by decide +kernel
theorem dX7_isNumber_35 : decode cX7_isNumber 35 = .ok (.iload_n 3, 1) := by decide +kernel
theorem dX7_isNumber_36 : decode cX7_isNumber 36 = .ok (.bipush 48, 2) := by decide +kernel
theorem dX7_isNumber_38 : decode cX7_isNumber 38 = .ok (.isub, 1) := by decide +kernel
theorem dX7_isNumber_39 : decode cX7_isNumber 39 = .ok (.istore 4, 2) := by decide +kernel
theorem dX7_isNumber_41 : decode cX7_isNumber 41 = .ok (.aload_n 0, 1) := by decide +kernel
theorem dX7_isNumber_42 : decode cX7_isNumber 42 = .ok (.aload_n 0, 1) := by decide +kernel
theorem dX7_isNumber_43 : decode cX7_isNumber 43 = .ok (.getfield 94, 3) := by decide +kernel
theorem dX7_isNumber_46 : decode cX7_isNumber 46 = .ok (.invokevirtual 97, 3) := by decide +kernel
theorem dX7_isNumber_49 : decode cX7_isNumber 49 = .ok (.istore 5, 2) := by decide +kernel
theorem dX7_isNumber_51 : decode cX7_isNumber 51 = .ok (.iload 5, 2) := by decide +kernel
theorem dX7_isNumber_53 : decode cX7_isNumber 53 = .ok (.i2l, 1) := by decide +kernel
theorem dX7_isNumber_54 : decode cX7_isNumber 54 = .ok (.ldc2_w 100, 3) := by decide +kernel
theorem dX7_isNumber_57 : decode cX7_isNumber 57 = .ok (.ldc2_w 102, 3) := by decide +kernel
theorem dX7_isNumber_60 : decode cX7_isNumber 60 = .ok (.invokestatic 37, 3) := by decide +kernel
theorem dX7_isNumber_63 : decode cX7_isNumber 63 = .ok (.ifCond .eq 34, 3) := by decide +kernel
theorem dX7_isNumber_66 : decode cX7_isNumber 66 = .ok (.bipush 10, 2) := by decide +kernel
theorem dX7_isNumber_68 : decode cX7_isNumber 68 = .ok (.iload 4, 2) := by decide +kernel
theorem dX7_isNumber_70 : decode cX7_isNumber 70 = .ok (.imul, 1) := by decide +kernel
theorem dX7_isNumber_71 : decode cX7_isNumber 71 = .ok (.iload 5, 2) := by decide +kernel
theorem dX7_isNumber_73 : decode cX7_isNumber 73 = .ok (.iadd, 1) := by decide +kernel
theorem dX7_isNumber_74 : decode cX7_isNumber 74 = .ok (.bipush 48, 2) := by decide +kernel
theorem dX7_isNumber_76 : decode cX7_isNumber 76 = .ok (.isub, 1) := by decide +kernel
theorem dX7_isNumber_77 : decode cX7_isNumber 77 = .ok (.istore 4, 2) := by decide +kernel
theorem dX7_isNumber_79 : decode cX7_isNumber 79 = .ok (.iload 4, 2) := by decide +kernel
theorem dX7_isNumber_81 : decode cX7_isNumber 81 = .ok (.iload_n 2, 1) := by decide +kernel
theorem dX7_isNumber_82 : decode cX7_isNumber 82 = .ok (.if_icmp .le 5, 3) := by decide +kernel
theorem dX7_isNumber_85 : decode cX7_isNumber 85 = .ok (.iconst 0, 1) := by decide +kernel
theorem dX7_isNumber_86 : decode cX7_isNumber 86 = .ok (.ireturn, 1) := by decide +kernel
theorem dX7_isNumber_87 : decode cX7_isNumber 87 = .ok (.aload_n 0, 1) := by decide +kernel
theorem dX7_isNumber_88 : decode cX7_isNumber 88 = .ok (.dup, 1) := by decide +kernel
theorem dX7_isNumber_89 : decode cX7_isNumber 89 = .ok (.getfield 94, 3) := by decide +kernel
theorem dX7_isNumber_92 : decode cX7_isNumber 92 = .ok (.iconst 1, 1) := by decide +kernel
theorem dX7_isNumber_93 : decode cX7_isNumber 93 = .ok (.iadd, 1) := by decide +kernel
theorem dX7_isNumber_94 : decode cX7_isNumber 94 = .ok (.putfield 94, 3) := by decide +kernel
theorem dX7_isNumber_97 : decode cX7_isNumber 97 = .ok (.aload_n 0, 1) := by decide +kernel
theorem dX7_isNumber_98 : decode cX7_isNumber 98 = .ok (.getfield 24, 3) := by decide +kernel
theorem dX7_isNumber_101 : decode cX7_isNumber 101 = .ok (.iload_n 1, 1) := by decide +kernel
theorem dX7_isNumber_102 : decode cX7_isNumber 102 = .ok (.iload 4, 2) := by decide +kernel
theorem dX7_isNumber_104 : decode cX7_isNumber 104 = .ok (.iastore, 1) := by decide +kernel
theorem dX7_isNumber_105 : decode cX7_isNumber 105 = .ok (.iconst 1, 1) := by decide +kernel
theorem dX7_isNumber_106 : decode cX7_isNumber 106 = .ok (.ireturn, 1) := by decide +kernel
theorem dX7_isClause_0 : decode cX7_isClause 0 = .ok (.aload_n 0, 1) := by decide +kernel
theorem dX7_isClause_1 : decode cX7_isClause 1 = .ok (.iconst 4, 1) := by decide +kernel
theorem dX7_isClause_2 : decode cX7_isClause 2 = .ok (.iload_n 1, 1) := by decide +kernel
theorem dX7_isClause_3 : decode cX7_isClause 3 = .ok (.imul, 1) := by decide +kernel
theorem dX7_isClause_4 : decode cX7_isClause 4 = .ok (.bipush 31, 2) := by decide +kernel
theorem dX7_isClause_6 : decode cX7_isClause 6 = .ok (.invokevirtual 104, 3) := by decide +kernel
theorem dX7_isClause_9 : decode cX7_isClause 9 = .ok (.ifCond .eq 16, 3) := by decide +kernel
theorem dX7_isClause_12 : decode cX7_isClause 12 = .ok (.aload_n 0, 1) := by decide +kernel
theorem dX7_isClause_13 : decode cX7_isClause 13 = .ok (.aload_n 0, 1) := by decide +kernel
theorem dX7_isClause_14 : decode cX7_isClause 14 = .ok (.getfield 94, 3) := by decide +kernel
theorem dX7_isClause_17 : decode cX7_isClause 17 = .ok (.invokevirtual 97, 3) := by decide +kernel
theorem dX7_isClause_20 : decode cX7_isClause 20 = .ok (.bipush 44, 2) := by decide +kernel
theorem dX7_isClause_22 : decode cX7_isClause 22 = .ok (.if_icmp .eq 5, 3) := by decide +kernel
theorem dX7_isClause_25 : decode cX7_isClause 25 = .ok (.iconst 0, 1) := by decide +kernel
theorem dX7_isClause_26 : decode cX7_isClause 26 = .ok (.ireturn, 1) := by decide +kernel
theorem dX7_isClause_27 : decode cX7_isClause 27 = .ok (.aload_n 0, 1) := by decide +kernel
theorem dX7_isClause_28 : decode cX7_isClause 28 = .ok (.dup, 1) := by decide +kernel
theorem dX7_isClause_29 : decode cX7_isClause 29 = .ok (.getfield 94, 3) := by decide +kernel
theorem dX7_isClause_32 : decode cX7_isClause 32 = .ok (.iconst 1, 1) := by decide +kernel
theorem dX7_isClause_33 : decode cX7_isClause 33 = .ok (.iadd, 1) := by decide +kernel
theorem dX7_isClause_34 : decode cX7_isClause 34 = .ok (.putfield 94, 3) := by decide +kernel
theorem dX7_isClause_37 : decode cX7_isClause 37 = .ok (.aload_n 0, 1) := by decide +kernel
theorem dX7_isClause_38 : decode cX7_isClause 38 = .ok (.iconst 4, 1) := by decide +kernel
theorem dX7_isClause_39 : decode cX7_isClause 39 = .ok (.iload_n 1, 1) := by decide +kernel
theorem dX7_isClause_40 : decode cX7_isClause 40 = .ok (.imul, 1) := by decide +kernel
theorem dX7_isClause_41 : decode cX7_isClause 41 = .ok (.iconst 1, 1) := by decide +kernel
theorem dX7_isClause_42 : decode cX7_isClause 42 = .ok (.iadd, 1) := by decide +kernel
theorem dX7_isClause_43 : decode cX7_isClause 43 = .ok (.bipush 31, 2) := by decide +kernel
theorem dX7_isClause_45 : decode cX7_isClause 45 = .ok (.invokevirtual 104, 3) := by decide +kernel
theorem dX7_isClause_48 : decode cX7_isClause 48 = .ok (.ifCond .ne 5, 3) := by decide +kernel
theorem dX7_isClause_51 : decode cX7_isClause 51 = .ok (.iconst 0, 1) := by decide +kernel
theorem dX7_isClause_52 : decode cX7_isClause 52 = .ok (.ireturn, 1) := by decide +kernel
theorem dX7_isClause_53 : decode cX7_isClause 53 = .ok (.aload_n 0, 1) := by decide +kernel
theorem dX7_isClause_54 : decode cX7_isClause 54 = .ok (.getfield 24, 3) := by decide +kernel
theorem dX7_isClause_57 : decode cX7_isClause 57 = .ok (.iconst 4, 1) := by decide +kernel
theorem dX7_isClause_58 : decode cX7_isClause 58 = .ok (.iload_n 1, 1) := by decide +kernel
theorem dX7_isClause_59 : decode cX7_isClause 59 = .ok (.imul, 1) := by decide +kernel
theorem dX7_isClause_60 : decode cX7_isClause 60 = .ok (.iconst 2, 1) := by decide +kernel
theorem dX7_isClause_61 : decode cX7_isClause 61 = .ok (.iadd, 1) := by decide +kernel
theorem dX7_isClause_62 : decode cX7_isClause 62 = .ok (.iconst (-1), 1) := by decide +kernel
theorem dX7_isClause_63 : decode cX7_isClause 63 = .ok (.iastore, 1) := by decide +kernel
theorem dX7_isClause_64 : decode cX7_isClause 64 = .ok (.aload_n 0, 1) := by decide +kernel
theorem dX7_isClause_65 : decode cX7_isClause 65 = .ok (.getfield 24, 3) := by decide +kernel
theorem dX7_isClause_68 : decode cX7_isClause 68 = .ok (.iconst 4, 1) := by decide +kernel
theorem dX7_isClause_69 : decode cX7_isClause 69 = .ok (.iload_n 1, 1) := by decide +kernel
theorem dX7_isClause_70 : decode cX7_isClause 70 = .ok (.imul, 1) := by decide +kernel
theorem dX7_isClause_71 : decode cX7_isClause 71 = .ok (.iconst 3, 1) := by decide +kernel
theorem dX7_isClause_72 : decode cX7_isClause 72 = .ok (.iadd, 1) := by decide +kernel
theorem dX7_isClause_73 : decode cX7_isClause 73 = .ok (.iconst 0, 1) := by decide +kernel
theorem dX7_isClause_74 : decode cX7_isClause 74 = .ok (.iastore, 1) := by decide +kernel
theorem dX7_isClause_75 : decode cX7_isClause 75 = .ok (.aload_n 0, 1) := by decide +kernel
theorem dX7_isClause_76 : decode cX7_isClause 76 = .ok (.aload_n 0, 1) := by decide +kernel
theorem dX7_isClause_77 : decode cX7_isClause 77 = .ok (.getfield 94, 3) := by decide +kernel
theorem dX7_isClause_80 : decode cX7_isClause 80 = .ok (.invokevirtual 97, 3) := by decide +kernel
theorem dX7_isClause_83 : decode cX7_isClause 83 = .ok (.bipush 61, 2) := by decide +kernel
theorem dX7_isClause_85 : decode cX7_isClause 85 = .ok (.if_icmp .ne 63, 3) := by decide +kernel
theorem dX7_isClause_88 : decode cX7_isClause 88 = .ok (.aload_n 0, 1) := by decide +kernel
theorem dX7_isClause_89 : decode cX7_isClause 89 = .ok (.dup, 1) := by decide +kernel
theorem dX7_isClause_90 : decode cX7_isClause 90 = .ok (.getfield 94, 3) := by decide +kernel
theorem dX7_isClause_93 : decode cX7_isClause 93 = .ok (.iconst 1, 1) := by decide +kernel
theorem dX7_isClause_94 : decode cX7_isClause 94 = .ok (.iadd, 1) := by decide +kernel
theorem dX7_isClause_95 : decode cX7_isClause 95 = .ok (.putfield 94, 3) := by decide +kernel
theorem dX7_isClause_98 : decode cX7_isClause 98 = .ok (.aload_n 0, 1) := by decide +kernel
theorem dX7_isClause_99 : decode cX7_isClause 99 = .ok (.iconst 4, 1) := by decide +kernel
theorem dX7_isClause_100 : decode cX7_isClause 100 = .ok (.iload_n 1, 1) := by decide +kernel
theorem dX7_isClause_101 : decode cX7_isClause 101 = .ok (.imul, 1) := by decide +kernel
theorem dX7_isClause_102 : decode cX7_isClause 102 = .ok (.iconst 2, 1) := by decide +kernel
theorem dX7_isClause_103 : decode cX7_isClause 103 = .ok (.iadd, 1) := by decide +kernel
theorem dX7_isClause_104 : decode cX7_isClause 104 = .ok (.bipush 19, 2) := by decide +kernel
theorem dX7_isClause_106 : decode cX7_isClause 106 = .ok (.invokevirtual 104, 3) := by decide +kernel
theorem dX7_isClause_109 : decode cX7_isClause 109 = .ok (.ifCond .ne 5, 3) := by decide +kernel
theorem dX7_isClause_112 : decode cX7_isClause 112 = .ok (.iconst 0, 1) := by decide +kernel
theorem dX7_isClause_113 : decode cX7_isClause 113 = .ok (.ireturn, 1) := by decide +kernel
theorem dX7_isClause_114 : decode cX7_isClause 114 = .ok (.aload_n 0, 1) := by decide +kernel
theorem dX7_isClause_115 : decode cX7_isClause 115 = .ok (.aload_n 0, 1) := by decide +kernel
theorem dX7_isClause_116 : decode cX7_isClause 116 = .ok (.getfield 94, 3) := by decide +kernel
theorem dX7_isClause_119 : decode cX7_isClause 119 = .ok (.invokevirtual 97, 3) := by decide +kernel
theorem dX7_isClause_122 : decode cX7_isClause 122 = .ok (.bipush 33, 2) := by decide +kernel
theorem dX7_isClause_124 : decode cX7_isClause 124 = .ok (.if_icmp .ne 24, 3) := by decide +kernel
theorem dX7_isClause_127 : decode cX7_isClause 127 = .ok (.aload_n 0, 1) := by decide +kernel
theorem dX7_isClause_128 : decode cX7_isClause 128 = .ok (.dup, 1) := by decide +kernel
theorem dX7_isClause_129 : decode cX7_isClause 129 = .ok (.getfield 94, 3) := by decide +kernel
theorem dX7_isClause_132 : decode cX7_isClause 132 = .ok (.iconst 1, 1) := by decide +kernel
theorem dX7_isClause_133 : decode cX7_isClause 133 = .ok (.iadd, 1) := by decide +kernel
theorem dX7_isClause_134 : decode cX7_isClause 134 = .ok (.putfield 94, 3) := by decide +kernel
theorem dX7_isClause_137 : decode cX7_isClause 137 = .ok (.aload_n 0, 1) := by decide +kernel
theorem dX7_isClause_138 : decode cX7_isClause 138 = .ok (.getfield 24, 3) := by decide +kernel
theorem dX7_isClause_141 : decode cX7_isClause 141 = .ok (.iconst 4, 1) := by decide +kernel
theorem dX7_isClause_142 : decode cX7_isClause 142 = .ok (.iload_n 1, 1) := by decide +kernel
theorem dX7_isClause_143 : decode cX7_isClause 143 = .ok (.imul, 1) := by decide +kernel
theorem dX7_isClause_144 : decode cX7_isClause 144 = .ok (.iconst 3, 1) := by decide +kernel
theorem dX7_isClause_145 : decode cX7_isClause 145 = .ok (.iadd, 1) := by decide +kernel
theorem dX7_isClause_146 : decode cX7_isClause 146 = .ok (.iconst 1, 1) := by decide +kernel
theorem dX7_isClause_147 : decode cX7_isClause 147 = .ok (.iastore, 1) := by decide +kernel
theorem dX7_isClause_148 : decode cX7_isClause 148 = .ok (.iconst 1, 1) := by decide +kernel
theorem dX7_isClause_149 : decode cX7_isClause 149 = .ok (.ireturn, 1) := by decide +kernel
theorem dX7_read_0 : decode cX7_read 0 = .ok (.aload_n 0, 1) := by decide +kernel
theorem dX7_read_1 : decode cX7_read 1 = .ok (.iconst 0, 1) := by decide +kernel
theorem dX7_read_2 : decode cX7_read 2 = .ok (.putfield 94, 3) := by decide +kernel
theorem dX7_read_5 : decode cX7_read 5 = .ok (.iconst 0, 1) := by decide +kernel
theorem dX7_read_6 : decode cX7_read 6 = .ok (.istore_n 1, 1) := by decide +kernel
theorem dX7_read_7 : decode cX7_read 7 = .ok (.iconst 1, 1) := by decide +kernel
theorem dX7_read_8 : decode cX7_read 8 = .ok (.istore_n 2, 1) := by decide +kernel
theorem dX7_read_9 : decode cX7_read 9 = .ok (.iload_n 2, 1) := by decide +kernel
theorem dX7_read_10 : decode cX7_read 10 = .ok (.ifCond .eq 60, 3) := by decide +kernel
theorem dX7_read_13 : decode cX7_read 13 = .ok (.aload_n 0, 1) := by decide +kernel
theorem dX7_read_14 : decode cX7_read 14 = .ok (.iload_n 1, 1) := by decide +kernel
theorem dX7_read_15 : decode cX7_read 15 = .ok (.invokevirtual 107, 3) := by decide +kernel
theorem dX7_read_18 : decode cX7_read 18 = .ok (.istore_n 2, 1) := by decide +kernel
theorem dX7_read_19 : decode cX7_read 19 = .ok (.iload_n 1, 1) := by decide +kernel
theorem dX7_read_20 : decode cX7_read 20 = .ok (.iload_n 2, 1) := by decide +kernel
theorem dX7_read_21 : decode cX7_read 21 = .ok (.ifCond .eq 7, 3) := by decide +kernel
theorem dX7_read_24 : decode cX7_read 24 = .ok (.iconst 1, 1) := by decide +kernel
theorem dX7_read_25 : decode cX7_read 25 = .ok (.goto 4, 3) := by decide +kernel
theorem dX7_read_28 : decode cX7_read 28 = .ok (.iconst 0, 1) := by decide +kernel
theorem dX7_read_29 : decode cX7_read 29 = .ok (.iadd, 1) := by decide +kernel
theorem dX7_read_30 : decode cX7_read 30 = .ok (.istore_n 1, 1) := by decide +kernel
theorem dX7_read_31 : decode cX7_read 31 = .ok (.iload_n 2, 1) := by decide +kernel
theorem dX7_read_32 : decode cX7_read 32 = .ok (.ifCond .eq 38, 3) := by decide +kernel
theorem dX7_read_35 : decode cX7_read 35 = .ok (.iload_n 1, 1) := by decide +kernel
theorem dX7_read_36 : decode cX7_read 36 = .ok (.bipush 8, 2) := by decide +kernel
theorem dX7_read_38 : decode cX7_read 38 = .ok (.if_icmp .eq 32, 3) := by decide +kernel
theorem dX7_read_41 : decode cX7_read 41 = .ok (.aload_n 0, 1) := by decide +kernel
theorem dX7_read_42 : decode cX7_read 42 = .ok (.aload_n 0, 1) := by decide +kernel
theorem dX7_read_43 : decode cX7_read 43 = .ok (.getfield 94, 3) := by decide +kernel
theorem dX7_read_46 : decode cX7_read 46 = .ok (.invokevirtual 97, 3) := by decide +kernel
theorem dX7_read_49 : decode cX7_read 49 = .ok (.bipush 59, 2) := by decide +kernel
theorem dX7_read_51 : decode cX7_read 51 = .ok (.if_icmp .eq 6, 3) := by decide +kernel
theorem dX7_read_54 : decode cX7_read 54 = .ok (.goto 16, 3) := by decide +kernel
theorem dX7_read_57 : decode cX7_read 57 = .ok (.aload_n 0, 1) := by decide +kernel
theorem dX7_read_58 : decode cX7_read 58 = .ok (.dup, 1) := by decide +kernel
theorem dX7_read_59 : decode cX7_read 59 = .ok (.getfield 94, 3) := by decide +kernel
theorem dX7_read_62 : decode cX7_read 62 = .ok (.iconst 1, 1) := by decide +kernel
theorem dX7_read_63 : decode cX7_read 63 = .ok (.iadd, 1) := by decide +kernel
theorem dX7_read_64 : decode cX7_read 64 = .ok (.putfield 94, 3) := by decide +kernel
theorem dX7_read_67 : decode cX7_read 67 = .ok (.goto (-58), 3) := by decide +kernel
theorem dX7_read_70 : decode cX7_read 70 = .ok (.iload_n 2, 1) := by decide +kernel
theorem dX7_read_71 : decode cX7_read 71 = .ok (.ifCond .eq 18, 3) := by decide +kernel
theorem dX7_read_74 : decode cX7_read 74 = .ok (.aload_n 0, 1) := by decide +kernel
theorem dX7_read_75 : decode cX7_read 75 = .ok (.getfield 94, 3) := by decide +kernel
theorem dX7_read_78 : decode cX7_read 78 = .ok (.aload_n 0, 1) := by decide +kernel
theorem dX7_read_79 : decode cX7_read 79 = .ok (.getfield 90, 3) := by decide +kernel
theorem dX7_read_82 : decode cX7_read 82 = .ok (.if_icmp .ne 7, 3) := by decide +kernel
theorem dX7_read_85 : decode cX7_read 85 = .ok (.iconst 1, 1) := by decide +kernel
theorem dX7_read_86 : decode cX7_read 86 = .ok (.goto 4, 3) := by decide +kernel
theorem dX7_read_89 : decode cX7_read 89 = .ok (.iconst 0, 1) := by decide +kernel
theorem dX7_read_90 : decode cX7_read 90 = .ok (.istore_n 2, 1) := by decide +kernel
theorem dX7_read_91 : decode cX7_read 91 = .ok (.aload_n 0, 1) := by decide +kernel
theorem dX7_read_92 : decode cX7_read 92 = .ok (.iconst 0, 1) := by decide +kernel
theorem dX7_read_93 : decode cX7_read 93 = .ok (.putfield 90, 3) := by decide +kernel
theorem dX7_read_96 : decode cX7_read 96 = .ok (.iload_n 2, 1) := by decide +kernel
theorem dX7_read_97 : decode cX7_read 97 = .ok (.ifCond .ne 11, 3) := by decide +kernel
theorem dX7_read_100 : decode cX7_read 100 = .ok (.bipush (-10), 2) := by decide +kernel
theorem dX7_read_102 : decode cX7_read 102 = .ok (.aload_n 0, 1) := by decide +kernel
theorem dX7_read_103 : decode cX7_read 103 = .ok (.getfield 94, 3) := by decide +kernel
theorem dX7_read_106 : decode cX7_read 106 = .ok (.isub, 1) := by decide +kernel
theorem dX7_read_107 : decode cX7_read 107 = .ok (.ireturn, 1) := by decide +kernel
theorem dX7_read_108 : decode cX7_read 108 = .ok (.iconst 0, 1) := by decide +kernel
theorem dX7_read_109 : decode cX7_read 109 = .ok (.istore_n 3, 1) := by decide +kernel
theorem dX7_read_110 : decode cX7_read 110 = .ok (.iconst 0, 1) := by decide +kernel
theorem dX7_read_111 : decode cX7_read 111 = .ok (.istore 4, 2) := by decide +kernel
theorem dX7_read_113 : decode cX7_read 113 = .ok (.iload 4, 2) := by decide +kernel
theorem dX7_read_115 : decode cX7_read 115 = .ok (.iload_n 1, 1) := by decide +kernel
theorem dX7_read_116 : decode cX7_read 116 = .ok (.if_icmp .ge 84, 3) := by decide +kernel
theorem dX7_read_119 : decode cX7_read 119 = .ok (.aload_n 0, 1) := by decide +kernel
theorem dX7_read_120 : decode cX7_read 120 = .ok (.aload_n 0, 1) := by decide +kernel
theorem dX7_read_121 : decode cX7_read 121 = .ok (.getfield 24, 3) := by decide +kernel
theorem dX7_read_124 : decode cX7_read 124 = .ok (.iconst 4, 1) := by decide +kernel
theorem dX7_read_125 : decode cX7_read 125 = .ok (.iload 4, 2) := by decide +kernel
theorem dX7_read_127 : decode cX7_read 127 = .ok (.imul, 1) := by decide +kernel
theorem dX7_read_128 : decode cX7_read 128 = .ok (.iaload, 1) := by decide +kernel
theorem dX7_read_129 : decode cX7_read 129 = .ok (.aload_n 0, 1) := by decide +kernel
theorem dX7_read_130 : decode cX7_read 130 = .ok (.getfield 24, 3) := by decide +kernel
theorem dX7_read_133 : decode cX7_read 133 = .ok (.iconst 4, 1) := by decide +kernel
theorem dX7_read_134 : decode cX7_read 134 = .ok (.iload 4, 2) := by decide +kernel
theorem dX7_read_136 : decode cX7_read 136 = .ok (.imul, 1) := by decide +kernel
theorem dX7_read_137 : decode cX7_read 137 = .ok (.iconst 1, 1) := by decide +kernel
theorem dX7_read_138 : decode cX7_read 138 = .ok (.iadd, 1) := by decide +kernel
theorem dX7_read_139 : decode cX7_read 139 = .ok (.iaload, 1) := by decide +kernel
theorem dX7_read_140 : decode cX7_read 140 = .ok (.invokevirtual 110, 3) := by decide +kernel
theorem dX7_read_143 : decode cX7_read 143 = .ok (.istore 5, 2) := by decide +kernel
theorem dX7_read_145 : decode cX7_read 145 = .ok (.iload 5, 2) := by decide +kernel
theorem dX7_read_147 : decode cX7_read 147 = .ok (.ifCond .lt 47, 3) := by decide +kernel
theorem dX7_read_150 : decode cX7_read 150 = .ok (.aload_n 0, 1) := by decide +kernel
theorem dX7_read_151 : decode cX7_read 151 = .ok (.iload 5, 2) := by decide +kernel
theorem dX7_read_153 : decode cX7_read 153 = .ok (.aload_n 0, 1) := by decide +kernel
theorem dX7_read_154 : decode cX7_read 154 = .ok (.getfield 24, 3) := by decide +kernel
theorem dX7_read_157 : decode cX7_read 157 = .ok (.iconst 4, 1) := by decide +kernel
theorem dX7_read_158 : decode cX7_read 158 = .ok (.iload 4, 2) := by decide +kernel
theorem dX7_read_160 : decode cX7_read 160 = .ok (.imul, 1) := by decide +kernel
theorem dX7_read_161 : decode cX7_read 161 = .ok (.iconst 2, 1) := by decide +kernel
theorem dX7_read_162 : decode cX7_read 162 = .ok (.iadd, 1) := by decide +kernel
theorem dX7_read_163 : decode cX7_read 163 = .ok (.iaload, 1) := by decide +kernel
theorem dX7_read_164 : decode cX7_read 164 = .ok (.invokevirtual 78, 3) := by decide +kernel
theorem dX7_read_167 : decode cX7_read 167 = .ok (.aload_n 0, 1) := by decide +kernel
theorem dX7_read_168 : decode cX7_read 168 = .ok (.getfield 11, 3) := by decide +kernel
theorem dX7_read_171 : decode cX7_read 171 = .ok (.iconst 4, 1) := by decide +kernel
theorem dX7_read_172 : decode cX7_read 172 = .ok (.iconst 4, 1) := by decide +kernel
theorem dX7_read_173 : decode cX7_read 173 = .ok (.iload 5, 2) := by decide +kernel
theorem dX7_read_175 : decode cX7_read 175 = .ok (.imul, 1) := by decide +kernel
theorem dX7_read_176 : decode cX7_read 176 = .ok (.iadd, 1) := by decide +kernel
theorem dX7_read_177 : decode cX7_read 177 = .ok (.iconst 3, 1) := by decide +kernel
theorem dX7_read_178 : decode cX7_read 178 = .ok (.iadd, 1) := by decide +kernel
theorem dX7_read_179 : decode cX7_read 179 = .ok (.aload_n 0, 1) := by decide +kernel
theorem dX7_read_180 : decode cX7_read 180 = .ok (.getfield 24, 3) := by decide +kernel
theorem dX7_read_183 : decode cX7_read 183 = .ok (.iconst 4, 1) := by decide +kernel
theorem dX7_read_184 : decode cX7_read 184 = .ok (.iload 4, 2) := by decide +kernel
theorem dX7_read_186 : decode cX7_read 186 = .ok (.imul, 1) := by decide +kernel
theorem dX7_read_187 : decode cX7_read 187 = .ok (.iconst 3, 1) := by decide +kernel
theorem dX7_read_188 : decode cX7_read 188 = .ok (.iadd, 1) := by decide +kernel
theorem dX7_read_189 : decode cX7_read 189 = .ok (.iaload, 1) := by decide +kernel
theorem dX7_read_190 : decode cX7_read 190 = .ok (.iastore, 1) := by decide +kernel
theorem dX7_read_191 : decode cX7_read 191 = .ok (.iinc 3 1, 3) := by decide +kernel
theorem dX7_read_194 : decode cX7_read 194 = .ok (.iinc 4 1, 3) := by decide +kernel
theorem dX7_read_197 : decode cX7_read 197 = .ok (.goto (-84), 3) := by decide +kernel
theorem dX7_read_200 : decode cX7_read 200 = .ok (.iload_n 3, 1) := by decide +kernel
theorem dX7_read_201 : decode cX7_read 201 = .ok (.ireturn, 1) := by decide +kernel
theorem dX7_apartOf_0 : decode cX7_apartOf 0 = .ok (.aload_n 0, 1) := by decide +kernel
theorem dX7_apartOf_1 : decode cX7_apartOf 1 = .ok (.iload_n 1, 1) := by decide +kernel
theorem dX7_apartOf_2 : decode cX7_apartOf 2 = .ok (.invokevirtual 41, 3) := by decide +kernel
theorem dX7_apartOf_5 : decode cX7_apartOf 5 = .ok (.aload_n 0, 1) := by decide +kernel
theorem dX7_apartOf_6 : decode cX7_apartOf 6 = .ok (.iload_n 2, 1) := by decide +kernel
theorem dX7_apartOf_7 : decode cX7_apartOf 7 = .ok (.invokevirtual 41, 3) := by decide +kernel
theorem dX7_apartOf_10 : decode cX7_apartOf 10 = .ok (.isub, 1) := by decide +kernel
theorem dX7_apartOf_11 : decode cX7_apartOf 11 = .ok (.invokestatic 85, 3) := by decide +kernel
theorem dX7_apartOf_14 : decode cX7_apartOf 14 = .ok (.aload_n 0, 1) := by decide +kernel
theorem dX7_apartOf_15 : decode cX7_apartOf 15 = .ok (.iload_n 1, 1) := by decide +kernel
theorem dX7_apartOf_16 : decode cX7_apartOf 16 = .ok (.invokevirtual 45, 3) := by decide +kernel
theorem dX7_apartOf_19 : decode cX7_apartOf 19 = .ok (.aload_n 0, 1) := by decide +kernel
theorem dX7_apartOf_20 : decode cX7_apartOf 20 = .ok (.iload_n 2, 1) := by decide +kernel
theorem dX7_apartOf_21 : decode cX7_apartOf 21 = .ok (.invokevirtual 45, 3) := by decide +kernel
theorem dX7_apartOf_24 : decode cX7_apartOf 24 = .ok (.isub, 1) := by decide +kernel
theorem dX7_apartOf_25 : decode cX7_apartOf 25 = .ok (.invokestatic 85, 3) := by decide +kernel
theorem dX7_apartOf_28 : decode cX7_apartOf 28 = .ok (.iadd, 1) := by decide +kernel
theorem dX7_apartOf_29 : decode cX7_apartOf 29 = .ok (.istore_n 3, 1) := by decide +kernel
theorem dX7_apartOf_30 : decode cX7_apartOf 30 = .ok (.iconst 0, 1) := by decide +kernel
theorem dX7_apartOf_31 : decode cX7_apartOf 31 = .ok (.istore 4, 2) := by decide +kernel
theorem dX7_apartOf_33 : decode cX7_apartOf 33 = .ok (.iconst 0, 1) := by decide +kernel
theorem dX7_apartOf_34 : decode cX7_apartOf 34 = .ok (.istore 5, 2) := by decide +kernel
theorem dX7_apartOf_36 : decode cX7_apartOf 36 = .ok (.iload 5, 2) := by decide +kernel
theorem dX7_apartOf_38 : decode cX7_apartOf 38 = .ok (.iconst 3, 1) := by decide +kernel
theorem dX7_apartOf_39 : decode cX7_apartOf 39 = .ok (.if_icmp .ge 63, 3) := by decide +kernel
theorem dX7_apartOf_42 : decode cX7_apartOf 42 = .ok (.aload_n 0, 1) := by decide +kernel
theorem dX7_apartOf_43 : decode cX7_apartOf 43 = .ok (.getfield 11, 3) := by decide +kernel
theorem dX7_apartOf_46 : decode cX7_apartOf 46 = .ok (.bipush 36, 2) := by decide +kernel
theorem dX7_apartOf_48 : decode cX7_apartOf 48 = .ok (.iconst 2, 1) := by decide +kernel
theorem dX7_apartOf_49 : decode cX7_apartOf 49 = .ok (.iload 5, 2) := by decide +kernel
theorem dX7_apartOf_51 : decode cX7_apartOf 51 = .ok (.imul, 1) := by decide +kernel
theorem dX7_apartOf_52 : decode cX7_apartOf 52 = .ok (.iadd, 1) := by decide +kernel
theorem dX7_apartOf_53 : decode cX7_apartOf 53 = .ok (.iaload, 1) := by decide +kernel
theorem dX7_apartOf_54 : decode cX7_apartOf 54 = .ok (.istore 6, 2) := by decide +kernel
theorem dX7_apartOf_56 : decode cX7_apartOf 56 = .ok (.iload 6, 2) := by decide +kernel
theorem dX7_apartOf_58 : decode cX7_apartOf 58 = .ok (.ifCond .le 34, 3) := by decide +kernel
theorem dX7_apartOf_61 : decode cX7_apartOf 61 = .ok (.iload_n 3, 1) := by decide +kernel
theorem dX7_apartOf_62 : decode cX7_apartOf 62 = .ok (.iload 6, 2) := by decide +kernel
theorem dX7_apartOf_64 : decode cX7_apartOf 64 = .ok (.iload 6, 2) := by decide +kernel
theorem dX7_apartOf_66 : decode cX7_apartOf 66 = .ok (.imul, 1) := by decide +kernel
theorem dX7_apartOf_67 : decode cX7_apartOf 67 = .ok (.if_icmp .gt 25, 3) := by decide +kernel
theorem dX7_apartOf_70 : decode cX7_apartOf 70 = .ok (.iload 4, 2) := by decide +kernel
theorem dX7_apartOf_72 : decode cX7_apartOf 72 = .ok (.aload_n 0, 1) := by decide +kernel
theorem dX7_apartOf_73 : decode cX7_apartOf 73 = .ok (.getfield 11, 3) := by decide +kernel
theorem dX7_apartOf_76 : decode cX7_apartOf 76 = .ok (.bipush 36, 2) := by decide +kernel
theorem dX7_apartOf_78 : decode cX7_apartOf 78 = .ok (.iconst 2, 1) := by decide +kernel
theorem dX7_apartOf_79 : decode cX7_apartOf 79 = .ok (.iload 5, 2) := by decide +kernel
theorem dX7_apartOf_81 : decode cX7_apartOf 81 = .ok (.imul, 1) := by decide +kernel
theorem dX7_apartOf_82 : decode cX7_apartOf 82 = .ok (.iadd, 1) := by decide +kernel
theorem dX7_apartOf_83 : decode cX7_apartOf 83 = .ok (.iconst 1, 1) := by decide +kernel
theorem dX7_apartOf_84 : decode cX7_apartOf 84 = .ok (.iadd, 1) := by decide +kernel
theorem dX7_apartOf_85 : decode cX7_apartOf 85 = .ok (.iaload, 1) := by decide +kernel
theorem dX7_apartOf_86 : decode cX7_apartOf 86 = .ok (.invokestatic 113, 3) := by decide +kernel
theorem dX7_apartOf_89 : decode cX7_apartOf 89 = .ok (.goto 5, 3) := by decide +kernel
theorem dX7_apartOf_92 : decode cX7_apartOf 92 = .ok (.iload 4, 2) := by decide +kernel
theorem dX7_apartOf_94 : decode cX7_apartOf 94 = .ok (.istore 4, 2) := by decide +kernel
theorem dX7_apartOf_96 : decode cX7_apartOf 96 = .ok (.iinc 5 1, 3) := by decide +kernel
theorem dX7_apartOf_99 : decode cX7_apartOf 99 = .ok (.goto (-63), 3) := by decide +kernel
theorem dX7_apartOf_102 : decode cX7_apartOf 102 = .ok (.iload 4, 2) := by decide +kernel
theorem dX7_apartOf_104 : decode cX7_apartOf 104 = .ok (.ireturn, 1) := by decide +kernel
theorem dX7_isClash_0 : decode cX7_isClash 0 = .ok (.iload_n 1, 1) := by decide +kernel
theorem dX7_isClash_1 : decode cX7_isClash 1 = .ok (.iload_n 2, 1) := by decide +kernel
theorem dX7_isClash_2 : decode cX7_isClash 2 = .ok (.if_icmp .eq 46, 3) := by decide +kernel
theorem dX7_isClash_5 : decode cX7_isClash 5 = .ok (.aload_n 0, 1) := by decide +kernel
theorem dX7_isClash_6 : decode cX7_isClash 6 = .ok (.iload_n 1, 1) := by decide +kernel
theorem dX7_isClash_7 : decode cX7_isClash 7 = .ok (.invokevirtual 75, 3) := by decide +kernel
theorem dX7_isClash_10 : decode cX7_isClash 10 = .ok (.ifCond .lt 38, 3) := by decide +kernel
theorem dX7_isClash_13 : decode cX7_isClash 13 = .ok (.aload_n 0, 1) := by decide +kernel
theorem dX7_isClash_14 : decode cX7_isClash 14 = .ok (.iload_n 2, 1) := by decide +kernel
theorem dX7_isClash_15 : decode cX7_isClash 15 = .ok (.invokevirtual 75, 3) := by decide +kernel
theorem dX7_isClash_18 : decode cX7_isClash 18 = .ok (.ifCond .lt 30, 3) := by decide +kernel
theorem dX7_isClash_21 : decode cX7_isClash 21 = .ok (.aload_n 0, 1) := by decide +kernel
theorem dX7_isClash_22 : decode cX7_isClash 22 = .ok (.iload_n 1, 1) := by decide +kernel
theorem dX7_isClash_23 : decode cX7_isClash 23 = .ok (.invokevirtual 75, 3) := by decide +kernel
theorem dX7_isClash_26 : decode cX7_isClash 26 = .ok (.aload_n 0, 1) := by decide +kernel
theorem dX7_isClash_27 : decode cX7_isClash 27 = .ok (.iload_n 2, 1) := by decide +kernel
theorem dX7_isClash_28 : decode cX7_isClash 28 = .ok (.invokevirtual 75, 3) := by decide +kernel
theorem dX7_isClash_31 : decode cX7_isClash 31 = .ok (.isub, 1) := by decide +kernel
theorem dX7_isClash_32 : decode cX7_isClash 32 = .ok (.invokestatic 118, 3) := by decide +kernel
theorem dX7_isClash_35 : decode cX7_isClash 35 = .ok (.aload_n 0, 1) := by decide +kernel
theorem dX7_isClash_36 : decode cX7_isClash 36 = .ok (.iload_n 1, 1) := by decide +kernel
theorem dX7_isClash_37 : decode cX7_isClash 37 = .ok (.iload_n 2, 1) := by decide +kernel
theorem dX7_isClash_38 : decode cX7_isClash 38 = .ok (.invokevirtual 121, 3) := by decide +kernel
theorem dX7_isClash_41 : decode cX7_isClash 41 = .ok (.if_icmp .ge 7, 3) := by decide +kernel
theorem dX7_isClash_44 : decode cX7_isClash 44 = .ok (.iconst 1, 1) := by decide +kernel
theorem dX7_isClash_45 : decode cX7_isClash 45 = .ok (.goto 4, 3) := by decide +kernel
theorem dX7_isClash_48 : decode cX7_isClash 48 = .ok (.iconst 0, 1) := by decide +kernel
theorem dX7_isClash_49 : decode cX7_isClash 49 = .ok (.ireturn, 1) := by decide +kernel
theorem dX7_clashesOf_0 : decode cX7_clashesOf 0 = .ok (.iconst 0, 1) := by decide +kernel
theorem dX7_clashesOf_1 : decode cX7_clashesOf 1 = .ok (.istore_n 2, 1) := by decide +kernel
theorem dX7_clashesOf_2 : decode cX7_clashesOf 2 = .ok (.iconst 0, 1) := by decide +kernel
theorem dX7_clashesOf_3 : decode cX7_clashesOf 3 = .ok (.istore_n 3, 1) := by decide +kernel
theorem dX7_clashesOf_4 : decode cX7_clashesOf 4 = .ok (.iload_n 3, 1) := by decide +kernel
theorem dX7_clashesOf_5 : decode cX7_clashesOf 5 = .ok (.aload_n 0, 1) := by decide +kernel
theorem dX7_clashesOf_6 : decode cX7_clashesOf 6 = .ok (.getfield 11, 3) := by decide +kernel
theorem dX7_clashesOf_9 : decode cX7_clashesOf 9 = .ok (.iconst 0, 1) := by decide +kernel
theorem dX7_clashesOf_10 : decode cX7_clashesOf 10 = .ok (.iaload, 1) := by decide +kernel
theorem dX7_clashesOf_11 : decode cX7_clashesOf 11 = .ok (.if_icmp .ge 26, 3) := by decide +kernel
theorem dX7_clashesOf_14 : decode cX7_clashesOf 14 = .ok (.iload_n 2, 1) := by decide +kernel
theorem dX7_clashesOf_15 : decode cX7_clashesOf 15 = .ok (.aload_n 0, 1) := by decide +kernel
theorem dX7_clashesOf_16 : decode cX7_clashesOf 16 = .ok (.iload_n 1, 1) := by decide +kernel
theorem dX7_clashesOf_17 : decode cX7_clashesOf 17 = .ok (.iload_n 3, 1) := by decide +kernel
theorem dX7_clashesOf_18 : decode cX7_clashesOf 18 = .ok (.invokevirtual 124, 3) := by decide +kernel
theorem dX7_clashesOf_21 : decode cX7_clashesOf 21 = .ok (.ifCond .eq 7, 3) := by decide +kernel
theorem dX7_clashesOf_24 : decode cX7_clashesOf 24 = .ok (.iconst 1, 1) := by decide +kernel
theorem dX7_clashesOf_25 : decode cX7_clashesOf 25 = .ok (.goto 4, 3) := by decide +kernel
theorem dX7_clashesOf_28 : decode cX7_clashesOf 28 = .ok (.iconst 0, 1) := by decide +kernel
theorem dX7_clashesOf_29 : decode cX7_clashesOf 29 = .ok (.iadd, 1) := by decide +kernel
theorem dX7_clashesOf_30 : decode cX7_clashesOf 30 = .ok (.istore_n 2, 1) := by decide +kernel
theorem dX7_clashesOf_31 : decode cX7_clashesOf 31 = .ok (.iinc 3 1, 3) := by decide +kernel
theorem dX7_clashesOf_34 : decode cX7_clashesOf 34 = .ok (.goto (-30), 3) := by decide +kernel
theorem dX7_clashesOf_37 : decode cX7_clashesOf 37 = .ok (.iload_n 2, 1) := by decide +kernel
theorem dX7_clashesOf_38 : decode cX7_clashesOf 38 = .ok (.ireturn, 1) := by decide +kernel
theorem dX7_clashes_0 : decode cX7_clashes 0 = .ok (.iconst 0, 1) := by decide +kernel
theorem dX7_clashes_1 : decode cX7_clashes 1 = .ok (.istore_n 1, 1) := by decide +kernel
theorem dX7_clashes_2 : decode cX7_clashes 2 = .ok (.iconst 0, 1) := by decide +kernel
theorem dX7_clashes_3 : decode cX7_clashes 3 = .ok (.istore_n 2, 1) := by decide +kernel
theorem dX7_clashes_4 : decode cX7_clashes 4 = .ok (.iload_n 2, 1) := by decide +kernel
theorem dX7_clashes_5 : decode cX7_clashes 5 = .ok (.aload_n 0, 1) := by decide +kernel
theorem dX7_clashes_6 : decode cX7_clashes 6 = .ok (.getfield 11, 3) := by decide +kernel
theorem dX7_clashes_9 : decode cX7_clashes 9 = .ok (.iconst 0, 1) := by decide +kernel
theorem dX7_clashes_10 : decode cX7_clashes 10 = .ok (.iaload, 1) := by decide +kernel
theorem dX7_clashes_11 : decode cX7_clashes 11 = .ok (.if_icmp .ge 17, 3) := by decide +kernel
theorem dX7_clashes_14 : decode cX7_clashes 14 = .ok (.iload_n 1, 1) := by decide +kernel
theorem dX7_clashes_15 : decode cX7_clashes 15 = .ok (.aload_n 0, 1) := by decide +kernel
theorem dX7_clashes_16 : decode cX7_clashes 16 = .ok (.iload_n 2, 1) := by decide +kernel
theorem dX7_clashes_17 : decode cX7_clashes 17 = .ok (.invokevirtual 127, 3) := by decide +kernel
theorem dX7_clashes_20 : decode cX7_clashes 20 = .ok (.iadd, 1) := by decide +kernel
theorem dX7_clashes_21 : decode cX7_clashes 21 = .ok (.istore_n 1, 1) := by decide +kernel
theorem dX7_clashes_22 : decode cX7_clashes 22 = .ok (.iinc 2 1, 3) := by decide +kernel
theorem dX7_clashes_25 : decode cX7_clashes 25 = .ok (.goto (-21), 3) := by decide +kernel
theorem dX7_clashes_28 : decode cX7_clashes 28 = .ok (.iload_n 1, 1) := by decide +kernel
theorem dX7_clashes_29 : decode cX7_clashes 29 = .ok (.iconst 2, 1) := by decide +kernel
theorem dX7_clashes_30 : decode cX7_clashes 30 = .ok (.idiv, 1) := by decide +kernel
theorem dX7_clashes_31 : decode cX7_clashes 31 = .ok (.ireturn, 1) := by decide +kernel
theorem dX7_isAllowed_0 : decode cX7_isAllowed 0 = .ok (.iconst 0, 1) := by decide +kernel
theorem dX7_isAllowed_1 : decode cX7_isAllowed 1 = .ok (.istore_n 3, 1) := by decide +kernel
theorem dX7_isAllowed_2 : decode cX7_isAllowed 2 = .ok (.iload_n 3, 1) := by decide +kernel
theorem dX7_isAllowed_3 : decode cX7_isAllowed 3 = .ok (.aload_n 0, 1) := by decide +kernel
theorem dX7_isAllowed_4 : decode cX7_isAllowed 4 = .ok (.getfield 11, 3) := by decide +kernel
theorem dX7_isAllowed_7 : decode cX7_isAllowed 7 = .ok (.iconst 0, 1) := by decide +kernel
theorem dX7_isAllowed_8 : decode cX7_isAllowed 8 = .ok (.iaload, 1) := by decide +kernel
theorem dX7_isAllowed_9 : decode cX7_isAllowed 9 = .ok (.if_icmp .ge 43, 3) := by decide +kernel
theorem dX7_isAllowed_12 : decode cX7_isAllowed 12 = .ok (.iload_n 3, 1) := by decide +kernel
theorem dX7_isAllowed_13 : decode cX7_isAllowed 13 = .ok (.iload_n 1, 1) := by decide +kernel
theorem dX7_isAllowed_14 : decode cX7_isAllowed 14 = .ok (.if_icmp .eq 32, 3) := by decide +kernel
theorem dX7_isAllowed_17 : decode cX7_isAllowed 17 = .ok (.aload_n 0, 1) := by decide +kernel
theorem dX7_isAllowed_18 : decode cX7_isAllowed 18 = .ok (.iload_n 3, 1) := by decide +kernel
theorem dX7_isAllowed_19 : decode cX7_isAllowed 19 = .ok (.invokevirtual 75, 3) := by decide +kernel
theorem dX7_isAllowed_22 : decode cX7_isAllowed 22 = .ok (.ifCond .lt 24, 3) := by decide +kernel
theorem dX7_isAllowed_25 : decode cX7_isAllowed 25 = .ok (.aload_n 0, 1) := by decide +kernel
theorem dX7_isAllowed_26 : decode cX7_isAllowed 26 = .ok (.iload_n 3, 1) := by decide +kernel
theorem dX7_isAllowed_27 : decode cX7_isAllowed 27 = .ok (.invokevirtual 75, 3) := by decide +kernel
theorem dX7_isAllowed_30 : decode cX7_isAllowed 30 = .ok (.iload_n 2, 1) := by decide +kernel
theorem dX7_isAllowed_31 : decode cX7_isAllowed 31 = .ok (.isub, 1) := by decide +kernel
theorem dX7_isAllowed_32 : decode cX7_isAllowed 32 = .ok (.invokestatic 118, 3) := by decide +kernel
theorem dX7_isAllowed_35 : decode cX7_isAllowed 35 = .ok (.aload_n 0, 1) := by decide +kernel
theorem dX7_isAllowed_36 : decode cX7_isAllowed 36 = .ok (.iload_n 1, 1) := by decide +kernel
theorem dX7_isAllowed_37 : decode cX7_isAllowed 37 = .ok (.iload_n 3, 1) := by decide +kernel
theorem dX7_isAllowed_38 : decode cX7_isAllowed 38 = .ok (.invokevirtual 121, 3) := by decide +kernel
theorem dX7_isAllowed_41 : decode cX7_isAllowed 41 = .ok (.if_icmp .ge 5, 3) := by decide +kernel
theorem dX7_isAllowed_44 : decode cX7_isAllowed 44 = .ok (.iconst 0, 1) := by decide +kernel
theorem dX7_isAllowed_45 : decode cX7_isAllowed 45 = .ok (.ireturn, 1) := by decide +kernel
theorem dX7_isAllowed_46 : decode cX7_isAllowed 46 = .ok (.iinc 3 1, 3) := by decide +kernel
theorem dX7_isAllowed_49 : decode cX7_isAllowed 49 = .ok (.goto (-47), 3) := by decide +kernel
theorem dX7_isAllowed_52 : decode cX7_isAllowed 52 = .ok (.iconst 1, 1) := by decide +kernel
theorem dX7_isAllowed_53 : decode cX7_isAllowed 53 = .ok (.ireturn, 1) := by decide +kernel
theorem dX7_allowed_0 : decode cX7_allowed 0 = .ok (.iconst 0, 1) := by decide +kernel
theorem dX7_allowed_1 : decode cX7_allowed 1 = .ok (.istore_n 3, 1) := by decide +kernel
theorem dX7_allowed_2 : decode cX7_allowed 2 = .ok (.iconst 0, 1) := by decide +kernel
theorem dX7_allowed_3 : decode cX7_allowed 3 = .ok (.istore 4, 2) := by decide +kernel
theorem dX7_allowed_5 : decode cX7_allowed 5 = .ok (.iload 4, 2) := by decide +kernel
theorem dX7_allowed_7 : decode cX7_allowed 7 = .ok (.iload_n 2, 1) := by decide +kernel
theorem dX7_allowed_8 : decode cX7_allowed 8 = .ok (.if_icmp .ge 27, 3) := by decide +kernel
theorem dX7_allowed_11 : decode cX7_allowed 11 = .ok (.iload_n 3, 1) := by decide +kernel
theorem dX7_allowed_12 : decode cX7_allowed 12 = .ok (.aload_n 0, 1) := by decide +kernel
theorem dX7_allowed_13 : decode cX7_allowed 13 = .ok (.iload_n 1, 1) := by decide +kernel
theorem dX7_allowed_14 : decode cX7_allowed 14 = .ok (.iload 4, 2) := by decide +kernel
theorem dX7_allowed_16 : decode cX7_allowed 16 = .ok (.invokevirtual 130, 3) := by decide +kernel
theorem dX7_allowed_19 : decode cX7_allowed 19 = .ok (.ifCond .eq 7, 3) := by decide +kernel
theorem dX7_allowed_22 : decode cX7_allowed 22 = .ok (.iconst 1, 1) := by decide +kernel
theorem dX7_allowed_23 : decode cX7_allowed 23 = .ok (.goto 4, 3) := by decide +kernel
theorem dX7_allowed_26 : decode cX7_allowed 26 = .ok (.iconst 0, 1) := by decide +kernel
theorem dX7_allowed_27 : decode cX7_allowed 27 = .ok (.iadd, 1) := by decide +kernel
theorem dX7_allowed_28 : decode cX7_allowed 28 = .ok (.istore_n 3, 1) := by decide +kernel
theorem dX7_allowed_29 : decode cX7_allowed 29 = .ok (.iinc 4 1, 3) := by decide +kernel
theorem dX7_allowed_32 : decode cX7_allowed 32 = .ok (.goto (-27), 3) := by decide +kernel
theorem dX7_allowed_35 : decode cX7_allowed 35 = .ok (.iload_n 3, 1) := by decide +kernel
theorem dX7_allowed_36 : decode cX7_allowed 36 = .ok (.ireturn, 1) := by decide +kernel
theorem dX7_leastAllowed_0 : decode cX7_leastAllowed 0 = .ok (.iconst 0, 1) := by decide +kernel
theorem dX7_leastAllowed_1 : decode cX7_leastAllowed 1 = .ok (.istore_n 2, 1) := by decide +kernel
theorem dX7_leastAllowed_2 : decode cX7_leastAllowed 2 = .ok (.iload_n 2, 1) := by decide +kernel
theorem dX7_leastAllowed_3 : decode cX7_leastAllowed 3 = .ok (.bipush 20, 2) := by decide +kernel
theorem dX7_leastAllowed_5 : decode cX7_leastAllowed 5 = .ok (.if_icmp .ge 20, 3) := by decide +kernel
theorem dX7_leastAllowed_8 : decode cX7_leastAllowed 8 = .ok (.aload_n 0, 1) := by decide +kernel
theorem dX7_leastAllowed_9 : decode cX7_leastAllowed 9 = .ok (.iload_n 1, 1) := by decide +kernel
theorem dX7_leastAllowed_10 : decode cX7_leastAllowed 10 = .ok (.iload_n 2, 1) := by decide +kernel
theorem dX7_leastAllowed_11 : decode cX7_leastAllowed 11 = .ok (.invokevirtual 130, 3) := by decide +kernel
theorem dX7_leastAllowed_14 : decode cX7_leastAllowed 14 = .ok (.ifCond .eq 5, 3) := by decide +kernel
theorem dX7_leastAllowed_17 : decode cX7_leastAllowed 17 = .ok (.iload_n 2, 1) := by decide +kernel
theorem dX7_leastAllowed_18 : decode cX7_leastAllowed 18 = .ok (.ireturn, 1) := by decide +kernel
theorem dX7_leastAllowed_19 : decode cX7_leastAllowed 19 = .ok (.iinc 2 1, 3) := by decide +kernel
theorem dX7_leastAllowed_22 : decode cX7_leastAllowed 22 = .ok (.goto (-20), 3) := by decide +kernel
theorem dX7_leastAllowed_25 : decode cX7_leastAllowed 25 = .ok (.bipush (-5), 2) := by decide +kernel
theorem dX7_leastAllowed_27 : decode cX7_leastAllowed 27 = .ok (.ireturn, 1) := by decide +kernel
theorem dX7_apartMany_0 : decode cX7_apartMany 0 = .ok (.iconst 0, 1) := by decide +kernel
theorem dX7_apartMany_1 : decode cX7_apartMany 1 = .ok (.istore_n 2, 1) := by decide +kernel
theorem dX7_apartMany_2 : decode cX7_apartMany 2 = .ok (.iconst 0, 1) := by decide +kernel
theorem dX7_apartMany_3 : decode cX7_apartMany 3 = .ok (.istore_n 3, 1) := by decide +kernel
theorem dX7_apartMany_4 : decode cX7_apartMany 4 = .ok (.iload_n 3, 1) := by decide +kernel
theorem dX7_apartMany_5 : decode cX7_apartMany 5 = .ok (.aload_n 0, 1) := by decide +kernel
theorem dX7_apartMany_6 : decode cX7_apartMany 6 = .ok (.getfield 11, 3) := by decide +kernel
theorem dX7_apartMany_9 : decode cX7_apartMany 9 = .ok (.iconst 0, 1) := by decide +kernel
theorem dX7_apartMany_10 : decode cX7_apartMany 10 = .ok (.iaload, 1) := by decide +kernel
theorem dX7_apartMany_11 : decode cX7_apartMany 11 = .ok (.if_icmp .ge 31, 3) := by decide +kernel
theorem dX7_apartMany_14 : decode cX7_apartMany 14 = .ok (.iload_n 2, 1) := by decide +kernel
theorem dX7_apartMany_15 : decode cX7_apartMany 15 = .ok (.iload_n 3, 1) := by decide +kernel
theorem dX7_apartMany_16 : decode cX7_apartMany 16 = .ok (.iload_n 1, 1) := by decide +kernel
theorem dX7_apartMany_17 : decode cX7_apartMany 17 = .ok (.if_icmp .eq 16, 3) := by decide +kernel
theorem dX7_apartMany_20 : decode cX7_apartMany 20 = .ok (.aload_n 0, 1) := by decide +kernel
theorem dX7_apartMany_21 : decode cX7_apartMany 21 = .ok (.iload_n 1, 1) := by decide +kernel
theorem dX7_apartMany_22 : decode cX7_apartMany 22 = .ok (.iload_n 3, 1) := by decide +kernel
theorem dX7_apartMany_23 : decode cX7_apartMany 23 = .ok (.invokevirtual 121, 3) := by decide +kernel
theorem dX7_apartMany_26 : decode cX7_apartMany 26 = .ok (.ifCond .le 7, 3) := by decide +kernel
theorem dX7_apartMany_29 : decode cX7_apartMany 29 = .ok (.iconst 1, 1) := by decide +kernel
theorem dX7_apartMany_30 : decode cX7_apartMany 30 = .ok (.goto 4, 3) := by decide +kernel
theorem dX7_apartMany_33 : decode cX7_apartMany 33 = .ok (.iconst 0, 1) := by decide +kernel
theorem dX7_apartMany_34 : decode cX7_apartMany 34 = .ok (.iadd, 1) := by decide +kernel
theorem dX7_apartMany_35 : decode cX7_apartMany 35 = .ok (.istore_n 2, 1) := by decide +kernel
theorem dX7_apartMany_36 : decode cX7_apartMany 36 = .ok (.iinc 3 1, 3) := by decide +kernel
theorem dX7_apartMany_39 : decode cX7_apartMany 39 = .ok (.goto (-35), 3) := by decide +kernel
theorem dX7_apartMany_42 : decode cX7_apartMany 42 = .ok (.iload_n 2, 1) := by decide +kernel
theorem dX7_apartMany_43 : decode cX7_apartMany 43 = .ok (.ireturn, 1) := by decide +kernel
theorem dX7_of_0 : decode cX7_of 0 = .ok (.aload_n 0, 1) := by decide +kernel
theorem dX7_of_1 : decode cX7_of 1 = .ok (.iload_n 1, 1) := by decide +kernel
theorem dX7_of_2 : decode cX7_of 2 = .ok (.invokevirtual 64, 3) := by decide +kernel
theorem dX7_of_5 : decode cX7_of 5 = .ok (.ifCond .eq 15, 3) := by decide +kernel
theorem dX7_of_8 : decode cX7_of 8 = .ok (.iload_n 2, 1) := by decide +kernel
theorem dX7_of_9 : decode cX7_of 9 = .ok (.i2l, 1) := by decide +kernel
theorem dX7_of_10 : decode cX7_of 10 = .ok (.lconst 0, 1) := by decide +kernel
theorem dX7_of_11 : decode cX7_of 11 = .ok (.ldc2_w 133, 3) := by decide +kernel
theorem dX7_of_14 : decode cX7_of 14 = .ok (.invokestatic 37, 3) := by decide +kernel
theorem dX7_of_17 : decode cX7_of 17 = .ok (.ifCond .ne 5, 3) := by decide +kernel
theorem dX7_of_20 : decode cX7_of 20 = .ok (.iconst (-1), 1) := by decide +kernel
theorem dX7_of_21 : decode cX7_of 21 = .ok (.ireturn, 1) := by decide +kernel
theorem dX7_of_22 : decode cX7_of 22 = .ok (.iload_n 2, 1) := by decide +kernel
theorem dX7_of_23 : decode cX7_of 23 = .ok (.tableswitch 72 2 7 #[37, 72, 46, 54, 60, 66], 37) := by decide +kernel
theorem dX7_of_60 : decode cX7_of 60 = .ok (.aload_n 0, 1) := by decide +kernel
theorem dX7_of_61 : decode cX7_of 61 = .ok (.iload_n 1, 1) := by decide +kernel
theorem dX7_of_62 : decode cX7_of 62 = .ok (.invokevirtual 75, 3) := by decide +kernel
theorem dX7_of_65 : decode cX7_of 65 = .ok (.invokestatic 82, 3) := by decide +kernel
theorem dX7_of_68 : decode cX7_of 68 = .ok (.ireturn, 1) := by decide +kernel
theorem dX7_of_69 : decode cX7_of 69 = .ok (.aload_n 0, 1) := by decide +kernel
theorem dX7_of_70 : decode cX7_of 70 = .ok (.iload_n 1, 1) := by decide +kernel
theorem dX7_of_71 : decode cX7_of 71 = .ok (.bipush 20, 2) := by decide +kernel
theorem dX7_of_73 : decode cX7_of 73 = .ok (.invokevirtual 135, 3) := by decide +kernel
theorem dX7_of_76 : decode cX7_of 76 = .ok (.ireturn, 1) := by decide +kernel
theorem dX7_of_77 : decode cX7_of 77 = .ok (.aload_n 0, 1) := by decide +kernel
theorem dX7_of_78 : decode cX7_of 78 = .ok (.iload_n 1, 1) := by decide +kernel
theorem dX7_of_79 : decode cX7_of 79 = .ok (.invokevirtual 138, 3) := by decide +kernel
theorem dX7_of_82 : decode cX7_of 82 = .ok (.ireturn, 1) := by decide +kernel
theorem dX7_of_83 : decode cX7_of 83 = .ok (.aload_n 0, 1) := by decide +kernel
theorem dX7_of_84 : decode cX7_of 84 = .ok (.iload_n 1, 1) := by decide +kernel
theorem dX7_of_85 : decode cX7_of 85 = .ok (.invokevirtual 141, 3) := by decide +kernel
theorem dX7_of_88 : decode cX7_of 88 = .ok (.ireturn, 1) := by decide +kernel
theorem dX7_of_89 : decode cX7_of 89 = .ok (.aload_n 0, 1) := by decide +kernel
theorem dX7_of_90 : decode cX7_of 90 = .ok (.iload_n 1, 1) := by decide +kernel
theorem dX7_of_91 : decode cX7_of 91 = .ok (.invokevirtual 127, 3) := by decide +kernel
theorem dX7_of_94 : decode cX7_of 94 = .ok (.ireturn, 1) := by decide +kernel
theorem dX7_of_95 : decode cX7_of 95 = .ok (.aload_n 0, 1) := by decide +kernel
theorem dX7_of_96 : decode cX7_of 96 = .ok (.getfield 11, 3) := by decide +kernel
theorem dX7_of_99 : decode cX7_of 99 = .ok (.iconst 4, 1) := by decide +kernel
theorem dX7_of_100 : decode cX7_of 100 = .ok (.iconst 4, 1) := by decide +kernel
theorem dX7_of_101 : decode cX7_of 101 = .ok (.iload_n 1, 1) := by decide +kernel
theorem dX7_of_102 : decode cX7_of 102 = .ok (.imul, 1) := by decide +kernel
theorem dX7_of_103 : decode cX7_of 103 = .ok (.iadd, 1) := by decide +kernel
theorem dX7_of_104 : decode cX7_of 104 = .ok (.iload_n 2, 1) := by decide +kernel
theorem dX7_of_105 : decode cX7_of 105 = .ok (.iadd, 1) := by decide +kernel
theorem dX7_of_106 : decode cX7_of 106 = .ok (.iaload, 1) := by decide +kernel
theorem dX7_of_107 : decode cX7_of 107 = .ok (.ireturn, 1) := by decide +kernel
theorem dX7_apart_0 : decode cX7_apart 0 = .ok (.aload_n 0, 1) := by decide +kernel
theorem dX7_apart_1 : decode cX7_apart 1 = .ok (.iload_n 1, 1) := by decide +kernel
theorem dX7_apart_2 : decode cX7_apart 2 = .ok (.invokevirtual 64, 3) := by decide +kernel
theorem dX7_apart_5 : decode cX7_apart 5 = .ok (.ifCond .eq 25, 3) := by decide +kernel
theorem dX7_apart_8 : decode cX7_apart 8 = .ok (.aload_n 0, 1) := by decide +kernel
theorem dX7_apart_9 : decode cX7_apart 9 = .ok (.iload_n 2, 1) := by decide +kernel
theorem dX7_apart_10 : decode cX7_apart 10 = .ok (.invokevirtual 64, 3) := by decide +kernel
theorem dX7_apart_13 : decode cX7_apart 13 = .ok (.ifCond .eq 17, 3) := by decide +kernel
theorem dX7_apart_16 : decode cX7_apart 16 = .ok (.iload_n 1, 1) := by decide +kernel
theorem dX7_apart_17 : decode cX7_apart 17 = .ok (.iload_n 2, 1) := by decide +kernel
theorem dX7_apart_18 : decode cX7_apart 18 = .ok (.if_icmp .eq 12, 3) := by decide +kernel
theorem dX7_apart_21 : decode cX7_apart 21 = .ok (.aload_n 0, 1) := by decide +kernel
theorem dX7_apart_22 : decode cX7_apart 22 = .ok (.iload_n 1, 1) := by decide +kernel
theorem dX7_apart_23 : decode cX7_apart 23 = .ok (.iload_n 2, 1) := by decide +kernel
theorem dX7_apart_24 : decode cX7_apart 24 = .ok (.invokevirtual 121, 3) := by decide +kernel
theorem dX7_apart_27 : decode cX7_apart 27 = .ok (.goto 4, 3) := by decide +kernel
theorem dX7_apart_30 : decode cX7_apart 30 = .ok (.iconst (-1), 1) := by decide +kernel
theorem dX7_apart_31 : decode cX7_apart 31 = .ok (.ireturn, 1) := by decide +kernel
theorem dX7_at_0 : decode cX7_at 0 = .ok (.iload_n 1, 1) := by decide +kernel
theorem dX7_at_1 : decode cX7_at 1 = .ok (.iload_n 2, 1) := by decide +kernel
theorem dX7_at_2 : decode cX7_at 2 = .ok (.invokestatic 50, 3) := by decide +kernel
theorem dX7_at_5 : decode cX7_at 5 = .ok (.ifCond .ne 6, 3) := by decide +kernel
theorem dX7_at_8 : decode cX7_at 8 = .ok (.bipush (-2), 2) := by decide +kernel
theorem dX7_at_10 : decode cX7_at 10 = .ok (.ireturn, 1) := by decide +kernel
theorem dX7_at_11 : decode cX7_at 11 = .ok (.aload_n 0, 1) := by decide +kernel
theorem dX7_at_12 : decode cX7_at 12 = .ok (.iload_n 1, 1) := by decide +kernel
theorem dX7_at_13 : decode cX7_at 13 = .ok (.iload_n 2, 1) := by decide +kernel
theorem dX7_at_14 : decode cX7_at 14 = .ok (.invokevirtual 54, 3) := by decide +kernel
theorem dX7_at_17 : decode cX7_at 17 = .ok (.istore_n 3, 1) := by decide +kernel
theorem dX7_at_18 : decode cX7_at 18 = .ok (.iload_n 3, 1) := by decide +kernel
theorem dX7_at_19 : decode cX7_at 19 = .ok (.ifCond .ge 8, 3) := by decide +kernel
theorem dX7_at_22 : decode cX7_at 22 = .ok (.bipush (-5), 2) := by decide +kernel
theorem dX7_at_24 : decode cX7_at 24 = .ok (.goto 4, 3) := by decide +kernel
theorem dX7_at_27 : decode cX7_at 27 = .ok (.iload_n 3, 1) := by decide +kernel
theorem dX7_at_28 : decode cX7_at 28 = .ok (.ireturn, 1) := by decide +kernel
theorem dX7_nextOne_0 : decode cX7_nextOne 0 = .ok (.iconst (-1), 1) := by decide +kernel
theorem dX7_nextOne_1 : decode cX7_nextOne 1 = .ok (.istore_n 2, 1) := by decide +kernel
theorem dX7_nextOne_2 : decode cX7_nextOne 2 = .ok (.iconst 0, 1) := by decide +kernel
theorem dX7_nextOne_3 : decode cX7_nextOne 3 = .ok (.istore_n 3, 1) := by decide +kernel
theorem dX7_nextOne_4 : decode cX7_nextOne 4 = .ok (.iload_n 3, 1) := by decide +kernel
theorem dX7_nextOne_5 : decode cX7_nextOne 5 = .ok (.aload_n 0, 1) := by decide +kernel
theorem dX7_nextOne_6 : decode cX7_nextOne 6 = .ok (.getfield 11, 3) := by decide +kernel
theorem dX7_nextOne_9 : decode cX7_nextOne 9 = .ok (.iconst 0, 1) := by decide +kernel
theorem dX7_nextOne_10 : decode cX7_nextOne 10 = .ok (.iaload, 1) := by decide +kernel
theorem dX7_nextOne_11 : decode cX7_nextOne 11 = .ok (.if_icmp .ge 40, 3) := by decide +kernel
theorem dX7_nextOne_14 : decode cX7_nextOne 14 = .ok (.aload_n 0, 1) := by decide +kernel
theorem dX7_nextOne_15 : decode cX7_nextOne 15 = .ok (.iload_n 3, 1) := by decide +kernel
theorem dX7_nextOne_16 : decode cX7_nextOne 16 = .ok (.invokevirtual 75, 3) := by decide +kernel
theorem dX7_nextOne_19 : decode cX7_nextOne 19 = .ok (.ifCond .ge 26, 3) := by decide +kernel
theorem dX7_nextOne_22 : decode cX7_nextOne 22 = .ok (.iload_n 1, 1) := by decide +kernel
theorem dX7_nextOne_23 : decode cX7_nextOne 23 = .ok (.iload_n 3, 1) := by decide +kernel
theorem dX7_nextOne_24 : decode cX7_nextOne 24 = .ok (.ishr, 1) := by decide +kernel
theorem dX7_nextOne_25 : decode cX7_nextOne 25 = .ok (.iconst 1, 1) := by decide +kernel
theorem dX7_nextOne_26 : decode cX7_nextOne 26 = .ok (.iand, 1) := by decide +kernel
theorem dX7_nextOne_27 : decode cX7_nextOne 27 = .ok (.ifCond .ne 18, 3) := by decide +kernel
theorem dX7_nextOne_30 : decode cX7_nextOne 30 = .ok (.iload_n 2, 1) := by decide +kernel
theorem dX7_nextOne_31 : decode cX7_nextOne 31 = .ok (.ifCond .lt 12, 3) := by decide +kernel
theorem dX7_nextOne_34 : decode cX7_nextOne 34 = .ok (.aload_n 0, 1) := by decide +kernel
theorem dX7_nextOne_35 : decode cX7_nextOne 35 = .ok (.iload_n 3, 1) := by decide +kernel
theorem dX7_nextOne_36 : decode cX7_nextOne 36 = .ok (.iload_n 2, 1) := by decide +kernel
theorem dX7_nextOne_37 : decode cX7_nextOne 37 = .ok (.invokevirtual 144, 3) := by decide +kernel
theorem dX7_nextOne_40 : decode cX7_nextOne 40 = .ok (.ifCond .eq 5, 3) := by decide +kernel
theorem dX7_nextOne_43 : decode cX7_nextOne 43 = .ok (.iload_n 3, 1) := by decide +kernel
theorem dX7_nextOne_44 : decode cX7_nextOne 44 = .ok (.istore_n 2, 1) := by decide +kernel
theorem dX7_nextOne_45 : decode cX7_nextOne 45 = .ok (.iinc 3 1, 3) := by decide +kernel
theorem dX7_nextOne_48 : decode cX7_nextOne 48 = .ok (.goto (-44), 3) := by decide +kernel
theorem dX7_nextOne_51 : decode cX7_nextOne 51 = .ok (.iload_n 2, 1) := by decide +kernel
theorem dX7_nextOne_52 : decode cX7_nextOne 52 = .ok (.ireturn, 1) := by decide +kernel
theorem dX7_isAhead_0 : decode cX7_isAhead 0 = .ok (.aload_n 0, 1) := by decide +kernel
theorem dX7_isAhead_1 : decode cX7_isAhead 1 = .ok (.iload_n 1, 1) := by decide +kernel
theorem dX7_isAhead_2 : decode cX7_isAhead 2 = .ok (.bipush 20, 2) := by decide +kernel
theorem dX7_isAhead_4 : decode cX7_isAhead 4 = .ok (.invokevirtual 135, 3) := by decide +kernel
theorem dX7_isAhead_7 : decode cX7_isAhead 7 = .ok (.istore_n 3, 1) := by decide +kernel
theorem dX7_isAhead_8 : decode cX7_isAhead 8 = .ok (.aload_n 0, 1) := by decide +kernel
theorem dX7_isAhead_9 : decode cX7_isAhead 9 = .ok (.iload_n 2, 1) := by decide +kernel
theorem dX7_isAhead_10 : decode cX7_isAhead 10 = .ok (.bipush 20, 2) := by decide +kernel
theorem dX7_isAhead_12 : decode cX7_isAhead 12 = .ok (.invokevirtual 135, 3) := by decide +kernel
theorem dX7_isAhead_15 : decode cX7_isAhead 15 = .ok (.istore 4, 2) := by decide +kernel
theorem dX7_isAhead_17 : decode cX7_isAhead 17 = .ok (.iload_n 3, 1) := by decide +kernel
theorem dX7_isAhead_18 : decode cX7_isAhead 18 = .ok (.iload 4, 2) := by decide +kernel
theorem dX7_isAhead_20 : decode cX7_isAhead 20 = .ok (.if_icmp .eq 17, 3) := by decide +kernel
theorem dX7_isAhead_23 : decode cX7_isAhead 23 = .ok (.iload_n 3, 1) := by decide +kernel
theorem dX7_isAhead_24 : decode cX7_isAhead 24 = .ok (.iload 4, 2) := by decide +kernel
theorem dX7_isAhead_26 : decode cX7_isAhead 26 = .ok (.if_icmp .ge 7, 3) := by decide +kernel
theorem dX7_isAhead_29 : decode cX7_isAhead 29 = .ok (.iconst 1, 1) := by decide +kernel
theorem dX7_isAhead_30 : decode cX7_isAhead 30 = .ok (.goto 25, 3) := by decide +kernel
theorem dX7_isAhead_33 : decode cX7_isAhead 33 = .ok (.iconst 0, 1) := by decide +kernel
theorem dX7_isAhead_34 : decode cX7_isAhead 34 = .ok (.goto 21, 3) := by decide +kernel
theorem dX7_isAhead_37 : decode cX7_isAhead 37 = .ok (.aload_n 0, 1) := by decide +kernel
theorem dX7_isAhead_38 : decode cX7_isAhead 38 = .ok (.iload_n 1, 1) := by decide +kernel
theorem dX7_isAhead_39 : decode cX7_isAhead 39 = .ok (.invokevirtual 141, 3) := by decide +kernel
theorem dX7_isAhead_42 : decode cX7_isAhead 42 = .ok (.aload_n 0, 1) := by decide +kernel
theorem dX7_isAhead_43 : decode cX7_isAhead 43 = .ok (.iload_n 2, 1) := by decide +kernel
theorem dX7_isAhead_44 : decode cX7_isAhead 44 = .ok (.invokevirtual 141, 3) := by decide +kernel
theorem dX7_isAhead_47 : decode cX7_isAhead 47 = .ok (.if_icmp .le 7, 3) := by decide +kernel
theorem dX7_isAhead_50 : decode cX7_isAhead 50 = .ok (.iconst 1, 1) := by decide +kernel
theorem dX7_isAhead_51 : decode cX7_isAhead 51 = .ok (.goto 4, 3) := by decide +kernel
theorem dX7_isAhead_54 : decode cX7_isAhead 54 = .ok (.iconst 0, 1) := by decide +kernel
theorem dX7_isAhead_55 : decode cX7_isAhead 55 = .ok (.ireturn, 1) := by decide +kernel
theorem dX7_assigned_0 : decode cX7_assigned 0 = .ok (.iconst 0, 1) := by decide +kernel
theorem dX7_assigned_1 : decode cX7_assigned 1 = .ok (.istore_n 1, 1) := by decide +kernel
theorem dX7_assigned_2 : decode cX7_assigned 2 = .ok (.iload_n 1, 1) := by decide +kernel
theorem dX7_assigned_3 : decode cX7_assigned 3 = .ok (.aload_n 0, 1) := by decide +kernel
theorem dX7_assigned_4 : decode cX7_assigned 4 = .ok (.getfield 11, 3) := by decide +kernel
theorem dX7_assigned_7 : decode cX7_assigned 7 = .ok (.iconst 0, 1) := by decide +kernel
theorem dX7_assigned_8 : decode cX7_assigned 8 = .ok (.iaload, 1) := by decide +kernel
theorem dX7_assigned_9 : decode cX7_assigned 9 = .ok (.if_icmp .ge 23, 3) := by decide +kernel
theorem dX7_assigned_12 : decode cX7_assigned 12 = .ok (.aload_n 0, 1) := by decide +kernel
theorem dX7_assigned_13 : decode cX7_assigned 13 = .ok (.iload_n 1, 1) := by decide +kernel
theorem dX7_assigned_14 : decode cX7_assigned 14 = .ok (.invokevirtual 72, 3) := by decide +kernel
theorem dX7_assigned_17 : decode cX7_assigned 17 = .ok (.ifCond .ne 9, 3) := by decide +kernel
theorem dX7_assigned_20 : decode cX7_assigned 20 = .ok (.aload_n 0, 1) := by decide +kernel
theorem dX7_assigned_21 : decode cX7_assigned 21 = .ok (.iload_n 1, 1) := by decide +kernel
theorem dX7_assigned_22 : decode cX7_assigned 22 = .ok (.iconst (-1), 1) := by decide +kernel
theorem dX7_assigned_23 : decode cX7_assigned 23 = .ok (.invokevirtual 78, 3) := by decide +kernel
theorem dX7_assigned_26 : decode cX7_assigned 26 = .ok (.iinc 1 1, 3) := by decide +kernel
theorem dX7_assigned_29 : decode cX7_assigned 29 = .ok (.goto (-27), 3) := by decide +kernel
theorem dX7_assigned_32 : decode cX7_assigned 32 = .ok (.iconst 0, 1) := by decide +kernel
theorem dX7_assigned_33 : decode cX7_assigned 33 = .ok (.istore_n 1, 1) := by decide +kernel
theorem dX7_assigned_34 : decode cX7_assigned 34 = .ok (.aload_n 0, 1) := by decide +kernel
theorem dX7_assigned_35 : decode cX7_assigned 35 = .ok (.iload_n 1, 1) := by decide +kernel
theorem dX7_assigned_36 : decode cX7_assigned 36 = .ok (.invokevirtual 147, 3) := by decide +kernel
theorem dX7_assigned_39 : decode cX7_assigned 39 = .ok (.istore_n 2, 1) := by decide +kernel
theorem dX7_assigned_40 : decode cX7_assigned 40 = .ok (.iload_n 2, 1) := by decide +kernel
theorem dX7_assigned_41 : decode cX7_assigned 41 = .ok (.ifCond .lt 37, 3) := by decide +kernel
theorem dX7_assigned_44 : decode cX7_assigned 44 = .ok (.aload_n 0, 1) := by decide +kernel
theorem dX7_assigned_45 : decode cX7_assigned 45 = .ok (.iload_n 2, 1) := by decide +kernel
theorem dX7_assigned_46 : decode cX7_assigned 46 = .ok (.invokevirtual 138, 3) := by decide +kernel
theorem dX7_assigned_49 : decode cX7_assigned 49 = .ok (.istore_n 3, 1) := by decide +kernel
theorem dX7_assigned_50 : decode cX7_assigned 50 = .ok (.iload_n 3, 1) := by decide +kernel
theorem dX7_assigned_51 : decode cX7_assigned 51 = .ok (.ifCond .ge 12, 3) := by decide +kernel
theorem dX7_assigned_54 : decode cX7_assigned 54 = .ok (.iload_n 1, 1) := by decide +kernel
theorem dX7_assigned_55 : decode cX7_assigned 55 = .ok (.iconst 1, 1) := by decide +kernel
theorem dX7_assigned_56 : decode cX7_assigned 56 = .ok (.iload_n 2, 1) := by decide +kernel
theorem dX7_assigned_57 : decode cX7_assigned 57 = .ok (.ishl, 1) := by decide +kernel
theorem dX7_assigned_58 : decode cX7_assigned 58 = .ok (.ior, 1) := by decide +kernel
theorem dX7_assigned_59 : decode cX7_assigned 59 = .ok (.istore_n 1, 1) := by decide +kernel
theorem dX7_assigned_60 : decode cX7_assigned 60 = .ok (.goto 9, 3) := by decide +kernel
theorem dX7_assigned_63 : decode cX7_assigned 63 = .ok (.aload_n 0, 1) := by decide +kernel
theorem dX7_assigned_64 : decode cX7_assigned 64 = .ok (.iload_n 2, 1) := by decide +kernel
theorem dX7_assigned_65 : decode cX7_assigned 65 = .ok (.iload_n 3, 1) := by decide +kernel
theorem dX7_assigned_66 : decode cX7_assigned 66 = .ok (.invokevirtual 78, 3) := by decide +kernel
theorem dX7_assigned_69 : decode cX7_assigned 69 = .ok (.aload_n 0, 1) := by decide +kernel
theorem dX7_assigned_70 : decode cX7_assigned 70 = .ok (.iload_n 1, 1) := by decide +kernel
theorem dX7_assigned_71 : decode cX7_assigned 71 = .ok (.invokevirtual 147, 3) := by decide +kernel
theorem dX7_assigned_74 : decode cX7_assigned 74 = .ok (.istore_n 2, 1) := by decide +kernel
theorem dX7_assigned_75 : decode cX7_assigned 75 = .ok (.goto (-35), 3) := by decide +kernel
theorem dX7_assigned_78 : decode cX7_assigned 78 = .ok (.iload_n 1, 1) := by decide +kernel
theorem dX7_assigned_79 : decode cX7_assigned 79 = .ok (.invokestatic 150, 3) := by decide +kernel
theorem dX7_assigned_82 : decode cX7_assigned 82 = .ok (.ireturn, 1) := by decide +kernel
theorem dX7_assign_0 : decode cX7_assign 0 = .ok (.aload_n 0, 1) := by decide +kernel
theorem dX7_assign_1 : decode cX7_assign 1 = .ok (.invokevirtual 155, 3) := by decide +kernel
theorem dX7_assign_4 : decode cX7_assign 4 = .ok (.ireturn, 1) := by decide +kernel
theorem dX7_exchange_0 : decode cX7_exchange 0 = .ok (.aload_n 0, 1) := by decide +kernel
theorem dX7_exchange_1 : decode cX7_exchange 1 = .ok (.iload_n 1, 1) := by decide +kernel
theorem dX7_exchange_2 : decode cX7_exchange 2 = .ok (.invokevirtual 64, 3) := by decide +kernel
theorem dX7_exchange_5 : decode cX7_exchange 5 = .ok (.ifCond .ne 5, 3) := by decide +kernel
theorem dX7_exchange_8 : decode cX7_exchange 8 = .ok (.iconst (-1), 1) := by decide +kernel
theorem dX7_exchange_9 : decode cX7_exchange 9 = .ok (.ireturn, 1) := by decide +kernel
theorem dX7_exchange_10 : decode cX7_exchange 10 = .ok (.iload_n 2, 1) := by decide +kernel
theorem dX7_exchange_11 : decode cX7_exchange 11 = .ok (.i2l, 1) := by decide +kernel
theorem dX7_exchange_12 : decode cX7_exchange 12 = .ok (.lconst 0, 1) := by decide +kernel
theorem dX7_exchange_13 : decode cX7_exchange 13 = .ok (.ldc2_w 70, 3) := by decide +kernel
theorem dX7_exchange_16 : decode cX7_exchange 16 = .ok (.invokestatic 37, 3) := by decide +kernel
theorem dX7_exchange_19 : decode cX7_exchange 19 = .ok (.ifCond .ne 6, 3) := by decide +kernel
theorem dX7_exchange_22 : decode cX7_exchange 22 = .ok (.bipush (-2), 2) := by decide +kernel
theorem dX7_exchange_24 : decode cX7_exchange 24 = .ok (.ireturn, 1) := by decide +kernel
theorem dX7_exchange_25 : decode cX7_exchange 25 = .ok (.aload_n 0, 1) := by decide +kernel
theorem dX7_exchange_26 : decode cX7_exchange 26 = .ok (.iload_n 1, 1) := by decide +kernel
theorem dX7_exchange_27 : decode cX7_exchange 27 = .ok (.invokevirtual 75, 3) := by decide +kernel
theorem dX7_exchange_30 : decode cX7_exchange 30 = .ok (.istore_n 3, 1) := by decide +kernel
theorem dX7_exchange_31 : decode cX7_exchange 31 = .ok (.iload_n 3, 1) := by decide +kernel
theorem dX7_exchange_32 : decode cX7_exchange 32 = .ok (.ifCond .lt 8, 3) := by decide +kernel
theorem dX7_exchange_35 : decode cX7_exchange 35 = .ok (.iload_n 3, 1) := by decide +kernel
theorem dX7_exchange_36 : decode cX7_exchange 36 = .ok (.iload_n 2, 1) := by decide +kernel
theorem dX7_exchange_37 : decode cX7_exchange 37 = .ok (.if_icmp .ne 6, 3) := by decide +kernel
theorem dX7_exchange_40 : decode cX7_exchange 40 = .ok (.bipush (-3), 2) := by decide +kernel
theorem dX7_exchange_42 : decode cX7_exchange 42 = .ok (.ireturn, 1) := by decide +kernel
theorem dX7_exchange_43 : decode cX7_exchange 43 = .ok (.iconst 1, 1) := by decide +kernel
theorem dX7_exchange_44 : decode cX7_exchange 44 = .ok (.iload_n 1, 1) := by decide +kernel
theorem dX7_exchange_45 : decode cX7_exchange 45 = .ok (.ishl, 1) := by decide +kernel
theorem dX7_exchange_46 : decode cX7_exchange 46 = .ok (.istore 4, 2) := by decide +kernel
theorem dX7_exchange_48 : decode cX7_exchange 48 = .ok (.iconst 1, 1) := by decide +kernel
theorem dX7_exchange_49 : decode cX7_exchange 49 = .ok (.istore 5, 2) := by decide +kernel
theorem dX7_exchange_51 : decode cX7_exchange 51 = .ok (.iload 5, 2) := by decide +kernel
theorem dX7_exchange_53 : decode cX7_exchange 53 = .ok (.ifCond .eq 157, 3) := by decide +kernel
theorem dX7_exchange_56 : decode cX7_exchange 56 = .ok (.iload 4, 2) := by decide +kernel
theorem dX7_exchange_58 : decode cX7_exchange 58 = .ok (.istore 6, 2) := by decide +kernel
theorem dX7_exchange_60 : decode cX7_exchange 60 = .ok (.iconst 0, 1) := by decide +kernel
theorem dX7_exchange_61 : decode cX7_exchange 61 = .ok (.istore 7, 2) := by decide +kernel
theorem dX7_exchange_63 : decode cX7_exchange 63 = .ok (.iload 7, 2) := by decide +kernel
theorem dX7_exchange_65 : decode cX7_exchange 65 = .ok (.aload_n 0, 1) := by decide +kernel
theorem dX7_exchange_66 : decode cX7_exchange 66 = .ok (.getfield 11, 3) := by decide +kernel
theorem dX7_exchange_69 : decode cX7_exchange 69 = .ok (.iconst 0, 1) := by decide +kernel
theorem dX7_exchange_70 : decode cX7_exchange 70 = .ok (.iaload, 1) := by decide +kernel
theorem dX7_exchange_71 : decode cX7_exchange 71 = .ok (.if_icmp .ge 122, 3) := by decide +kernel
theorem dX7_exchange_74 : decode cX7_exchange 74 = .ok (.iconst 0, 1) := by decide +kernel
theorem dX7_exchange_75 : decode cX7_exchange 75 = .ok (.istore 8, 2) := by decide +kernel
theorem dX7_exchange_77 : decode cX7_exchange 77 = .ok (.iload 8, 2) := by decide +kernel
theorem dX7_exchange_79 : decode cX7_exchange 79 = .ok (.aload_n 0, 1) := by decide +kernel
theorem dX7_exchange_80 : decode cX7_exchange 80 = .ok (.getfield 11, 3) := by decide +kernel
theorem dX7_exchange_83 : decode cX7_exchange 83 = .ok (.iconst 0, 1) := by decide +kernel
theorem dX7_exchange_84 : decode cX7_exchange 84 = .ok (.iaload, 1) := by decide +kernel
theorem dX7_exchange_85 : decode cX7_exchange 85 = .ok (.if_icmp .ge 102, 3) := by decide +kernel
theorem dX7_exchange_88 : decode cX7_exchange 88 = .ok (.iload 6, 2) := by decide +kernel
theorem dX7_exchange_90 : decode cX7_exchange 90 = .ok (.iload 7, 2) := by decide +kernel
theorem dX7_exchange_92 : decode cX7_exchange 92 = .ok (.ishr, 1) := by decide +kernel
theorem dX7_exchange_93 : decode cX7_exchange 93 = .ok (.iconst 1, 1) := by decide +kernel
theorem dX7_exchange_94 : decode cX7_exchange 94 = .ok (.iand, 1) := by decide +kernel
theorem dX7_exchange_95 : decode cX7_exchange 95 = .ok (.iconst 1, 1) := by decide +kernel
theorem dX7_exchange_96 : decode cX7_exchange 96 = .ok (.if_icmp .ne 64, 3) := by decide +kernel
theorem dX7_exchange_99 : decode cX7_exchange 99 = .ok (.iload 8, 2) := by decide +kernel
theorem dX7_exchange_101 : decode cX7_exchange 101 = .ok (.iload 7, 2) := by decide +kernel
theorem dX7_exchange_103 : decode cX7_exchange 103 = .ok (.if_icmp .eq 57, 3) := by decide +kernel
theorem dX7_exchange_106 : decode cX7_exchange 106 = .ok (.aload_n 0, 1) := by decide +kernel
theorem dX7_exchange_107 : decode cX7_exchange 107 = .ok (.iload 8, 2) := by decide +kernel
theorem dX7_exchange_109 : decode cX7_exchange 109 = .ok (.invokevirtual 75, 3) := by decide +kernel
theorem dX7_exchange_112 : decode cX7_exchange 112 = .ok (.iload_n 3, 1) := by decide +kernel
theorem dX7_exchange_113 : decode cX7_exchange 113 = .ok (.iload_n 2, 1) := by decide +kernel
theorem dX7_exchange_114 : decode cX7_exchange 114 = .ok (.iadd, 1) := by decide +kernel
theorem dX7_exchange_115 : decode cX7_exchange 115 = .ok (.aload_n 0, 1) := by decide +kernel
theorem dX7_exchange_116 : decode cX7_exchange 116 = .ok (.iload 7, 2) := by decide +kernel
theorem dX7_exchange_118 : decode cX7_exchange 118 = .ok (.invokevirtual 75, 3) := by decide +kernel
theorem dX7_exchange_121 : decode cX7_exchange 121 = .ok (.isub, 1) := by decide +kernel
theorem dX7_exchange_122 : decode cX7_exchange 122 = .ok (.if_icmp .ne 38, 3) := by decide +kernel
theorem dX7_exchange_125 : decode cX7_exchange 125 = .ok (.aload_n 0, 1) := by decide +kernel
theorem dX7_exchange_126 : decode cX7_exchange 126 = .ok (.iload 8, 2) := by decide +kernel
theorem dX7_exchange_128 : decode cX7_exchange 128 = .ok (.invokevirtual 75, 3) := by decide +kernel
theorem dX7_exchange_131 : decode cX7_exchange 131 = .ok (.iload_n 3, 1) := by decide +kernel
theorem dX7_exchange_132 : decode cX7_exchange 132 = .ok (.if_icmp .eq 13, 3) := by decide +kernel
theorem dX7_exchange_135 : decode cX7_exchange 135 = .ok (.aload_n 0, 1) := by decide +kernel
theorem dX7_exchange_136 : decode cX7_exchange 136 = .ok (.iload 8, 2) := by decide +kernel
theorem dX7_exchange_138 : decode cX7_exchange 138 = .ok (.invokevirtual 75, 3) := by decide +kernel
theorem dX7_exchange_141 : decode cX7_exchange 141 = .ok (.iload_n 2, 1) := by decide +kernel
theorem dX7_exchange_142 : decode cX7_exchange 142 = .ok (.if_icmp .ne 18, 3) := by decide +kernel
theorem dX7_exchange_145 : decode cX7_exchange 145 = .ok (.aload_n 0, 1) := by decide +kernel
theorem dX7_exchange_146 : decode cX7_exchange 146 = .ok (.iload 7, 2) := by decide +kernel
theorem dX7_exchange_148 : decode cX7_exchange 148 = .ok (.iload 8, 2) := by decide +kernel
theorem dX7_exchange_150 : decode cX7_exchange 150 = .ok (.invokevirtual 121, 3) := by decide +kernel
theorem dX7_exchange_153 : decode cX7_exchange 153 = .ok (.ifCond .le 7, 3) := by decide +kernel
theorem dX7_exchange_156 : decode cX7_exchange 156 = .ok (.iconst 1, 1) := by decide +kernel
theorem dX7_exchange_157 : decode cX7_exchange 157 = .ok (.goto 4, 3) := by decide +kernel
theorem dX7_exchange_160 : decode cX7_exchange 160 = .ok (.iconst 0, 1) := by decide +kernel
theorem dX7_exchange_161 : decode cX7_exchange 161 = .ok (.istore 9, 2) := by decide +kernel
theorem dX7_exchange_163 : decode cX7_exchange 163 = .ok (.iload 4, 2) := by decide +kernel
theorem dX7_exchange_165 : decode cX7_exchange 165 = .ok (.iload 9, 2) := by decide +kernel
theorem dX7_exchange_167 : decode cX7_exchange 167 = .ok (.ifCond .eq 10, 3) := by decide +kernel
theorem dX7_exchange_170 : decode cX7_exchange 170 = .ok (.iconst 1, 1) := by decide +kernel
theorem dX7_exchange_171 : decode cX7_exchange 171 = .ok (.iload 8, 2) := by decide +kernel
theorem dX7_exchange_173 : decode cX7_exchange 173 = .ok (.ishl, 1) := by decide +kernel
theorem dX7_exchange_174 : decode cX7_exchange 174 = .ok (.goto 4, 3) := by decide +kernel
theorem dX7_exchange_177 : decode cX7_exchange 177 = .ok (.iconst 0, 1) := by decide +kernel
theorem dX7_exchange_178 : decode cX7_exchange 178 = .ok (.ior, 1) := by decide +kernel
theorem dX7_exchange_179 : decode cX7_exchange 179 = .ok (.istore 4, 2) := by decide +kernel
theorem dX7_exchange_181 : decode cX7_exchange 181 = .ok (.iinc 8 1, 3) := by decide +kernel
theorem dX7_exchange_184 : decode cX7_exchange 184 = .ok (.goto (-107), 3) := by decide +kernel
theorem dX7_exchange_187 : decode cX7_exchange 187 = .ok (.iinc 7 1, 3) := by decide +kernel
theorem dX7_exchange_190 : decode cX7_exchange 190 = .ok (.goto (-127), 3) := by decide +kernel
theorem dX7_exchange_193 : decode cX7_exchange 193 = .ok (.iload 4, 2) := by decide +kernel
theorem dX7_exchange_195 : decode cX7_exchange 195 = .ok (.iload 6, 2) := by decide +kernel
theorem dX7_exchange_197 : decode cX7_exchange 197 = .ok (.if_icmp .eq 7, 3) := by decide +kernel
theorem dX7_exchange_200 : decode cX7_exchange 200 = .ok (.iconst 1, 1) := by decide +kernel
theorem dX7_exchange_201 : decode cX7_exchange 201 = .ok (.goto 4, 3) := by decide +kernel
theorem dX7_exchange_204 : decode cX7_exchange 204 = .ok (.iconst 0, 1) := by decide +kernel
theorem dX7_exchange_205 : decode cX7_exchange 205 = .ok (.istore 5, 2) := by decide +kernel
theorem dX7_exchange_207 : decode cX7_exchange 207 = .ok (.goto (-156), 3) := by decide +kernel
theorem dX7_exchange_210 : decode cX7_exchange 210 = .ok (.iconst 0, 1) := by decide +kernel
theorem dX7_exchange_211 : decode cX7_exchange 211 = .ok (.istore 6, 2) := by decide +kernel
theorem dX7_exchange_213 : decode cX7_exchange 213 = .ok (.iload 6, 2) := by decide +kernel
theorem dX7_exchange_215 : decode cX7_exchange 215 = .ok (.aload_n 0, 1) := by decide +kernel
theorem dX7_exchange_216 : decode cX7_exchange 216 = .ok (.getfield 11, 3) := by decide +kernel
theorem dX7_exchange_219 : decode cX7_exchange 219 = .ok (.iconst 0, 1) := by decide +kernel
theorem dX7_exchange_220 : decode cX7_exchange 220 = .ok (.iaload, 1) := by decide +kernel
theorem dX7_exchange_221 : decode cX7_exchange 221 = .ok (.if_icmp .ge 32, 3) := by decide +kernel
theorem dX7_exchange_224 : decode cX7_exchange 224 = .ok (.iload 4, 2) := by decide +kernel
theorem dX7_exchange_226 : decode cX7_exchange 226 = .ok (.iload 6, 2) := by decide +kernel
theorem dX7_exchange_228 : decode cX7_exchange 228 = .ok (.ishr, 1) := by decide +kernel
theorem dX7_exchange_229 : decode cX7_exchange 229 = .ok (.iconst 1, 1) := by decide +kernel
theorem dX7_exchange_230 : decode cX7_exchange 230 = .ok (.iand, 1) := by decide +kernel
theorem dX7_exchange_231 : decode cX7_exchange 231 = .ok (.iconst 1, 1) := by decide +kernel
theorem dX7_exchange_232 : decode cX7_exchange 232 = .ok (.if_icmp .ne 15, 3) := by decide +kernel
theorem dX7_exchange_235 : decode cX7_exchange 235 = .ok (.aload_n 0, 1) := by decide +kernel
theorem dX7_exchange_236 : decode cX7_exchange 236 = .ok (.iload 6, 2) := by decide +kernel
theorem dX7_exchange_238 : decode cX7_exchange 238 = .ok (.invokevirtual 72, 3) := by decide +kernel
theorem dX7_exchange_241 : decode cX7_exchange 241 = .ok (.ifCond .eq 6, 3) := by decide +kernel
theorem dX7_exchange_244 : decode cX7_exchange 244 = .ok (.bipush (-5), 2) := by decide +kernel
theorem dX7_exchange_246 : decode cX7_exchange 246 = .ok (.ireturn, 1) := by decide +kernel
theorem dX7_exchange_247 : decode cX7_exchange 247 = .ok (.iinc 6 1, 3) := by decide +kernel
theorem dX7_exchange_250 : decode cX7_exchange 250 = .ok (.goto (-37), 3) := by decide +kernel
theorem dX7_exchange_253 : decode cX7_exchange 253 = .ok (.aload_n 0, 1) := by decide +kernel
theorem dX7_exchange_254 : decode cX7_exchange 254 = .ok (.invokevirtual 159, 3) := by decide +kernel
theorem dX7_exchange_257 : decode cX7_exchange 257 = .ok (.istore 6, 2) := by decide +kernel
theorem dX7_exchange_259 : decode cX7_exchange 259 = .ok (.aload_n 0, 1) := by decide +kernel
theorem dX7_exchange_260 : decode cX7_exchange 260 = .ok (.iload 4, 2) := by decide +kernel
theorem dX7_exchange_262 : decode cX7_exchange 262 = .ok (.iload_n 3, 1) := by decide +kernel
theorem dX7_exchange_263 : decode cX7_exchange 263 = .ok (.iload_n 2, 1) := by decide +kernel
theorem dX7_exchange_264 : decode cX7_exchange 264 = .ok (.iadd, 1) := by decide +kernel
theorem dX7_exchange_265 : decode cX7_exchange 265 = .ok (.invokevirtual 162, 3) := by decide +kernel
theorem dX7_exchange_268 : decode cX7_exchange 268 = .ok (.aload_n 0, 1) := by decide +kernel
theorem dX7_exchange_269 : decode cX7_exchange 269 = .ok (.invokevirtual 159, 3) := by decide +kernel
theorem dX7_exchange_272 : decode cX7_exchange 272 = .ok (.iload 6, 2) := by decide +kernel
theorem dX7_exchange_274 : decode cX7_exchange 274 = .ok (.if_icmp .le 15, 3) := by decide +kernel
theorem dX7_exchange_277 : decode cX7_exchange 277 = .ok (.aload_n 0, 1) := by decide +kernel
theorem dX7_exchange_278 : decode cX7_exchange 278 = .ok (.iload 4, 2) := by decide +kernel
theorem dX7_exchange_280 : decode cX7_exchange 280 = .ok (.iload_n 3, 1) := by decide +kernel
theorem dX7_exchange_281 : decode cX7_exchange 281 = .ok (.iload_n 2, 1) := by decide +kernel
theorem dX7_exchange_282 : decode cX7_exchange 282 = .ok (.iadd, 1) := by decide +kernel
theorem dX7_exchange_283 : decode cX7_exchange 283 = .ok (.invokevirtual 162, 3) := by decide +kernel
theorem dX7_exchange_286 : decode cX7_exchange 286 = .ok (.bipush (-6), 2) := by decide +kernel
theorem dX7_exchange_288 : decode cX7_exchange 288 = .ok (.ireturn, 1) := by decide +kernel
theorem dX7_exchange_289 : decode cX7_exchange 289 = .ok (.iload 4, 2) := by decide +kernel
theorem dX7_exchange_291 : decode cX7_exchange 291 = .ok (.invokestatic 150, 3) := by decide +kernel
theorem dX7_exchange_294 : decode cX7_exchange 294 = .ok (.ireturn, 1) := by decide +kernel
theorem dX7_turns_0 : decode cX7_turns 0 = .ok (.iconst 0, 1) := by decide +kernel
theorem dX7_turns_1 : decode cX7_turns 1 = .ok (.istore_n 3, 1) := by decide +kernel
theorem dX7_turns_2 : decode cX7_turns 2 = .ok (.iload_n 3, 1) := by decide +kernel
theorem dX7_turns_3 : decode cX7_turns 3 = .ok (.aload_n 0, 1) := by decide +kernel
theorem dX7_turns_4 : decode cX7_turns 4 = .ok (.getfield 11, 3) := by decide +kernel
theorem dX7_turns_7 : decode cX7_turns 7 = .ok (.iconst 0, 1) := by decide +kernel
theorem dX7_turns_8 : decode cX7_turns 8 = .ok (.iaload, 1) := by decide +kernel
theorem dX7_turns_9 : decode cX7_turns 9 = .ok (.if_icmp .ge 30, 3) := by decide +kernel
theorem dX7_turns_12 : decode cX7_turns 12 = .ok (.iload_n 1, 1) := by decide +kernel
theorem dX7_turns_13 : decode cX7_turns 13 = .ok (.iload_n 3, 1) := by decide +kernel
theorem dX7_turns_14 : decode cX7_turns 14 = .ok (.ishr, 1) := by decide +kernel
theorem dX7_turns_15 : decode cX7_turns 15 = .ok (.iconst 1, 1) := by decide +kernel
theorem dX7_turns_16 : decode cX7_turns 16 = .ok (.iand, 1) := by decide +kernel
theorem dX7_turns_17 : decode cX7_turns 17 = .ok (.iconst 1, 1) := by decide +kernel
theorem dX7_turns_18 : decode cX7_turns 18 = .ok (.if_icmp .ne 15, 3) := by decide +kernel
theorem dX7_turns_21 : decode cX7_turns 21 = .ok (.aload_n 0, 1) := by decide +kernel
theorem dX7_turns_22 : decode cX7_turns 22 = .ok (.iload_n 3, 1) := by decide +kernel
theorem dX7_turns_23 : decode cX7_turns 23 = .ok (.iload_n 2, 1) := by decide +kernel
theorem dX7_turns_24 : decode cX7_turns 24 = .ok (.aload_n 0, 1) := by decide +kernel
theorem dX7_turns_25 : decode cX7_turns 25 = .ok (.iload_n 3, 1) := by decide +kernel
theorem dX7_turns_26 : decode cX7_turns 26 = .ok (.invokevirtual 75, 3) := by decide +kernel
theorem dX7_turns_29 : decode cX7_turns 29 = .ok (.isub, 1) := by decide +kernel
theorem dX7_turns_30 : decode cX7_turns 30 = .ok (.invokevirtual 78, 3) := by decide +kernel
theorem dX7_turns_33 : decode cX7_turns 33 = .ok (.iinc 3 1, 3) := by decide +kernel
theorem dX7_turns_36 : decode cX7_turns 36 = .ok (.goto (-34), 3) := by decide +kernel
theorem dX7_turns_39 : decode cX7_turns 39 = .ok (.return_, 1) := by decide +kernel
theorem dX7_span_0 : decode cX7_span 0 = .ok (.bipush 20, 2) := by decide +kernel
theorem dX7_span_2 : decode cX7_span 2 = .ok (.istore_n 1, 1) := by decide +kernel
theorem dX7_span_3 : decode cX7_span 3 = .ok (.iconst (-1), 1) := by decide +kernel
theorem dX7_span_4 : decode cX7_span 4 = .ok (.istore_n 2, 1) := by decide +kernel
theorem dX7_span_5 : decode cX7_span 5 = .ok (.iconst 0, 1) := by decide +kernel
theorem dX7_span_6 : decode cX7_span 6 = .ok (.istore_n 3, 1) := by decide +kernel
theorem dX7_span_7 : decode cX7_span 7 = .ok (.iload_n 3, 1) := by decide +kernel
theorem dX7_span_8 : decode cX7_span 8 = .ok (.aload_n 0, 1) := by decide +kernel
theorem dX7_span_9 : decode cX7_span 9 = .ok (.getfield 11, 3) := by decide +kernel
theorem dX7_span_12 : decode cX7_span 12 = .ok (.iconst 0, 1) := by decide +kernel
theorem dX7_span_13 : decode cX7_span 13 = .ok (.iaload, 1) := by decide +kernel
theorem dX7_span_14 : decode cX7_span 14 = .ok (.if_icmp .ge 37, 3) := by decide +kernel
theorem dX7_span_17 : decode cX7_span 17 = .ok (.aload_n 0, 1) := by decide +kernel
theorem dX7_span_18 : decode cX7_span 18 = .ok (.iload_n 3, 1) := by decide +kernel
theorem dX7_span_19 : decode cX7_span 19 = .ok (.invokevirtual 75, 3) := by decide +kernel
theorem dX7_span_22 : decode cX7_span 22 = .ok (.ifCond .lt 23, 3) := by decide +kernel
theorem dX7_span_25 : decode cX7_span 25 = .ok (.iload_n 1, 1) := by decide +kernel
theorem dX7_span_26 : decode cX7_span 26 = .ok (.aload_n 0, 1) := by decide +kernel
theorem dX7_span_27 : decode cX7_span 27 = .ok (.iload_n 3, 1) := by decide +kernel
theorem dX7_span_28 : decode cX7_span 28 = .ok (.invokevirtual 75, 3) := by decide +kernel
theorem dX7_span_31 : decode cX7_span 31 = .ok (.invokestatic 165, 3) := by decide +kernel
theorem dX7_span_34 : decode cX7_span 34 = .ok (.istore_n 1, 1) := by decide +kernel
theorem dX7_span_35 : decode cX7_span 35 = .ok (.iload_n 2, 1) := by decide +kernel
theorem dX7_span_36 : decode cX7_span 36 = .ok (.aload_n 0, 1) := by decide +kernel
theorem dX7_span_37 : decode cX7_span 37 = .ok (.iload_n 3, 1) := by decide +kernel
theorem dX7_span_38 : decode cX7_span 38 = .ok (.invokevirtual 75, 3) := by decide +kernel
theorem dX7_span_41 : decode cX7_span 41 = .ok (.invokestatic 113, 3) := by decide +kernel
theorem dX7_span_44 : decode cX7_span 44 = .ok (.istore_n 2, 1) := by decide +kernel
theorem dX7_span_45 : decode cX7_span 45 = .ok (.iinc 3 1, 3) := by decide +kernel
theorem dX7_span_48 : decode cX7_span 48 = .ok (.goto (-41), 3) := by decide +kernel
theorem dX7_span_51 : decode cX7_span 51 = .ok (.iload_n 2, 1) := by decide +kernel
theorem dX7_span_52 : decode cX7_span 52 = .ok (.ifCond .ge 7, 3) := by decide +kernel
theorem dX7_span_55 : decode cX7_span 55 = .ok (.iconst 0, 1) := by decide +kernel
theorem dX7_span_56 : decode cX7_span 56 = .ok (.goto 8, 3) := by decide +kernel
theorem dX7_span_59 : decode cX7_span 59 = .ok (.iload_n 2, 1) := by decide +kernel
theorem dX7_span_60 : decode cX7_span 60 = .ok (.iload_n 1, 1) := by decide +kernel
theorem dX7_span_61 : decode cX7_span 61 = .ok (.isub, 1) := by decide +kernel
theorem dX7_span_62 : decode cX7_span 62 = .ok (.iconst 1, 1) := by decide +kernel
theorem dX7_span_63 : decode cX7_span 63 = .ok (.iadd, 1) := by decide +kernel
theorem dX7_span_64 : decode cX7_span 64 = .ok (.ireturn, 1) := by decide +kernel
theorem dX7_isClique_0 : decode cX7_isClique 0 = .ok (.iconst 0, 1) := by decide +kernel
theorem dX7_isClique_1 : decode cX7_isClique 1 = .ok (.istore_n 3, 1) := by decide +kernel
theorem dX7_isClique_2 : decode cX7_isClique 2 = .ok (.iload_n 3, 1) := by decide +kernel
theorem dX7_isClique_3 : decode cX7_isClique 3 = .ok (.aload_n 0, 1) := by decide +kernel
theorem dX7_isClique_4 : decode cX7_isClique 4 = .ok (.getfield 11, 3) := by decide +kernel
theorem dX7_isClique_7 : decode cX7_isClique 7 = .ok (.iconst 0, 1) := by decide +kernel
theorem dX7_isClique_8 : decode cX7_isClique 8 = .ok (.iaload, 1) := by decide +kernel
theorem dX7_isClique_9 : decode cX7_isClique 9 = .ok (.if_icmp .ge 56, 3) := by decide +kernel
theorem dX7_isClique_12 : decode cX7_isClique 12 = .ok (.iconst 0, 1) := by decide +kernel
theorem dX7_isClique_13 : decode cX7_isClique 13 = .ok (.istore 4, 2) := by decide +kernel
theorem dX7_isClique_15 : decode cX7_isClique 15 = .ok (.iload 4, 2) := by decide +kernel
theorem dX7_isClique_17 : decode cX7_isClique 17 = .ok (.iload_n 3, 1) := by decide +kernel
theorem dX7_isClique_18 : decode cX7_isClique 18 = .ok (.if_icmp .ge 41, 3) := by decide +kernel
theorem dX7_isClique_21 : decode cX7_isClique 21 = .ok (.iload_n 1, 1) := by decide +kernel
theorem dX7_isClique_22 : decode cX7_isClique 22 = .ok (.iload_n 3, 1) := by decide +kernel
theorem dX7_isClique_23 : decode cX7_isClique 23 = .ok (.ishr, 1) := by decide +kernel
theorem dX7_isClique_24 : decode cX7_isClique 24 = .ok (.iconst 1, 1) := by decide +kernel
theorem dX7_isClique_25 : decode cX7_isClique 25 = .ok (.iand, 1) := by decide +kernel
theorem dX7_isClique_26 : decode cX7_isClique 26 = .ok (.iconst 1, 1) := by decide +kernel
theorem dX7_isClique_27 : decode cX7_isClique 27 = .ok (.if_icmp .ne 26, 3) := by decide +kernel
theorem dX7_isClique_30 : decode cX7_isClique 30 = .ok (.iload_n 1, 1) := by decide +kernel
theorem dX7_isClique_31 : decode cX7_isClique 31 = .ok (.iload 4, 2) := by decide +kernel
theorem dX7_isClique_33 : decode cX7_isClique 33 = .ok (.ishr, 1) := by decide +kernel
theorem dX7_isClique_34 : decode cX7_isClique 34 = .ok (.iconst 1, 1) := by decide +kernel
theorem dX7_isClique_35 : decode cX7_isClique 35 = .ok (.iand, 1) := by decide +kernel
theorem dX7_isClique_36 : decode cX7_isClique 36 = .ok (.iconst 1, 1) := by decide +kernel
theorem dX7_isClique_37 : decode cX7_isClique 37 = .ok (.if_icmp .ne 16, 3) := by decide +kernel
theorem dX7_isClique_40 : decode cX7_isClique 40 = .ok (.aload_n 0, 1) := by decide +kernel
theorem dX7_isClique_41 : decode cX7_isClique 41 = .ok (.iload_n 3, 1) := by decide +kernel
theorem dX7_isClique_42 : decode cX7_isClique 42 = .ok (.iload 4, 2) := by decide +kernel
theorem dX7_isClique_44 : decode cX7_isClique 44 = .ok (.invokevirtual 121, 3) := by decide +kernel
theorem dX7_isClique_47 : decode cX7_isClique 47 = .ok (.iload_n 2, 1) := by decide +kernel
theorem dX7_isClique_48 : decode cX7_isClique 48 = .ok (.if_icmp .ge 5, 3) := by decide +kernel
theorem dX7_isClique_51 : decode cX7_isClique 51 = .ok (.iconst 0, 1) := by decide +kernel
theorem dX7_isClique_52 : decode cX7_isClique 52 = .ok (.ireturn, 1) := by decide +kernel
theorem dX7_isClique_53 : decode cX7_isClique 53 = .ok (.iinc 4 1, 3) := by decide +kernel
theorem dX7_isClique_56 : decode cX7_isClique 56 = .ok (.goto (-41), 3) := by decide +kernel
theorem dX7_isClique_59 : decode cX7_isClique 59 = .ok (.iinc 3 1, 3) := by decide +kernel
theorem dX7_isClique_62 : decode cX7_isClique 62 = .ok (.goto (-60), 3) := by decide +kernel
theorem dX7_isClique_65 : decode cX7_isClique 65 = .ok (.iconst 1, 1) := by decide +kernel
theorem dX7_isClique_66 : decode cX7_isClique 66 = .ok (.ireturn, 1) := by decide +kernel
theorem dX7_cliqueBy_0 : decode cX7_cliqueBy 0 = .ok (.iconst 0, 1) := by decide +kernel
theorem dX7_cliqueBy_1 : decode cX7_cliqueBy 1 = .ok (.istore_n 2, 1) := by decide +kernel
theorem dX7_cliqueBy_2 : decode cX7_cliqueBy 2 = .ok (.iconst 1, 1) := by decide +kernel
theorem dX7_cliqueBy_3 : decode cX7_cliqueBy 3 = .ok (.istore_n 3, 1) := by decide +kernel
theorem dX7_cliqueBy_4 : decode cX7_cliqueBy 4 = .ok (.iload_n 3, 1) := by decide +kernel
theorem dX7_cliqueBy_5 : decode cX7_cliqueBy 5 = .ok (.iconst 1, 1) := by decide +kernel
theorem dX7_cliqueBy_6 : decode cX7_cliqueBy 6 = .ok (.aload_n 0, 1) := by decide +kernel
theorem dX7_cliqueBy_7 : decode cX7_cliqueBy 7 = .ok (.getfield 11, 3) := by decide +kernel
theorem dX7_cliqueBy_10 : decode cX7_cliqueBy 10 = .ok (.iconst 0, 1) := by decide +kernel
theorem dX7_cliqueBy_11 : decode cX7_cliqueBy 11 = .ok (.iaload, 1) := by decide +kernel
theorem dX7_cliqueBy_12 : decode cX7_cliqueBy 12 = .ok (.ishl, 1) := by decide +kernel
theorem dX7_cliqueBy_13 : decode cX7_cliqueBy 13 = .ok (.if_icmp .ge 35, 3) := by decide +kernel
theorem dX7_cliqueBy_16 : decode cX7_cliqueBy 16 = .ok (.iload_n 3, 1) := by decide +kernel
theorem dX7_cliqueBy_17 : decode cX7_cliqueBy 17 = .ok (.invokestatic 150, 3) := by decide +kernel
theorem dX7_cliqueBy_20 : decode cX7_cliqueBy 20 = .ok (.iload_n 2, 1) := by decide +kernel
theorem dX7_cliqueBy_21 : decode cX7_cliqueBy 21 = .ok (.invokestatic 150, 3) := by decide +kernel
theorem dX7_cliqueBy_24 : decode cX7_cliqueBy 24 = .ok (.if_icmp .le 16, 3) := by decide +kernel
theorem dX7_cliqueBy_27 : decode cX7_cliqueBy 27 = .ok (.aload_n 0, 1) := by decide +kernel
theorem dX7_cliqueBy_28 : decode cX7_cliqueBy 28 = .ok (.iload_n 3, 1) := by decide +kernel
theorem dX7_cliqueBy_29 : decode cX7_cliqueBy 29 = .ok (.iload_n 1, 1) := by decide +kernel
theorem dX7_cliqueBy_30 : decode cX7_cliqueBy 30 = .ok (.invokevirtual 168, 3) := by decide +kernel
theorem dX7_cliqueBy_33 : decode cX7_cliqueBy 33 = .ok (.ifCond .eq 7, 3) := by decide +kernel
theorem dX7_cliqueBy_36 : decode cX7_cliqueBy 36 = .ok (.iload_n 3, 1) := by decide +kernel
theorem dX7_cliqueBy_37 : decode cX7_cliqueBy 37 = .ok (.goto 4, 3) := by decide +kernel
theorem dX7_cliqueBy_40 : decode cX7_cliqueBy 40 = .ok (.iload_n 2, 1) := by decide +kernel
theorem dX7_cliqueBy_41 : decode cX7_cliqueBy 41 = .ok (.istore_n 2, 1) := by decide +kernel
theorem dX7_cliqueBy_42 : decode cX7_cliqueBy 42 = .ok (.iinc 3 1, 3) := by decide +kernel
theorem dX7_cliqueBy_45 : decode cX7_cliqueBy 45 = .ok (.goto (-41), 3) := by decide +kernel
theorem dX7_cliqueBy_48 : decode cX7_cliqueBy 48 = .ok (.iload_n 2, 1) := by decide +kernel
theorem dX7_cliqueBy_49 : decode cX7_cliqueBy 49 = .ok (.ireturn, 1) := by decide +kernel
theorem dX7_clique_0 : decode cX7_clique 0 = .ok (.iload_n 1, 1) := by decide +kernel
theorem dX7_clique_1 : decode cX7_clique 1 = .ok (.i2l, 1) := by decide +kernel
theorem dX7_clique_2 : decode cX7_clique 2 = .ok (.lconst 1, 1) := by decide +kernel
theorem dX7_clique_3 : decode cX7_clique 3 = .ok (.ldc2_w 62, 3) := by decide +kernel
theorem dX7_clique_6 : decode cX7_clique 6 = .ok (.invokestatic 37, 3) := by decide +kernel
theorem dX7_clique_9 : decode cX7_clique 9 = .ok (.ifCond .eq 11, 3) := by decide +kernel
theorem dX7_clique_12 : decode cX7_clique 12 = .ok (.aload_n 0, 1) := by decide +kernel
theorem dX7_clique_13 : decode cX7_clique 13 = .ok (.iload_n 1, 1) := by decide +kernel
theorem dX7_clique_14 : decode cX7_clique 14 = .ok (.invokevirtual 171, 3) := by decide +kernel
theorem dX7_clique_17 : decode cX7_clique 17 = .ok (.goto 5, 3) := by decide +kernel
theorem dX7_clique_20 : decode cX7_clique 20 = .ok (.bipush (-2), 2) := by decide +kernel
theorem dX7_clique_22 : decode cX7_clique 22 = .ok (.ireturn, 1) := by decide +kernel
theorem dX7_bound_0 : decode cX7_bound 0 = .ok (.iconst 0, 1) := by decide +kernel
theorem dX7_bound_1 : decode cX7_bound 1 = .ok (.istore_n 1, 1) := by decide +kernel
theorem dX7_bound_2 : decode cX7_bound 2 = .ok (.iconst 1, 1) := by decide +kernel
theorem dX7_bound_3 : decode cX7_bound 3 = .ok (.istore_n 2, 1) := by decide +kernel
theorem dX7_bound_4 : decode cX7_bound 4 = .ok (.iload_n 2, 1) := by decide +kernel
theorem dX7_bound_5 : decode cX7_bound 5 = .ok (.iconst 4, 1) := by decide +kernel
theorem dX7_bound_6 : decode cX7_bound 6 = .ok (.if_icmp .gt 38, 3) := by decide +kernel
theorem dX7_bound_9 : decode cX7_bound 9 = .ok (.aload_n 0, 1) := by decide +kernel
theorem dX7_bound_10 : decode cX7_bound 10 = .ok (.iload_n 2, 1) := by decide +kernel
theorem dX7_bound_11 : decode cX7_bound 11 = .ok (.invokevirtual 171, 3) := by decide +kernel
theorem dX7_bound_14 : decode cX7_bound 14 = .ok (.invokestatic 150, 3) := by decide +kernel
theorem dX7_bound_17 : decode cX7_bound 17 = .ok (.istore_n 3, 1) := by decide +kernel
theorem dX7_bound_18 : decode cX7_bound 18 = .ok (.iload_n 3, 1) := by decide +kernel
theorem dX7_bound_19 : decode cX7_bound 19 = .ok (.ifCond .ne 7, 3) := by decide +kernel
theorem dX7_bound_22 : decode cX7_bound 22 = .ok (.iload_n 1, 1) := by decide +kernel
theorem dX7_bound_23 : decode cX7_bound 23 = .ok (.goto 14, 3) := by decide +kernel
theorem dX7_bound_26 : decode cX7_bound 26 = .ok (.iload_n 1, 1) := by decide +kernel
theorem dX7_bound_27 : decode cX7_bound 27 = .ok (.iload_n 3, 1) := by decide +kernel
theorem dX7_bound_28 : decode cX7_bound 28 = .ok (.iconst 1, 1) := by decide +kernel
theorem dX7_bound_29 : decode cX7_bound 29 = .ok (.isub, 1) := by decide +kernel
theorem dX7_bound_30 : decode cX7_bound 30 = .ok (.iload_n 2, 1) := by decide +kernel
theorem dX7_bound_31 : decode cX7_bound 31 = .ok (.imul, 1) := by decide +kernel
theorem dX7_bound_32 : decode cX7_bound 32 = .ok (.iconst 1, 1) := by decide +kernel
theorem dX7_bound_33 : decode cX7_bound 33 = .ok (.iadd, 1) := by decide +kernel
theorem dX7_bound_34 : decode cX7_bound 34 = .ok (.invokestatic 113, 3) := by decide +kernel
theorem dX7_bound_37 : decode cX7_bound 37 = .ok (.istore_n 1, 1) := by decide +kernel
theorem dX7_bound_38 : decode cX7_bound 38 = .ok (.iinc 2 1, 3) := by decide +kernel
theorem dX7_bound_41 : decode cX7_bound 41 = .ok (.goto (-37), 3) := by decide +kernel
theorem dX7_bound_44 : decode cX7_bound 44 = .ok (.iload_n 1, 1) := by decide +kernel
theorem dX7_bound_45 : decode cX7_bound 45 = .ok (.ireturn, 1) := by decide +kernel
theorem dX7_can_0 : decode cX7_can 0 = .ok (.iconst (-1), 1) := by decide +kernel
theorem dX7_can_1 : decode cX7_can 1 = .ok (.istore_n 2, 1) := by decide +kernel
theorem dX7_can_2 : decode cX7_can 2 = .ok (.bipush 99, 2) := by decide +kernel
theorem dX7_can_4 : decode cX7_can 4 = .ok (.istore_n 3, 1) := by decide +kernel
theorem dX7_can_5 : decode cX7_can 5 = .ok (.iconst 0, 1) := by decide +kernel
theorem dX7_can_6 : decode cX7_can 6 = .ok (.istore 4, 2) := by decide +kernel
theorem dX7_can_8 : decode cX7_can 8 = .ok (.iload 4, 2) := by decide +kernel
theorem dX7_can_10 : decode cX7_can 10 = .ok (.aload_n 0, 1) := by decide +kernel
theorem dX7_can_11 : decode cX7_can 11 = .ok (.getfield 11, 3) := by decide +kernel
theorem dX7_can_14 : decode cX7_can 14 = .ok (.iconst 0, 1) := by decide +kernel
theorem dX7_can_15 : decode cX7_can 15 = .ok (.iaload, 1) := by decide +kernel
theorem dX7_can_16 : decode cX7_can 16 = .ok (.if_icmp .ge 47, 3) := by decide +kernel
theorem dX7_can_19 : decode cX7_can 19 = .ok (.aload_n 0, 1) := by decide +kernel
theorem dX7_can_20 : decode cX7_can 20 = .ok (.iload 4, 2) := by decide +kernel
theorem dX7_can_22 : decode cX7_can 22 = .ok (.invokevirtual 75, 3) := by decide +kernel
theorem dX7_can_25 : decode cX7_can 25 = .ok (.ifCond .ge 32, 3) := by decide +kernel
theorem dX7_can_28 : decode cX7_can 28 = .ok (.aload_n 0, 1) := by decide +kernel
theorem dX7_can_29 : decode cX7_can 29 = .ok (.iload 4, 2) := by decide +kernel
theorem dX7_can_31 : decode cX7_can 31 = .ok (.iload_n 1, 1) := by decide +kernel
theorem dX7_can_32 : decode cX7_can 32 = .ok (.invokevirtual 135, 3) := by decide +kernel
theorem dX7_can_35 : decode cX7_can 35 = .ok (.istore 5, 2) := by decide +kernel
theorem dX7_can_37 : decode cX7_can 37 = .ok (.iload 5, 2) := by decide +kernel
theorem dX7_can_39 : decode cX7_can 39 = .ok (.iload_n 3, 1) := by decide +kernel
theorem dX7_can_40 : decode cX7_can 40 = .ok (.if_icmp .ge 8, 3) := by decide +kernel
theorem dX7_can_43 : decode cX7_can 43 = .ok (.iload 4, 2) := by decide +kernel
theorem dX7_can_45 : decode cX7_can 45 = .ok (.goto 4, 3) := by decide +kernel
theorem dX7_can_48 : decode cX7_can 48 = .ok (.iload_n 2, 1) := by decide +kernel
theorem dX7_can_49 : decode cX7_can 49 = .ok (.istore_n 2, 1) := by decide +kernel
theorem dX7_can_50 : decode cX7_can 50 = .ok (.iload_n 3, 1) := by decide +kernel
theorem dX7_can_51 : decode cX7_can 51 = .ok (.iload 5, 2) := by decide +kernel
theorem dX7_can_53 : decode cX7_can 53 = .ok (.invokestatic 165, 3) := by decide +kernel
theorem dX7_can_56 : decode cX7_can 56 = .ok (.istore_n 3, 1) := by decide +kernel
theorem dX7_can_57 : decode cX7_can 57 = .ok (.iinc 4 1, 3) := by decide +kernel
theorem dX7_can_60 : decode cX7_can 60 = .ok (.goto (-52), 3) := by decide +kernel
theorem dX7_can_63 : decode cX7_can 63 = .ok (.iload_n 2, 1) := by decide +kernel
theorem dX7_can_64 : decode cX7_can 64 = .ok (.ifCond .ge 5, 3) := by decide +kernel
theorem dX7_can_67 : decode cX7_can 67 = .ok (.iconst 1, 1) := by decide +kernel
theorem dX7_can_68 : decode cX7_can 68 = .ok (.ireturn, 1) := by decide +kernel
theorem dX7_can_69 : decode cX7_can 69 = .ok (.iconst 0, 1) := by decide +kernel
theorem dX7_can_70 : decode cX7_can 70 = .ok (.istore 4, 2) := by decide +kernel
theorem dX7_can_72 : decode cX7_can 72 = .ok (.iload 4, 2) := by decide +kernel
theorem dX7_can_74 : decode cX7_can 74 = .ok (.iload_n 1, 1) := by decide +kernel
theorem dX7_can_75 : decode cX7_can 75 = .ok (.if_icmp .ge 50, 3) := by decide +kernel
theorem dX7_can_78 : decode cX7_can 78 = .ok (.iload_n 3, 1) := by decide +kernel
theorem dX7_can_79 : decode cX7_can 79 = .ok (.ifCond .le 46, 3) := by decide +kernel
theorem dX7_can_82 : decode cX7_can 82 = .ok (.aload_n 0, 1) := by decide +kernel
theorem dX7_can_83 : decode cX7_can 83 = .ok (.iload_n 2, 1) := by decide +kernel
theorem dX7_can_84 : decode cX7_can 84 = .ok (.iload 4, 2) := by decide +kernel
theorem dX7_can_86 : decode cX7_can 86 = .ok (.invokevirtual 130, 3) := by decide +kernel
theorem dX7_can_89 : decode cX7_can 89 = .ok (.ifCond .eq 30, 3) := by decide +kernel
theorem dX7_can_92 : decode cX7_can 92 = .ok (.aload_n 0, 1) := by decide +kernel
theorem dX7_can_93 : decode cX7_can 93 = .ok (.iload_n 2, 1) := by decide +kernel
theorem dX7_can_94 : decode cX7_can 94 = .ok (.iload 4, 2) := by decide +kernel
theorem dX7_can_96 : decode cX7_can 96 = .ok (.invokevirtual 78, 3) := by decide +kernel
theorem dX7_can_99 : decode cX7_can 99 = .ok (.aload_n 0, 1) := by decide +kernel
theorem dX7_can_100 : decode cX7_can 100 = .ok (.iload_n 1, 1) := by decide +kernel
theorem dX7_can_101 : decode cX7_can 101 = .ok (.invokevirtual 174, 3) := by decide +kernel
theorem dX7_can_104 : decode cX7_can 104 = .ok (.istore 5, 2) := by decide +kernel
theorem dX7_can_106 : decode cX7_can 106 = .ok (.aload_n 0, 1) := by decide +kernel
theorem dX7_can_107 : decode cX7_can 107 = .ok (.iload_n 2, 1) := by decide +kernel
theorem dX7_can_108 : decode cX7_can 108 = .ok (.iconst (-1), 1) := by decide +kernel
theorem dX7_can_109 : decode cX7_can 109 = .ok (.invokevirtual 78, 3) := by decide +kernel
theorem dX7_can_112 : decode cX7_can 112 = .ok (.iload 5, 2) := by decide +kernel
theorem dX7_can_114 : decode cX7_can 114 = .ok (.ifCond .eq 5, 3) := by decide +kernel
theorem dX7_can_117 : decode cX7_can 117 = .ok (.iconst 1, 1) := by decide +kernel
theorem dX7_can_118 : decode cX7_can 118 = .ok (.ireturn, 1) := by decide +kernel
theorem dX7_can_119 : decode cX7_can 119 = .ok (.iinc 4 1, 3) := by decide +kernel
theorem dX7_can_122 : decode cX7_can 122 = .ok (.goto (-50), 3) := by decide +kernel
theorem dX7_can_125 : decode cX7_can 125 = .ok (.iconst 0, 1) := by decide +kernel
theorem dX7_can_126 : decode cX7_can 126 = .ok (.ireturn, 1) := by decide +kernel
theorem dX7_least_0 : decode cX7_least 0 = .ok (.aload_n 0, 1) := by decide +kernel
theorem dX7_least_1 : decode cX7_least 1 = .ok (.getfield 11, 3) := by decide +kernel
theorem dX7_least_4 : decode cX7_least 4 = .ok (.iconst 0, 1) := by decide +kernel
theorem dX7_least_5 : decode cX7_least 5 = .ok (.iaload, 1) := by decide +kernel
theorem dX7_least_6 : decode cX7_least 6 = .ok (.ifCond .ne 5, 3) := by decide +kernel
theorem dX7_least_9 : decode cX7_least 9 = .ok (.iconst 0, 1) := by decide +kernel
theorem dX7_least_10 : decode cX7_least 10 = .ok (.ireturn, 1) := by decide +kernel
theorem dX7_least_11 : decode cX7_least 11 = .ok (.aload_n 0, 1) := by decide +kernel
theorem dX7_least_12 : decode cX7_least 12 = .ok (.getfield 11, 3) := by decide +kernel
theorem dX7_least_15 : decode cX7_least 15 = .ok (.aload_n 0, 1) := by decide +kernel
theorem dX7_least_16 : decode cX7_least 16 = .ok (.getfield 15, 3) := by decide +kernel
theorem dX7_least_19 : decode cX7_least 19 = .ok (.invokestatic 177, 3) := by decide +kernel
theorem dX7_least_22 : decode cX7_least 22 = .ok (.iconst 1, 1) := by decide +kernel
theorem dX7_least_23 : decode cX7_least 23 = .ok (.aload_n 0, 1) := by decide +kernel
theorem dX7_least_24 : decode cX7_least 24 = .ok (.invokevirtual 181, 3) := by decide +kernel
theorem dX7_least_27 : decode cX7_least 27 = .ok (.invokestatic 113, 3) := by decide +kernel
theorem dX7_least_30 : decode cX7_least 30 = .ok (.istore_n 1, 1) := by decide +kernel
theorem dX7_least_31 : decode cX7_least 31 = .ok (.iconst 0, 1) := by decide +kernel
theorem dX7_least_32 : decode cX7_least 32 = .ok (.istore_n 2, 1) := by decide +kernel
theorem dX7_least_33 : decode cX7_least 33 = .ok (.iconst 0, 1) := by decide +kernel
theorem dX7_least_34 : decode cX7_least 34 = .ok (.istore_n 3, 1) := by decide +kernel
theorem dX7_least_35 : decode cX7_least 35 = .ok (.iload_n 3, 1) := by decide +kernel
theorem dX7_least_36 : decode cX7_least 36 = .ok (.aload_n 0, 1) := by decide +kernel
theorem dX7_least_37 : decode cX7_least 37 = .ok (.getfield 11, 3) := by decide +kernel
theorem dX7_least_40 : decode cX7_least 40 = .ok (.iconst 0, 1) := by decide +kernel
theorem dX7_least_41 : decode cX7_least 41 = .ok (.iaload, 1) := by decide +kernel
theorem dX7_least_42 : decode cX7_least 42 = .ok (.if_icmp .ge 38, 3) := by decide +kernel
theorem dX7_least_45 : decode cX7_least 45 = .ok (.aload_n 0, 1) := by decide +kernel
theorem dX7_least_46 : decode cX7_least 46 = .ok (.iload_n 3, 1) := by decide +kernel
theorem dX7_least_47 : decode cX7_least 47 = .ok (.invokevirtual 72, 3) := by decide +kernel
theorem dX7_least_50 : decode cX7_least 50 = .ok (.ifCond .eq 18, 3) := by decide +kernel
theorem dX7_least_53 : decode cX7_least 53 = .ok (.iload_n 1, 1) := by decide +kernel
theorem dX7_least_54 : decode cX7_least 54 = .ok (.aload_n 0, 1) := by decide +kernel
theorem dX7_least_55 : decode cX7_least 55 = .ok (.iload_n 3, 1) := by decide +kernel
theorem dX7_least_56 : decode cX7_least 56 = .ok (.invokevirtual 75, 3) := by decide +kernel
theorem dX7_least_59 : decode cX7_least 59 = .ok (.iconst 1, 1) := by decide +kernel
theorem dX7_least_60 : decode cX7_least 60 = .ok (.iadd, 1) := by decide +kernel
theorem dX7_least_61 : decode cX7_least 61 = .ok (.invokestatic 113, 3) := by decide +kernel
theorem dX7_least_64 : decode cX7_least 64 = .ok (.istore_n 1, 1) := by decide +kernel
theorem dX7_least_65 : decode cX7_least 65 = .ok (.goto 9, 3) := by decide +kernel
theorem dX7_least_68 : decode cX7_least 68 = .ok (.aload_n 0, 1) := by decide +kernel
theorem dX7_least_69 : decode cX7_least 69 = .ok (.iload_n 3, 1) := by decide +kernel
theorem dX7_least_70 : decode cX7_least 70 = .ok (.iconst (-1), 1) := by decide +kernel
theorem dX7_least_71 : decode cX7_least 71 = .ok (.invokevirtual 78, 3) := by decide +kernel
theorem dX7_least_74 : decode cX7_least 74 = .ok (.iinc 3 1, 3) := by decide +kernel
theorem dX7_least_77 : decode cX7_least 77 = .ok (.goto (-42), 3) := by decide +kernel
theorem dX7_least_80 : decode cX7_least 80 = .ok (.aload_n 0, 1) := by decide +kernel
theorem dX7_least_81 : decode cX7_least 81 = .ok (.invokevirtual 159, 3) := by decide +kernel
theorem dX7_least_84 : decode cX7_least 84 = .ok (.ifCond .le 7, 3) := by decide +kernel
theorem dX7_least_87 : decode cX7_least 87 = .ok (.iconst 1, 1) := by decide +kernel
theorem dX7_least_88 : decode cX7_least 88 = .ok (.goto 4, 3) := by decide +kernel
theorem dX7_least_91 : decode cX7_least 91 = .ok (.iconst 0, 1) := by decide +kernel
theorem dX7_least_92 : decode cX7_least 92 = .ok (.istore_n 2, 1) := by decide +kernel
theorem dX7_least_93 : decode cX7_least 93 = .ok (.iload_n 1, 1) := by decide +kernel
theorem dX7_least_94 : decode cX7_least 94 = .ok (.istore_n 3, 1) := by decide +kernel
theorem dX7_least_95 : decode cX7_least 95 = .ok (.iload_n 2, 1) := by decide +kernel
theorem dX7_least_96 : decode cX7_least 96 = .ok (.ifCond .ne 23, 3) := by decide +kernel
theorem dX7_least_99 : decode cX7_least 99 = .ok (.iload_n 3, 1) := by decide +kernel
theorem dX7_least_100 : decode cX7_least 100 = .ok (.bipush 12, 2) := by decide +kernel
theorem dX7_least_102 : decode cX7_least 102 = .ok (.if_icmp .gt 17, 3) := by decide +kernel
theorem dX7_least_105 : decode cX7_least 105 = .ok (.aload_n 0, 1) := by decide +kernel
theorem dX7_least_106 : decode cX7_least 106 = .ok (.iload_n 3, 1) := by decide +kernel
theorem dX7_least_107 : decode cX7_least 107 = .ok (.invokevirtual 174, 3) := by decide +kernel
theorem dX7_least_110 : decode cX7_least 110 = .ok (.ifCond .ne 9, 3) := by decide +kernel
theorem dX7_least_113 : decode cX7_least 113 = .ok (.iinc 3 1, 3) := by decide +kernel
theorem dX7_least_116 : decode cX7_least 116 = .ok (.goto (-21), 3) := by decide +kernel
theorem dX7_least_119 : decode cX7_least 119 = .ok (.aload_n 0, 1) := by decide +kernel
theorem dX7_least_120 : decode cX7_least 120 = .ok (.getfield 15, 3) := by decide +kernel
theorem dX7_least_123 : decode cX7_least 123 = .ok (.aload_n 0, 1) := by decide +kernel
theorem dX7_least_124 : decode cX7_least 124 = .ok (.getfield 11, 3) := by decide +kernel
theorem dX7_least_127 : decode cX7_least 127 = .ok (.invokestatic 177, 3) := by decide +kernel
theorem dX7_least_130 : decode cX7_least 130 = .ok (.iload_n 2, 1) := by decide +kernel
theorem dX7_least_131 : decode cX7_least 131 = .ok (.ifCond .ne 9, 3) := by decide +kernel
theorem dX7_least_134 : decode cX7_least 134 = .ok (.iload_n 3, 1) := by decide +kernel
theorem dX7_least_135 : decode cX7_least 135 = .ok (.bipush 12, 2) := by decide +kernel
theorem dX7_least_137 : decode cX7_least 137 = .ok (.if_icmp .le 8, 3) := by decide +kernel
theorem dX7_least_140 : decode cX7_least 140 = .ok (.bipush (-5), 2) := by decide +kernel
theorem dX7_least_142 : decode cX7_least 142 = .ok (.goto 4, 3) := by decide +kernel
theorem dX7_least_145 : decode cX7_least 145 = .ok (.iload_n 3, 1) := by decide +kernel
theorem dX7_least_146 : decode cX7_least 146 = .ok (.ireturn, 1) := by decide +kernel
theorem dX7_unlike_0 : decode cX7_unlike 0 = .ok (.iconst 0, 1) := by decide +kernel
theorem dX7_unlike_1 : decode cX7_unlike 1 = .ok (.istore_n 1, 1) := by decide +kernel
theorem dX7_unlike_2 : decode cX7_unlike 2 = .ok (.iconst 0, 1) := by decide +kernel
theorem dX7_unlike_3 : decode cX7_unlike 3 = .ok (.istore_n 2, 1) := by decide +kernel
theorem dX7_unlike_4 : decode cX7_unlike 4 = .ok (.iload_n 2, 1) := by decide +kernel
theorem dX7_unlike_5 : decode cX7_unlike 5 = .ok (.aload_n 0, 1) := by decide +kernel
theorem dX7_unlike_6 : decode cX7_unlike 6 = .ok (.getfield 11, 3) := by decide +kernel
theorem dX7_unlike_9 : decode cX7_unlike 9 = .ok (.iconst 0, 1) := by decide +kernel
theorem dX7_unlike_10 : decode cX7_unlike 10 = .ok (.iaload, 1) := by decide +kernel
theorem dX7_unlike_11 : decode cX7_unlike 11 = .ok (.if_icmp .ge 31, 3) := by decide +kernel
theorem dX7_unlike_14 : decode cX7_unlike 14 = .ok (.iload_n 1, 1) := by decide +kernel
theorem dX7_unlike_15 : decode cX7_unlike 15 = .ok (.aload_n 0, 1) := by decide +kernel
theorem dX7_unlike_16 : decode cX7_unlike 16 = .ok (.iload_n 2, 1) := by decide +kernel
theorem dX7_unlike_17 : decode cX7_unlike 17 = .ok (.invokevirtual 75, 3) := by decide +kernel
theorem dX7_unlike_20 : decode cX7_unlike 20 = .ok (.ifCond .lt 13, 3) := by decide +kernel
theorem dX7_unlike_23 : decode cX7_unlike 23 = .ok (.iconst 1, 1) := by decide +kernel
theorem dX7_unlike_24 : decode cX7_unlike 24 = .ok (.aload_n 0, 1) := by decide +kernel
theorem dX7_unlike_25 : decode cX7_unlike 25 = .ok (.iload_n 2, 1) := by decide +kernel
theorem dX7_unlike_26 : decode cX7_unlike 26 = .ok (.invokevirtual 75, 3) := by decide +kernel
theorem dX7_unlike_29 : decode cX7_unlike 29 = .ok (.ishl, 1) := by decide +kernel
theorem dX7_unlike_30 : decode cX7_unlike 30 = .ok (.goto 4, 3) := by decide +kernel
theorem dX7_unlike_33 : decode cX7_unlike 33 = .ok (.iconst 0, 1) := by decide +kernel
theorem dX7_unlike_34 : decode cX7_unlike 34 = .ok (.ior, 1) := by decide +kernel
theorem dX7_unlike_35 : decode cX7_unlike 35 = .ok (.istore_n 1, 1) := by decide +kernel
theorem dX7_unlike_36 : decode cX7_unlike 36 = .ok (.iinc 2 1, 3) := by decide +kernel
theorem dX7_unlike_39 : decode cX7_unlike 39 = .ok (.goto (-35), 3) := by decide +kernel
theorem dX7_unlike_42 : decode cX7_unlike 42 = .ok (.iload_n 1, 1) := by decide +kernel
theorem dX7_unlike_43 : decode cX7_unlike 43 = .ok (.invokestatic 150, 3) := by decide +kernel
theorem dX7_unlike_46 : decode cX7_unlike 46 = .ok (.ireturn, 1) := by decide +kernel
theorem dX7_having_0 : decode cX7_having 0 = .ok (.iconst 0, 1) := by decide +kernel
theorem dX7_having_1 : decode cX7_having 1 = .ok (.istore_n 1, 1) := by decide +kernel
theorem dX7_having_2 : decode cX7_having 2 = .ok (.iconst 0, 1) := by decide +kernel
theorem dX7_having_3 : decode cX7_having 3 = .ok (.istore_n 2, 1) := by decide +kernel
theorem dX7_having_4 : decode cX7_having 4 = .ok (.iload_n 2, 1) := by decide +kernel
theorem dX7_having_5 : decode cX7_having 5 = .ok (.aload_n 0, 1) := by decide +kernel
theorem dX7_having_6 : decode cX7_having 6 = .ok (.getfield 11, 3) := by decide +kernel
theorem dX7_having_9 : decode cX7_having 9 = .ok (.iconst 0, 1) := by decide +kernel
theorem dX7_having_10 : decode cX7_having 10 = .ok (.iaload, 1) := by decide +kernel
theorem dX7_having_11 : decode cX7_having 11 = .ok (.if_icmp .ge 25, 3) := by decide +kernel
theorem dX7_having_14 : decode cX7_having 14 = .ok (.iload_n 1, 1) := by decide +kernel
theorem dX7_having_15 : decode cX7_having 15 = .ok (.aload_n 0, 1) := by decide +kernel
theorem dX7_having_16 : decode cX7_having 16 = .ok (.iload_n 2, 1) := by decide +kernel
theorem dX7_having_17 : decode cX7_having 17 = .ok (.invokevirtual 75, 3) := by decide +kernel
theorem dX7_having_20 : decode cX7_having 20 = .ok (.ifCond .lt 7, 3) := by decide +kernel
theorem dX7_having_23 : decode cX7_having 23 = .ok (.iconst 1, 1) := by decide +kernel
theorem dX7_having_24 : decode cX7_having 24 = .ok (.goto 4, 3) := by decide +kernel
theorem dX7_having_27 : decode cX7_having 27 = .ok (.iconst 0, 1) := by decide +kernel
theorem dX7_having_28 : decode cX7_having 28 = .ok (.iadd, 1) := by decide +kernel
theorem dX7_having_29 : decode cX7_having 29 = .ok (.istore_n 1, 1) := by decide +kernel
theorem dX7_having_30 : decode cX7_having 30 = .ok (.iinc 2 1, 3) := by decide +kernel
theorem dX7_having_33 : decode cX7_having 33 = .ok (.goto (-29), 3) := by decide +kernel
theorem dX7_having_36 : decode cX7_having 36 = .ok (.iload_n 1, 1) := by decide +kernel
theorem dX7_having_37 : decode cX7_having 37 = .ok (.ireturn, 1) := by decide +kernel
theorem dX7_fixedSet_0 : decode cX7_fixedSet 0 = .ok (.iconst 0, 1) := by decide +kernel
theorem dX7_fixedSet_1 : decode cX7_fixedSet 1 = .ok (.istore_n 1, 1) := by decide +kernel
theorem dX7_fixedSet_2 : decode cX7_fixedSet 2 = .ok (.iconst 0, 1) := by decide +kernel
theorem dX7_fixedSet_3 : decode cX7_fixedSet 3 = .ok (.istore_n 2, 1) := by decide +kernel
theorem dX7_fixedSet_4 : decode cX7_fixedSet 4 = .ok (.iload_n 2, 1) := by decide +kernel
theorem dX7_fixedSet_5 : decode cX7_fixedSet 5 = .ok (.aload_n 0, 1) := by decide +kernel
theorem dX7_fixedSet_6 : decode cX7_fixedSet 6 = .ok (.getfield 11, 3) := by decide +kernel
theorem dX7_fixedSet_9 : decode cX7_fixedSet 9 = .ok (.iconst 0, 1) := by decide +kernel
theorem dX7_fixedSet_10 : decode cX7_fixedSet 10 = .ok (.iaload, 1) := by decide +kernel
theorem dX7_fixedSet_11 : decode cX7_fixedSet 11 = .ok (.if_icmp .ge 27, 3) := by decide +kernel
theorem dX7_fixedSet_14 : decode cX7_fixedSet 14 = .ok (.iload_n 1, 1) := by decide +kernel
theorem dX7_fixedSet_15 : decode cX7_fixedSet 15 = .ok (.aload_n 0, 1) := by decide +kernel
theorem dX7_fixedSet_16 : decode cX7_fixedSet 16 = .ok (.iload_n 2, 1) := by decide +kernel
theorem dX7_fixedSet_17 : decode cX7_fixedSet 17 = .ok (.invokevirtual 72, 3) := by decide +kernel
theorem dX7_fixedSet_20 : decode cX7_fixedSet 20 = .ok (.ifCond .eq 9, 3) := by decide +kernel
theorem dX7_fixedSet_23 : decode cX7_fixedSet 23 = .ok (.iconst 1, 1) := by decide +kernel
theorem dX7_fixedSet_24 : decode cX7_fixedSet 24 = .ok (.iload_n 2, 1) := by decide +kernel
theorem dX7_fixedSet_25 : decode cX7_fixedSet 25 = .ok (.ishl, 1) := by decide +kernel
theorem dX7_fixedSet_26 : decode cX7_fixedSet 26 = .ok (.goto 4, 3) := by decide +kernel
theorem dX7_fixedSet_29 : decode cX7_fixedSet 29 = .ok (.iconst 0, 1) := by decide +kernel
theorem dX7_fixedSet_30 : decode cX7_fixedSet 30 = .ok (.ior, 1) := by decide +kernel
theorem dX7_fixedSet_31 : decode cX7_fixedSet 31 = .ok (.istore_n 1, 1) := by decide +kernel
theorem dX7_fixedSet_32 : decode cX7_fixedSet 32 = .ok (.iinc 2 1, 3) := by decide +kernel
theorem dX7_fixedSet_35 : decode cX7_fixedSet 35 = .ok (.goto (-31), 3) := by decide +kernel
theorem dX7_fixedSet_38 : decode cX7_fixedSet 38 = .ok (.iload_n 1, 1) := by decide +kernel
theorem dX7_fixedSet_39 : decode cX7_fixedSet 39 = .ok (.ireturn, 1) := by decide +kernel
theorem dX7_told_0 : decode cX7_told 0 = .ok (.iload_n 1, 1) := by decide +kernel
theorem dX7_told_1 : decode cX7_told 1 = .ok (.tableswitch 110 0 8 #[51, 58, 63, 68, 73, 78, 95, 100, 105], 51) := by decide +kernel
theorem dX7_told_52 : decode cX7_told 52 = .ok (.aload_n 0, 1) := by decide +kernel
theorem dX7_told_53 : decode cX7_told 53 = .ok (.getfield 11, 3) := by decide +kernel
theorem dX7_told_56 : decode cX7_told 56 = .ok (.iconst 0, 1) := by decide +kernel
theorem dX7_told_57 : decode cX7_told 57 = .ok (.iaload, 1) := by decide +kernel
theorem dX7_told_58 : decode cX7_told 58 = .ok (.ireturn, 1) := by decide +kernel
theorem dX7_told_59 : decode cX7_told 59 = .ok (.aload_n 0, 1) := by decide +kernel
theorem dX7_told_60 : decode cX7_told 60 = .ok (.invokevirtual 184, 3) := by decide +kernel
theorem dX7_told_63 : decode cX7_told 63 = .ok (.ireturn, 1) := by decide +kernel
theorem dX7_told_64 : decode cX7_told 64 = .ok (.aload_n 0, 1) := by decide +kernel
theorem dX7_told_65 : decode cX7_told 65 = .ok (.invokevirtual 159, 3) := by decide +kernel
theorem dX7_told_68 : decode cX7_told 68 = .ok (.ireturn, 1) := by decide +kernel
theorem dX7_told_69 : decode cX7_told 69 = .ok (.aload_n 0, 1) := by decide +kernel
theorem dX7_told_70 : decode cX7_told 70 = .ok (.invokevirtual 181, 3) := by decide +kernel
theorem dX7_told_73 : decode cX7_told 73 = .ok (.ireturn, 1) := by decide +kernel
theorem dX7_told_74 : decode cX7_told 74 = .ok (.aload_n 0, 1) := by decide +kernel
theorem dX7_told_75 : decode cX7_told 75 = .ok (.invokevirtual 187, 3) := by decide +kernel
theorem dX7_told_78 : decode cX7_told 78 = .ok (.ireturn, 1) := by decide +kernel
theorem dX7_told_79 : decode cX7_told 79 = .ok (.aload_n 0, 1) := by decide +kernel
theorem dX7_told_80 : decode cX7_told 80 = .ok (.invokevirtual 187, 3) := by decide +kernel
theorem dX7_told_83 : decode cX7_told 83 = .ok (.aload_n 0, 1) := by decide +kernel
theorem dX7_told_84 : decode cX7_told 84 = .ok (.invokevirtual 181, 3) := by decide +kernel
theorem dX7_told_87 : decode cX7_told 87 = .ok (.if_icmp .ne 7, 3) := by decide +kernel
theorem dX7_told_90 : decode cX7_told 90 = .ok (.iconst 1, 1) := by decide +kernel
theorem dX7_told_91 : decode cX7_told 91 = .ok (.goto 4, 3) := by decide +kernel
theorem dX7_told_94 : decode cX7_told 94 = .ok (.iconst 0, 1) := by decide +kernel
theorem dX7_told_95 : decode cX7_told 95 = .ok (.ireturn, 1) := by decide +kernel
theorem dX7_told_96 : decode cX7_told 96 = .ok (.aload_n 0, 1) := by decide +kernel
theorem dX7_told_97 : decode cX7_told 97 = .ok (.invokevirtual 190, 3) := by decide +kernel
theorem dX7_told_100 : decode cX7_told 100 = .ok (.ireturn, 1) := by decide +kernel
theorem dX7_told_101 : decode cX7_told 101 = .ok (.aload_n 0, 1) := by decide +kernel
theorem dX7_told_102 : decode cX7_told 102 = .ok (.invokevirtual 193, 3) := by decide +kernel
theorem dX7_told_105 : decode cX7_told 105 = .ok (.ireturn, 1) := by decide +kernel
theorem dX7_told_106 : decode cX7_told 106 = .ok (.aload_n 0, 1) := by decide +kernel
theorem dX7_told_107 : decode cX7_told 107 = .ok (.invokevirtual 196, 3) := by decide +kernel
theorem dX7_told_110 : decode cX7_told 110 = .ok (.ireturn, 1) := by decide +kernel
theorem dX7_told_111 : decode cX7_told 111 = .ok (.iconst (-1), 1) := by decide +kernel
theorem dX7_told_112 : decode cX7_told 112 = .ok (.ireturn, 1) := by decide +kernel
theorem dX7_sorted_0 : decode cX7_sorted 0 = .ok (.iload_n 1, 1) := by decide +kernel
theorem dX7_sorted_1 : decode cX7_sorted 1 = .ok (.ifCond .ge 5, 3) := by decide +kernel
theorem dX7_sorted_4 : decode cX7_sorted 4 = .ok (.iconst (-1), 1) := by decide +kernel
theorem dX7_sorted_5 : decode cX7_sorted 5 = .ok (.ireturn, 1) := by decide +kernel
theorem dX7_sorted_6 : decode cX7_sorted 6 = .ok (.iconst 0, 1) := by decide +kernel
theorem dX7_sorted_7 : decode cX7_sorted 7 = .ok (.istore_n 2, 1) := by decide +kernel
theorem dX7_sorted_8 : decode cX7_sorted 8 = .ok (.iconst 0, 1) := by decide +kernel
theorem dX7_sorted_9 : decode cX7_sorted 9 = .ok (.istore_n 3, 1) := by decide +kernel
theorem dX7_sorted_10 : decode cX7_sorted 10 = .ok (.iload_n 3, 1) := by decide +kernel
theorem dX7_sorted_11 : decode cX7_sorted 11 = .ok (.bipush 20, 2) := by decide +kernel
theorem dX7_sorted_13 : decode cX7_sorted 13 = .ok (.if_icmp .ge 50, 3) := by decide +kernel
theorem dX7_sorted_16 : decode cX7_sorted 16 = .ok (.iconst 0, 1) := by decide +kernel
theorem dX7_sorted_17 : decode cX7_sorted 17 = .ok (.istore 4, 2) := by decide +kernel
theorem dX7_sorted_19 : decode cX7_sorted 19 = .ok (.iload 4, 2) := by decide +kernel
theorem dX7_sorted_21 : decode cX7_sorted 21 = .ok (.aload_n 0, 1) := by decide +kernel
theorem dX7_sorted_22 : decode cX7_sorted 22 = .ok (.getfield 11, 3) := by decide +kernel
theorem dX7_sorted_25 : decode cX7_sorted 25 = .ok (.iconst 0, 1) := by decide +kernel
theorem dX7_sorted_26 : decode cX7_sorted 26 = .ok (.iaload, 1) := by decide +kernel
theorem dX7_sorted_27 : decode cX7_sorted 27 = .ok (.if_icmp .ge 30, 3) := by decide +kernel
theorem dX7_sorted_30 : decode cX7_sorted 30 = .ok (.aload_n 0, 1) := by decide +kernel
theorem dX7_sorted_31 : decode cX7_sorted 31 = .ok (.iload 4, 2) := by decide +kernel
theorem dX7_sorted_33 : decode cX7_sorted 33 = .ok (.invokevirtual 75, 3) := by decide +kernel
theorem dX7_sorted_36 : decode cX7_sorted 36 = .ok (.iload_n 3, 1) := by decide +kernel
theorem dX7_sorted_37 : decode cX7_sorted 37 = .ok (.if_icmp .ne 14, 3) := by decide +kernel
theorem dX7_sorted_40 : decode cX7_sorted 40 = .ok (.iload_n 2, 1) := by decide +kernel
theorem dX7_sorted_41 : decode cX7_sorted 41 = .ok (.iload_n 1, 1) := by decide +kernel
theorem dX7_sorted_42 : decode cX7_sorted 42 = .ok (.if_icmp .ne 6, 3) := by decide +kernel
theorem dX7_sorted_45 : decode cX7_sorted 45 = .ok (.iload 4, 2) := by decide +kernel
theorem dX7_sorted_47 : decode cX7_sorted 47 = .ok (.ireturn, 1) := by decide +kernel
theorem dX7_sorted_48 : decode cX7_sorted 48 = .ok (.iinc 2 1, 3) := by decide +kernel
theorem dX7_sorted_51 : decode cX7_sorted 51 = .ok (.iinc 4 1, 3) := by decide +kernel
theorem dX7_sorted_54 : decode cX7_sorted 54 = .ok (.goto (-35), 3) := by decide +kernel
theorem dX7_sorted_57 : decode cX7_sorted 57 = .ok (.iinc 3 1, 3) := by decide +kernel
theorem dX7_sorted_60 : decode cX7_sorted 60 = .ok (.goto (-50), 3) := by decide +kernel
theorem dX7_sorted_63 : decode cX7_sorted 63 = .ok (.bipush (-5), 2) := by decide +kernel
theorem dX7_sorted_65 : decode cX7_sorted 65 = .ok (.ireturn, 1) := by decide +kernel
theorem dX7_see_0 : decode cX7_see 0 = .ok (.iload_n 1, 1) := by decide +kernel
theorem dX7_see_1 : decode cX7_see 1 = .ok (.iconst (-1), 1) := by decide +kernel
theorem dX7_see_2 : decode cX7_see 2 = .ok (.if_icmp .ne 12, 3) := by decide +kernel
theorem dX7_see_5 : decode cX7_see 5 = .ok (.aload_n 0, 1) := by decide +kernel
theorem dX7_see_6 : decode cX7_see 6 = .ok (.getfield 11, 3) := by decide +kernel
theorem dX7_see_9 : decode cX7_see 9 = .ok (.iconst 1, 1) := by decide +kernel
theorem dX7_see_10 : decode cX7_see 10 = .ok (.iconst 0, 1) := by decide +kernel
theorem dX7_see_11 : decode cX7_see 11 = .ok (.iastore, 1) := by decide +kernel
theorem dX7_see_12 : decode cX7_see 12 = .ok (.iconst 0, 1) := by decide +kernel
theorem dX7_see_13 : decode cX7_see 13 = .ok (.ireturn, 1) := by decide +kernel
theorem dX7_see_14 : decode cX7_see 14 = .ok (.aload_n 0, 1) := by decide +kernel
theorem dX7_see_15 : decode cX7_see 15 = .ok (.iload_n 1, 1) := by decide +kernel
theorem dX7_see_16 : decode cX7_see 16 = .ok (.invokevirtual 64, 3) := by decide +kernel
theorem dX7_see_19 : decode cX7_see 19 = .ok (.ifCond .ne 5, 3) := by decide +kernel
theorem dX7_see_22 : decode cX7_see 22 = .ok (.iconst (-1), 1) := by decide +kernel
theorem dX7_see_23 : decode cX7_see 23 = .ok (.ireturn, 1) := by decide +kernel
theorem dX7_see_24 : decode cX7_see 24 = .ok (.iload_n 2, 1) := by decide +kernel
theorem dX7_see_25 : decode cX7_see 25 = .ok (.i2l, 1) := by decide +kernel
theorem dX7_see_26 : decode cX7_see 26 = .ok (.lconst 0, 1) := by decide +kernel
theorem dX7_see_27 : decode cX7_see 27 = .ok (.ldc2_w 70, 3) := by decide +kernel
theorem dX7_see_30 : decode cX7_see 30 = .ok (.invokestatic 37, 3) := by decide +kernel
theorem dX7_see_33 : decode cX7_see 33 = .ok (.ifCond .ne 6, 3) := by decide +kernel
theorem dX7_see_36 : decode cX7_see 36 = .ok (.bipush (-2), 2) := by decide +kernel
theorem dX7_see_38 : decode cX7_see 38 = .ok (.ireturn, 1) := by decide +kernel
theorem dX7_see_39 : decode cX7_see 39 = .ok (.aload_n 0, 1) := by decide +kernel
theorem dX7_see_40 : decode cX7_see 40 = .ok (.getfield 11, 3) := by decide +kernel
theorem dX7_see_43 : decode cX7_see 43 = .ok (.iconst 1, 1) := by decide +kernel
theorem dX7_see_44 : decode cX7_see 44 = .ok (.iaload, 1) := by decide +kernel
theorem dX7_see_45 : decode cX7_see 45 = .ok (.istore_n 3, 1) := by decide +kernel
theorem dX7_see_46 : decode cX7_see 46 = .ok (.iload_n 3, 1) := by decide +kernel
theorem dX7_see_47 : decode cX7_see 47 = .ok (.iconst 5, 1) := by decide +kernel
theorem dX7_see_48 : decode cX7_see 48 = .ok (.if_icmp .ne 6, 3) := by decide +kernel
theorem dX7_see_51 : decode cX7_see 51 = .ok (.bipush (-4), 2) := by decide +kernel
theorem dX7_see_53 : decode cX7_see 53 = .ok (.ireturn, 1) := by decide +kernel
theorem dX7_see_54 : decode cX7_see 54 = .ok (.aload_n 0, 1) := by decide +kernel
theorem dX7_see_55 : decode cX7_see 55 = .ok (.getfield 11, 3) := by decide +kernel
theorem dX7_see_58 : decode cX7_see 58 = .ok (.bipush 42, 2) := by decide +kernel
theorem dX7_see_60 : decode cX7_see 60 = .ok (.iconst 2, 1) := by decide +kernel
theorem dX7_see_61 : decode cX7_see 61 = .ok (.iload_n 3, 1) := by decide +kernel
theorem dX7_see_62 : decode cX7_see 62 = .ok (.imul, 1) := by decide +kernel
theorem dX7_see_63 : decode cX7_see 63 = .ok (.iadd, 1) := by decide +kernel
theorem dX7_see_64 : decode cX7_see 64 = .ok (.iload_n 1, 1) := by decide +kernel
theorem dX7_see_65 : decode cX7_see 65 = .ok (.iastore, 1) := by decide +kernel
theorem dX7_see_66 : decode cX7_see 66 = .ok (.aload_n 0, 1) := by decide +kernel
theorem dX7_see_67 : decode cX7_see 67 = .ok (.getfield 11, 3) := by decide +kernel
theorem dX7_see_70 : decode cX7_see 70 = .ok (.bipush 42, 2) := by decide +kernel
theorem dX7_see_72 : decode cX7_see 72 = .ok (.iconst 2, 1) := by decide +kernel
theorem dX7_see_73 : decode cX7_see 73 = .ok (.iload_n 3, 1) := by decide +kernel
theorem dX7_see_74 : decode cX7_see 74 = .ok (.imul, 1) := by decide +kernel
theorem dX7_see_75 : decode cX7_see 75 = .ok (.iadd, 1) := by decide +kernel
theorem dX7_see_76 : decode cX7_see 76 = .ok (.iconst 1, 1) := by decide +kernel
theorem dX7_see_77 : decode cX7_see 77 = .ok (.iadd, 1) := by decide +kernel
theorem dX7_see_78 : decode cX7_see 78 = .ok (.iload_n 2, 1) := by decide +kernel
theorem dX7_see_79 : decode cX7_see 79 = .ok (.iastore, 1) := by decide +kernel
theorem dX7_see_80 : decode cX7_see 80 = .ok (.aload_n 0, 1) := by decide +kernel
theorem dX7_see_81 : decode cX7_see 81 = .ok (.getfield 11, 3) := by decide +kernel
theorem dX7_see_84 : decode cX7_see 84 = .ok (.iconst 1, 1) := by decide +kernel
theorem dX7_see_85 : decode cX7_see 85 = .ok (.iload_n 3, 1) := by decide +kernel
theorem dX7_see_86 : decode cX7_see 86 = .ok (.iconst 1, 1) := by decide +kernel
theorem dX7_see_87 : decode cX7_see 87 = .ok (.iadd, 1) := by decide +kernel
theorem dX7_see_88 : decode cX7_see 88 = .ok (.iastore, 1) := by decide +kernel
end
section
theorem dX7_see_89 : decode cX7_see 89 = .ok (.iload_n 3, 1) := by decide +kernel
theorem dX7_see_90 : decode cX7_see 90 = .ok (.iconst 1, 1) := by decide +kernel
theorem dX7_see_91 : decode cX7_see 91 = .ok (.iadd, 1) := by decide +kernel
theorem dX7_see_92 : decode cX7_see 92 = .ok (.ireturn, 1) := by decide +kernel
theorem dX7_isSeen_0 : decode cX7_isSeen 0 = .ok (.iconst 0, 1) := by decide +kernel
theorem dX7_isSeen_1 : decode cX7_isSeen 1 = .ok (.istore_n 1, 1) := by decide +kernel
theorem dX7_isSeen_2 : decode cX7_isSeen 2 = .ok (.iload_n 1, 1) := by decide +kernel
theorem dX7_isSeen_3 : decode cX7_isSeen 3 = .ok (.aload_n 0, 1) := by decide +kernel
theorem dX7_isSeen_4 : decode cX7_isSeen 4 = .ok (.getfield 11, 3) := by decide +kernel
theorem dX7_isSeen_7 : decode cX7_isSeen 7 = .ok (.iconst 1, 1) := by decide +kernel
theorem dX7_isSeen_8 : decode cX7_isSeen 8 = .ok (.iaload, 1) := by decide +kernel
theorem dX7_isSeen_9 : decode cX7_isSeen 9 = .ok (.if_icmp .ge 42, 3) := by decide +kernel
theorem dX7_isSeen_12 : decode cX7_isSeen 12 = .ok (.aload_n 0, 1) := by decide +kernel
theorem dX7_isSeen_13 : decode cX7_isSeen 13 = .ok (.aload_n 0, 1) := by decide +kernel
theorem dX7_isSeen_14 : decode cX7_isSeen 14 = .ok (.getfield 11, 3) := by decide +kernel
theorem dX7_isSeen_17 : decode cX7_isSeen 17 = .ok (.bipush 42, 2) := by decide +kernel
theorem dX7_isSeen_19 : decode cX7_isSeen 19 = .ok (.iconst 2, 1) := by decide +kernel
theorem dX7_isSeen_20 : decode cX7_isSeen 20 = .ok (.iload_n 1, 1) := by decide +kernel
theorem dX7_isSeen_21 : decode cX7_isSeen 21 = .ok (.imul, 1) := by decide +kernel
theorem dX7_isSeen_22 : decode cX7_isSeen 22 = .ok (.iadd, 1) := by decide +kernel
theorem dX7_isSeen_23 : decode cX7_isSeen 23 = .ok (.iaload, 1) := by decide +kernel
theorem dX7_isSeen_24 : decode cX7_isSeen 24 = .ok (.invokevirtual 75, 3) := by decide +kernel
theorem dX7_isSeen_27 : decode cX7_isSeen 27 = .ok (.aload_n 0, 1) := by decide +kernel
theorem dX7_isSeen_28 : decode cX7_isSeen 28 = .ok (.getfield 11, 3) := by decide +kernel
theorem dX7_isSeen_31 : decode cX7_isSeen 31 = .ok (.bipush 42, 2) := by decide +kernel
theorem dX7_isSeen_33 : decode cX7_isSeen 33 = .ok (.iconst 2, 1) := by decide +kernel
theorem dX7_isSeen_34 : decode cX7_isSeen 34 = .ok (.iload_n 1, 1) := by decide +kernel
theorem dX7_isSeen_35 : decode cX7_isSeen 35 = .ok (.imul, 1) := by decide +kernel
theorem dX7_isSeen_36 : decode cX7_isSeen 36 = .ok (.iadd, 1) := by decide +kernel
theorem dX7_isSeen_37 : decode cX7_isSeen 37 = .ok (.iconst 1, 1) := by decide +kernel
theorem dX7_isSeen_38 : decode cX7_isSeen 38 = .ok (.iadd, 1) := by decide +kernel
theorem dX7_isSeen_39 : decode cX7_isSeen 39 = .ok (.iaload, 1) := by decide +kernel
theorem dX7_isSeen_40 : decode cX7_isSeen 40 = .ok (.if_icmp .eq 5, 3) := by decide +kernel
theorem dX7_isSeen_43 : decode cX7_isSeen 43 = .ok (.iconst 0, 1) := by decide +kernel
theorem dX7_isSeen_44 : decode cX7_isSeen 44 = .ok (.ireturn, 1) := by decide +kernel
theorem dX7_isSeen_45 : decode cX7_isSeen 45 = .ok (.iinc 1 1, 3) := by decide +kernel
theorem dX7_isSeen_48 : decode cX7_isSeen 48 = .ok (.goto (-46), 3) := by decide +kernel
theorem dX7_isSeen_51 : decode cX7_isSeen 51 = .ok (.iconst 1, 1) := by decide +kernel
theorem dX7_isSeen_52 : decode cX7_isSeen 52 = .ok (.ireturn, 1) := by decide +kernel
theorem dX7_fits_0 : decode cX7_fits 0 = .ok (.iload_n 1, 1) := by decide +kernel
theorem dX7_fits_1 : decode cX7_fits 1 = .ok (.i2l, 1) := by decide +kernel
theorem dX7_fits_2 : decode cX7_fits 2 = .ok (.lconst 0, 1) := by decide +kernel
theorem dX7_fits_3 : decode cX7_fits 3 = .ok (.ldc2_w 58, 3) := by decide +kernel
theorem dX7_fits_6 : decode cX7_fits 6 = .ok (.invokestatic 37, 3) := by decide +kernel
theorem dX7_fits_9 : decode cX7_fits 9 = .ok (.ifCond .eq 13, 3) := by decide +kernel
theorem dX7_fits_12 : decode cX7_fits 12 = .ok (.iload_n 2, 1) := by decide +kernel
theorem dX7_fits_13 : decode cX7_fits 13 = .ok (.i2l, 1) := by decide +kernel
theorem dX7_fits_14 : decode cX7_fits 14 = .ok (.lconst 0, 1) := by decide +kernel
theorem dX7_fits_15 : decode cX7_fits 15 = .ok (.lconst 1, 1) := by decide +kernel
theorem dX7_fits_16 : decode cX7_fits 16 = .ok (.invokestatic 37, 3) := by decide +kernel
theorem dX7_fits_19 : decode cX7_fits 19 = .ok (.ifCond .ne 5, 3) := by decide +kernel
theorem dX7_fits_22 : decode cX7_fits 22 = .ok (.iconst (-1), 1) := by decide +kernel
theorem dX7_fits_23 : decode cX7_fits 23 = .ok (.ireturn, 1) := by decide +kernel
theorem dX7_fits_24 : decode cX7_fits 24 = .ok (.iconst 0, 1) := by decide +kernel
theorem dX7_fits_25 : decode cX7_fits 25 = .ok (.istore_n 3, 1) := by decide +kernel
theorem dX7_fits_26 : decode cX7_fits 26 = .ok (.bipush (-5), 2) := by decide +kernel
theorem dX7_fits_28 : decode cX7_fits 28 = .ok (.istore 4, 2) := by decide +kernel
theorem dX7_fits_30 : decode cX7_fits 30 = .ok (.aload_n 0, 1) := by decide +kernel
theorem dX7_fits_31 : decode cX7_fits 31 = .ok (.getfield 11, 3) := by decide +kernel
theorem dX7_fits_34 : decode cX7_fits 34 = .ok (.aload_n 0, 1) := by decide +kernel
theorem dX7_fits_35 : decode cX7_fits 35 = .ok (.getfield 15, 3) := by decide +kernel
theorem dX7_fits_38 : decode cX7_fits 38 = .ok (.invokestatic 177, 3) := by decide +kernel
theorem dX7_fits_41 : decode cX7_fits 41 = .ok (.bipush 40, 2) := by decide +kernel
theorem dX7_fits_43 : decode cX7_fits 43 = .ok (.istore 5, 2) := by decide +kernel
theorem dX7_fits_45 : decode cX7_fits 45 = .ok (.iload 5, 2) := by decide +kernel
theorem dX7_fits_47 : decode cX7_fits 47 = .ok (.iconst 1, 1) := by decide +kernel
theorem dX7_fits_48 : decode cX7_fits 48 = .ok (.if_icmp .lt 53, 3) := by decide +kernel
theorem dX7_fits_51 : decode cX7_fits 51 = .ok (.aload_n 0, 1) := by decide +kernel
theorem dX7_fits_52 : decode cX7_fits 52 = .ok (.getfield 11, 3) := by decide +kernel
theorem dX7_fits_55 : decode cX7_fits 55 = .ok (.bipush 36, 2) := by decide +kernel
theorem dX7_fits_57 : decode cX7_fits 57 = .ok (.iconst 2, 1) := by decide +kernel
theorem dX7_fits_58 : decode cX7_fits 58 = .ok (.iload_n 1, 1) := by decide +kernel
theorem dX7_fits_59 : decode cX7_fits 59 = .ok (.imul, 1) := by decide +kernel
theorem dX7_fits_60 : decode cX7_fits 60 = .ok (.iadd, 1) := by decide +kernel
theorem dX7_fits_61 : decode cX7_fits 61 = .ok (.iload 5, 2) := by decide +kernel
theorem dX7_fits_63 : decode cX7_fits 63 = .ok (.iastore, 1) := by decide +kernel
theorem dX7_fits_64 : decode cX7_fits 64 = .ok (.aload_n 0, 1) := by decide +kernel
theorem dX7_fits_65 : decode cX7_fits 65 = .ok (.invokevirtual 155, 3) := by decide +kernel
theorem dX7_fits_68 : decode cX7_fits 68 = .ok (.istore 6, 2) := by decide +kernel
theorem dX7_fits_70 : decode cX7_fits 70 = .ok (.aload_n 0, 1) := by decide +kernel
theorem dX7_fits_71 : decode cX7_fits 71 = .ok (.invokevirtual 199, 3) := by decide +kernel
theorem dX7_fits_74 : decode cX7_fits 74 = .ok (.ifCond .eq 10, 3) := by decide +kernel
theorem dX7_fits_77 : decode cX7_fits 77 = .ok (.iinc 3 1, 3) := by decide +kernel
theorem dX7_fits_80 : decode cX7_fits 80 = .ok (.iload 5, 2) := by decide +kernel
theorem dX7_fits_82 : decode cX7_fits 82 = .ok (.istore 4, 2) := by decide +kernel
theorem dX7_fits_84 : decode cX7_fits 84 = .ok (.aload_n 0, 1) := by decide +kernel
theorem dX7_fits_85 : decode cX7_fits 85 = .ok (.getfield 15, 3) := by decide +kernel
theorem dX7_fits_88 : decode cX7_fits 88 = .ok (.aload_n 0, 1) := by decide +kernel
theorem dX7_fits_89 : decode cX7_fits 89 = .ok (.getfield 11, 3) := by decide +kernel
theorem dX7_fits_92 : decode cX7_fits 92 = .ok (.invokestatic 177, 3) := by decide +kernel
theorem dX7_fits_95 : decode cX7_fits 95 = .ok (.iinc 5 (-1), 3) := by decide +kernel
theorem dX7_fits_98 : decode cX7_fits 98 = .ok (.goto (-53), 3) := by decide +kernel
theorem dX7_fits_101 : decode cX7_fits 101 = .ok (.iload_n 2, 1) := by decide +kernel
theorem dX7_fits_102 : decode cX7_fits 102 = .ok (.ifCond .ne 7, 3) := by decide +kernel
theorem dX7_fits_105 : decode cX7_fits 105 = .ok (.iload_n 3, 1) := by decide +kernel
theorem dX7_fits_106 : decode cX7_fits 106 = .ok (.goto 5, 3) := by decide +kernel
theorem dX7_fits_109 : decode cX7_fits 109 = .ok (.iload 4, 2) := by decide +kernel
theorem dX7_fits_111 : decode cX7_fits 111 = .ok (.ireturn, 1) := by decide +kernel
theorem dX7_lowest_0 : decode cX7_lowest 0 = .ok (.lload_n 0, 1) := by decide +kernel
theorem dX7_lowest_1 : decode cX7_lowest 1 = .ok (.lstore 5, 2) := by decide +kernel
theorem dX7_lowest_3 : decode cX7_lowest 3 = .ok (.lload_n 2, 1) := by decide +kernel
theorem dX7_lowest_4 : decode cX7_lowest 4 = .ok (.lstore 7, 2) := by decide +kernel
theorem dX7_lowest_6 : decode cX7_lowest 6 = .ok (.lload 7, 2) := by decide +kernel
theorem dX7_lowest_8 : decode cX7_lowest 8 = .ok (.lconst 0, 1) := by decide +kernel
theorem dX7_lowest_9 : decode cX7_lowest 9 = .ok (.lcmp, 1) := by decide +kernel
theorem dX7_lowest_10 : decode cX7_lowest 10 = .ok (.ifCond .eq 21, 3) := by decide +kernel
theorem dX7_lowest_13 : decode cX7_lowest 13 = .ok (.lload 5, 2) := by decide +kernel
theorem dX7_lowest_15 : decode cX7_lowest 15 = .ok (.lload 7, 2) := by decide +kernel
theorem dX7_lowest_17 : decode cX7_lowest 17 = .ok (.lrem, 1) := by decide +kernel
theorem dX7_lowest_18 : decode cX7_lowest 18 = .ok (.lstore 9, 2) := by decide +kernel
theorem dX7_lowest_20 : decode cX7_lowest 20 = .ok (.lload 7, 2) := by decide +kernel
theorem dX7_lowest_22 : decode cX7_lowest 22 = .ok (.lstore 5, 2) := by decide +kernel
theorem dX7_lowest_24 : decode cX7_lowest 24 = .ok (.lload 9, 2) := by decide +kernel
theorem dX7_lowest_26 : decode cX7_lowest 26 = .ok (.lstore 7, 2) := by decide +kernel
theorem dX7_lowest_28 : decode cX7_lowest 28 = .ok (.goto (-22), 3) := by decide +kernel
theorem dX7_lowest_31 : decode cX7_lowest 31 = .ok (.iload 4, 2) := by decide +kernel
theorem dX7_lowest_33 : decode cX7_lowest 33 = .ok (.ifCond .ne 7, 3) := by decide +kernel
theorem dX7_lowest_36 : decode cX7_lowest 36 = .ok (.lload_n 0, 1) := by decide +kernel
theorem dX7_lowest_37 : decode cX7_lowest 37 = .ok (.goto 4, 3) := by decide +kernel
theorem dX7_lowest_40 : decode cX7_lowest 40 = .ok (.lload_n 2, 1) := by decide +kernel
theorem dX7_lowest_41 : decode cX7_lowest 41 = .ok (.lload 5, 2) := by decide +kernel
theorem dX7_lowest_43 : decode cX7_lowest 43 = .ok (.ldiv, 1) := by decide +kernel
theorem dX7_lowest_44 : decode cX7_lowest 44 = .ok (.lreturn, 1) := by decide +kernel
theorem dX7_odds_0 : decode cX7_odds 0 = .ok (.aload_n 0, 1) := by decide +kernel
theorem dX7_odds_1 : decode cX7_odds 1 = .ok (.iload_n 1, 1) := by decide +kernel
theorem dX7_odds_2 : decode cX7_odds 2 = .ok (.invokevirtual 64, 3) := by decide +kernel
theorem dX7_odds_5 : decode cX7_odds 5 = .ok (.ifCond .eq 13, 3) := by decide +kernel
theorem dX7_odds_8 : decode cX7_odds 8 = .ok (.iload_n 2, 1) := by decide +kernel
theorem dX7_odds_9 : decode cX7_odds 9 = .ok (.i2l, 1) := by decide +kernel
theorem dX7_odds_10 : decode cX7_odds 10 = .ok (.lconst 0, 1) := by decide +kernel
theorem dX7_odds_11 : decode cX7_odds 11 = .ok (.lconst 1, 1) := by decide +kernel
theorem dX7_odds_12 : decode cX7_odds 12 = .ok (.invokestatic 37, 3) := by decide +kernel
theorem dX7_odds_15 : decode cX7_odds 15 = .ok (.ifCond .ne 7, 3) := by decide +kernel
theorem dX7_odds_18 : decode cX7_odds 18 = .ok (.ldc2_w 203, 3) := by decide +kernel
theorem dX7_odds_21 : decode cX7_odds 21 = .ok (.lreturn, 1) := by decide +kernel
theorem dX7_odds_22 : decode cX7_odds 22 = .ok (.lconst 0, 1) := by decide +kernel
theorem dX7_odds_23 : decode cX7_odds 23 = .ok (.lstore_n 3, 1) := by decide +kernel
theorem dX7_odds_24 : decode cX7_odds 24 = .ok (.aload_n 0, 1) := by decide +kernel
theorem dX7_odds_25 : decode cX7_odds 25 = .ok (.getfield 11, 3) := by decide +kernel
theorem dX7_odds_28 : decode cX7_odds 28 = .ok (.aload_n 0, 1) := by decide +kernel
theorem dX7_odds_29 : decode cX7_odds 29 = .ok (.getfield 15, 3) := by decide +kernel
theorem dX7_odds_32 : decode cX7_odds 32 = .ok (.invokestatic 177, 3) := by decide +kernel
theorem dX7_odds_35 : decode cX7_odds 35 = .ok (.iconst 0, 1) := by decide +kernel
theorem dX7_odds_36 : decode cX7_odds 36 = .ok (.istore 5, 2) := by decide +kernel
theorem dX7_odds_38 : decode cX7_odds 38 = .ok (.iload 5, 2) := by decide +kernel
theorem dX7_odds_40 : decode cX7_odds 40 = .ok (.bipush 10, 2) := by decide +kernel
theorem dX7_odds_42 : decode cX7_odds 42 = .ok (.if_icmp .ge 62, 3) := by decide +kernel
theorem dX7_odds_45 : decode cX7_odds 45 = .ok (.aload_n 0, 1) := by decide +kernel
theorem dX7_odds_46 : decode cX7_odds 46 = .ok (.iload_n 1, 1) := by decide +kernel
theorem dX7_odds_47 : decode cX7_odds 47 = .ok (.iload 5, 2) := by decide +kernel
theorem dX7_odds_49 : decode cX7_odds 49 = .ok (.invokevirtual 78, 3) := by decide +kernel
theorem dX7_odds_52 : decode cX7_odds 52 = .ok (.aload_n 0, 1) := by decide +kernel
theorem dX7_odds_53 : decode cX7_odds 53 = .ok (.getfield 11, 3) := by decide +kernel
theorem dX7_odds_56 : decode cX7_odds 56 = .ok (.iconst 4, 1) := by decide +kernel
theorem dX7_odds_57 : decode cX7_odds 57 = .ok (.iconst 4, 1) := by decide +kernel
theorem dX7_odds_58 : decode cX7_odds 58 = .ok (.iload_n 1, 1) := by decide +kernel
theorem dX7_odds_59 : decode cX7_odds 59 = .ok (.imul, 1) := by decide +kernel
theorem dX7_odds_60 : decode cX7_odds 60 = .ok (.iadd, 1) := by decide +kernel
theorem dX7_odds_61 : decode cX7_odds 61 = .ok (.iconst 3, 1) := by decide +kernel
theorem dX7_odds_62 : decode cX7_odds 62 = .ok (.iadd, 1) := by decide +kernel
theorem dX7_odds_63 : decode cX7_odds 63 = .ok (.iconst 1, 1) := by decide +kernel
theorem dX7_odds_64 : decode cX7_odds 64 = .ok (.iastore, 1) := by decide +kernel
theorem dX7_odds_65 : decode cX7_odds 65 = .ok (.lload_n 3, 1) := by decide +kernel
theorem dX7_odds_66 : decode cX7_odds 66 = .ok (.aload_n 0, 1) := by decide +kernel
theorem dX7_odds_67 : decode cX7_odds 67 = .ok (.invokevirtual 155, 3) := by decide +kernel
theorem dX7_odds_70 : decode cX7_odds 70 = .ok (.ifCond .ne 14, 3) := by decide +kernel
theorem dX7_odds_73 : decode cX7_odds 73 = .ok (.aload_n 0, 1) := by decide +kernel
theorem dX7_odds_74 : decode cX7_odds 74 = .ok (.invokevirtual 159, 3) := by decide +kernel
theorem dX7_odds_77 : decode cX7_odds 77 = .ok (.ifCond .ne 7, 3) := by decide +kernel
theorem dX7_odds_80 : decode cX7_odds 80 = .ok (.lconst 1, 1) := by decide +kernel
theorem dX7_odds_81 : decode cX7_odds 81 = .ok (.goto 4, 3) := by decide +kernel
theorem dX7_odds_84 : decode cX7_odds 84 = .ok (.lconst 0, 1) := by decide +kernel
theorem dX7_odds_85 : decode cX7_odds 85 = .ok (.ladd, 1) := by decide +kernel
theorem dX7_odds_86 : decode cX7_odds 86 = .ok (.lstore_n 3, 1) := by decide +kernel
theorem dX7_odds_87 : decode cX7_odds 87 = .ok (.aload_n 0, 1) := by decide +kernel
theorem dX7_odds_88 : decode cX7_odds 88 = .ok (.getfield 15, 3) := by decide +kernel
theorem dX7_odds_91 : decode cX7_odds 91 = .ok (.aload_n 0, 1) := by decide +kernel
theorem dX7_odds_92 : decode cX7_odds 92 = .ok (.getfield 11, 3) := by decide +kernel
theorem dX7_odds_95 : decode cX7_odds 95 = .ok (.invokestatic 177, 3) := by decide +kernel
theorem dX7_odds_98 : decode cX7_odds 98 = .ok (.iinc 5 1, 3) := by decide +kernel
theorem dX7_odds_101 : decode cX7_odds 101 = .ok (.goto (-63), 3) := by decide +kernel
theorem dX7_odds_104 : decode cX7_odds 104 = .ok (.lload_n 3, 1) := by decide +kernel
theorem dX7_odds_105 : decode cX7_odds 105 = .ok (.ldc2_w 205, 3) := by decide +kernel
theorem dX7_odds_108 : decode cX7_odds 108 = .ok (.iload_n 2, 1) := by decide +kernel
theorem dX7_odds_109 : decode cX7_odds 109 = .ok (.invokestatic 207, 3) := by decide +kernel
theorem dX7_odds_112 : decode cX7_odds 112 = .ok (.lreturn, 1) := by decide +kernel
theorem dX7_mean_0 : decode cX7_mean 0 = .ok (.aload_n 0, 1) := by decide +kernel
theorem dX7_mean_1 : decode cX7_mean 1 = .ok (.invokevirtual 190, 3) := by decide +kernel
theorem dX7_mean_4 : decode cX7_mean 4 = .ok (.istore_n 2, 1) := by decide +kernel
theorem dX7_mean_5 : decode cX7_mean 5 = .ok (.iload_n 1, 1) := by decide +kernel
theorem dX7_mean_6 : decode cX7_mean 6 = .ok (.i2l, 1) := by decide +kernel
theorem dX7_mean_7 : decode cX7_mean 7 = .ok (.lconst 0, 1) := by decide +kernel
theorem dX7_mean_8 : decode cX7_mean 8 = .ok (.lconst 1, 1) := by decide +kernel
theorem dX7_mean_9 : decode cX7_mean 9 = .ok (.invokestatic 37, 3) := by decide +kernel
theorem dX7_mean_12 : decode cX7_mean 12 = .ok (.ifCond .eq 7, 3) := by decide +kernel
theorem dX7_mean_15 : decode cX7_mean 15 = .ok (.iload_n 2, 1) := by decide +kernel
theorem dX7_mean_16 : decode cX7_mean 16 = .ok (.ifCond .ne 7, 3) := by decide +kernel
theorem dX7_mean_19 : decode cX7_mean 19 = .ok (.ldc2_w 203, 3) := by decide +kernel
theorem dX7_mean_22 : decode cX7_mean 22 = .ok (.lreturn, 1) := by decide +kernel
theorem dX7_mean_23 : decode cX7_mean 23 = .ok (.lconst 0, 1) := by decide +kernel
theorem dX7_mean_24 : decode cX7_mean 24 = .ok (.lstore_n 3, 1) := by decide +kernel
theorem dX7_mean_25 : decode cX7_mean 25 = .ok (.iconst 0, 1) := by decide +kernel
theorem dX7_mean_26 : decode cX7_mean 26 = .ok (.istore 5, 2) := by decide +kernel
theorem dX7_mean_28 : decode cX7_mean 28 = .ok (.iload 5, 2) := by decide +kernel
theorem dX7_mean_30 : decode cX7_mean 30 = .ok (.aload_n 0, 1) := by decide +kernel
theorem dX7_mean_31 : decode cX7_mean 31 = .ok (.getfield 11, 3) := by decide +kernel
theorem dX7_mean_34 : decode cX7_mean 34 = .ok (.iconst 0, 1) := by decide +kernel
theorem dX7_mean_35 : decode cX7_mean 35 = .ok (.iaload, 1) := by decide +kernel
theorem dX7_mean_36 : decode cX7_mean 36 = .ok (.if_icmp .ge 23, 3) := by decide +kernel
theorem dX7_mean_39 : decode cX7_mean 39 = .ok (.lload_n 3, 1) := by decide +kernel
theorem dX7_mean_40 : decode cX7_mean 40 = .ok (.iconst 0, 1) := by decide +kernel
theorem dX7_mean_41 : decode cX7_mean 41 = .ok (.aload_n 0, 1) := by decide +kernel
theorem dX7_mean_42 : decode cX7_mean 42 = .ok (.iload 5, 2) := by decide +kernel
theorem dX7_mean_44 : decode cX7_mean 44 = .ok (.invokevirtual 75, 3) := by decide +kernel
theorem dX7_mean_47 : decode cX7_mean 47 = .ok (.invokestatic 113, 3) := by decide +kernel
theorem dX7_mean_50 : decode cX7_mean 50 = .ok (.i2l, 1) := by decide +kernel
theorem dX7_mean_51 : decode cX7_mean 51 = .ok (.ladd, 1) := by decide +kernel
theorem dX7_mean_52 : decode cX7_mean 52 = .ok (.lstore_n 3, 1) := by decide +kernel
theorem dX7_mean_53 : decode cX7_mean 53 = .ok (.iinc 5 1, 3) := by decide +kernel
theorem dX7_mean_56 : decode cX7_mean 56 = .ok (.goto (-28), 3) := by decide +kernel
theorem dX7_mean_59 : decode cX7_mean 59 = .ok (.lload_n 3, 1) := by decide +kernel
theorem dX7_mean_60 : decode cX7_mean 60 = .ok (.iload_n 2, 1) := by decide +kernel
theorem dX7_mean_61 : decode cX7_mean 61 = .ok (.i2l, 1) := by decide +kernel
theorem dX7_mean_62 : decode cX7_mean 62 = .ok (.iload_n 1, 1) := by decide +kernel
theorem dX7_mean_63 : decode cX7_mean 63 = .ok (.invokestatic 207, 3) := by decide +kernel
theorem dX7_mean_66 : decode cX7_mean 66 = .ok (.lreturn, 1) := by decide +kernel
theorem dX7_plan_0 : decode cX7_plan 0 = .ok (.iload_n 1, 1) := by decide +kernel
theorem dX7_plan_1 : decode cX7_plan 1 = .ok (.iconst (-1), 1) := by decide +kernel
theorem dX7_plan_2 : decode cX7_plan 2 = .ok (.if_icmp .ne 12, 3) := by decide +kernel
theorem dX7_plan_5 : decode cX7_plan 5 = .ok (.aload_n 0, 1) := by decide +kernel
theorem dX7_plan_6 : decode cX7_plan 6 = .ok (.getfield 11, 3) := by decide +kernel
theorem dX7_plan_9 : decode cX7_plan 9 = .ok (.iconst 2, 1) := by decide +kernel
theorem dX7_plan_10 : decode cX7_plan 10 = .ok (.iconst 0, 1) := by decide +kernel
theorem dX7_plan_11 : decode cX7_plan 11 = .ok (.iastore, 1) := by decide +kernel
theorem dX7_plan_12 : decode cX7_plan 12 = .ok (.iconst 0, 1) := by decide +kernel
theorem dX7_plan_13 : decode cX7_plan 13 = .ok (.ireturn, 1) := by decide +kernel
theorem dX7_plan_14 : decode cX7_plan 14 = .ok (.iload_n 1, 1) := by decide +kernel
theorem dX7_plan_15 : decode cX7_plan 15 = .ok (.i2l, 1) := by decide +kernel
theorem dX7_plan_16 : decode cX7_plan 16 = .ok (.lconst 0, 1) := by decide +kernel
theorem dX7_plan_17 : decode cX7_plan 17 = .ok (.ldc2_w 211, 3) := by decide +kernel
theorem dX7_plan_20 : decode cX7_plan 20 = .ok (.invokestatic 37, 3) := by decide +kernel
theorem dX7_plan_23 : decode cX7_plan 23 = .ok (.ifCond .eq 21, 3) := by decide +kernel
theorem dX7_plan_26 : decode cX7_plan 26 = .ok (.iload_n 1, 1) := by decide +kernel
theorem dX7_plan_27 : decode cX7_plan 27 = .ok (.iconst 1, 1) := by decide +kernel
theorem dX7_plan_28 : decode cX7_plan 28 = .ok (.if_icmp .eq 8, 3) := by decide +kernel
theorem dX7_plan_31 : decode cX7_plan 31 = .ok (.iload_n 1, 1) := by decide +kernel
theorem dX7_plan_32 : decode cX7_plan 32 = .ok (.iconst 3, 1) := by decide +kernel
theorem dX7_plan_33 : decode cX7_plan 33 = .ok (.if_icmp .ne 13, 3) := by decide +kernel
theorem dX7_plan_36 : decode cX7_plan 36 = .ok (.aload_n 0, 1) := by decide +kernel
theorem dX7_plan_37 : decode cX7_plan 37 = .ok (.iload_n 2, 1) := by decide +kernel
theorem dX7_plan_38 : decode cX7_plan 38 = .ok (.invokevirtual 64, 3) := by decide +kernel
theorem dX7_plan_41 : decode cX7_plan 41 = .ok (.ifCond .ne 5, 3) := by decide +kernel
theorem dX7_plan_44 : decode cX7_plan 44 = .ok (.iconst (-1), 1) := by decide +kernel
theorem dX7_plan_45 : decode cX7_plan 45 = .ok (.ireturn, 1) := by decide +kernel
theorem dX7_plan_46 : decode cX7_plan 46 = .ok (.iload_n 1, 1) := by decide +kernel
theorem dX7_plan_47 : decode cX7_plan 47 = .ok (.iconst 2, 1) := by decide +kernel
theorem dX7_plan_48 : decode cX7_plan 48 = .ok (.if_icmp .ne 18, 3) := by decide +kernel
theorem dX7_plan_51 : decode cX7_plan 51 = .ok (.iload_n 2, 1) := by decide +kernel
theorem dX7_plan_52 : decode cX7_plan 52 = .ok (.i2l, 1) := by decide +kernel
theorem dX7_plan_53 : decode cX7_plan 53 = .ok (.lconst 0, 1) := by decide +kernel
theorem dX7_plan_54 : decode cX7_plan 54 = .ok (.ldc2_w 60, 3) := by decide +kernel
theorem dX7_plan_57 : decode cX7_plan 57 = .ok (.invokestatic 37, 3) := by decide +kernel
theorem dX7_plan_60 : decode cX7_plan 60 = .ok (.ifCond .ne 6, 3) := by decide +kernel
theorem dX7_plan_63 : decode cX7_plan 63 = .ok (.bipush (-2), 2) := by decide +kernel
theorem dX7_plan_65 : decode cX7_plan 65 = .ok (.ireturn, 1) := by decide +kernel
theorem dX7_plan_66 : decode cX7_plan 66 = .ok (.aload_n 0, 1) := by decide +kernel
theorem dX7_plan_67 : decode cX7_plan 67 = .ok (.getfield 11, 3) := by decide +kernel
theorem dX7_plan_70 : decode cX7_plan 70 = .ok (.iconst 2, 1) := by decide +kernel
theorem dX7_plan_71 : decode cX7_plan 71 = .ok (.iaload, 1) := by decide +kernel
theorem dX7_plan_72 : decode cX7_plan 72 = .ok (.istore_n 3, 1) := by decide +kernel
theorem dX7_plan_73 : decode cX7_plan 73 = .ok (.iload_n 3, 1) := by decide +kernel
theorem dX7_plan_74 : decode cX7_plan 74 = .ok (.bipush 8, 2) := by decide +kernel
theorem dX7_plan_76 : decode cX7_plan 76 = .ok (.if_icmp .ne 6, 3) := by decide +kernel
theorem dX7_plan_79 : decode cX7_plan 79 = .ok (.bipush (-4), 2) := by decide +kernel
theorem dX7_plan_81 : decode cX7_plan 81 = .ok (.ireturn, 1) := by decide +kernel
theorem dX7_plan_82 : decode cX7_plan 82 = .ok (.aload_n 0, 1) := by decide +kernel
theorem dX7_plan_83 : decode cX7_plan 83 = .ok (.getfield 11, 3) := by decide +kernel
theorem dX7_plan_86 : decode cX7_plan 86 = .ok (.bipush 52, 2) := by decide +kernel
theorem dX7_plan_88 : decode cX7_plan 88 = .ok (.iconst 2, 1) := by decide +kernel
theorem dX7_plan_89 : decode cX7_plan 89 = .ok (.iload_n 3, 1) := by decide +kernel
theorem dX7_plan_90 : decode cX7_plan 90 = .ok (.imul, 1) := by decide +kernel
theorem dX7_plan_91 : decode cX7_plan 91 = .ok (.iadd, 1) := by decide +kernel
theorem dX7_plan_92 : decode cX7_plan 92 = .ok (.iload_n 1, 1) := by decide +kernel
theorem dX7_plan_93 : decode cX7_plan 93 = .ok (.iastore, 1) := by decide +kernel
theorem dX7_plan_94 : decode cX7_plan 94 = .ok (.aload_n 0, 1) := by decide +kernel
theorem dX7_plan_95 : decode cX7_plan 95 = .ok (.getfield 11, 3) := by decide +kernel
theorem dX7_plan_98 : decode cX7_plan 98 = .ok (.bipush 52, 2) := by decide +kernel
theorem dX7_plan_100 : decode cX7_plan 100 = .ok (.iconst 2, 1) := by decide +kernel
theorem dX7_plan_101 : decode cX7_plan 101 = .ok (.iload_n 3, 1) := by decide +kernel
theorem dX7_plan_102 : decode cX7_plan 102 = .ok (.imul, 1) := by decide +kernel
theorem dX7_plan_103 : decode cX7_plan 103 = .ok (.iadd, 1) := by decide +kernel
theorem dX7_plan_104 : decode cX7_plan 104 = .ok (.iconst 1, 1) := by decide +kernel
theorem dX7_plan_105 : decode cX7_plan 105 = .ok (.iadd, 1) := by decide +kernel
theorem dX7_plan_106 : decode cX7_plan 106 = .ok (.iload_n 2, 1) := by decide +kernel
theorem dX7_plan_107 : decode cX7_plan 107 = .ok (.iastore, 1) := by decide +kernel
theorem dX7_plan_108 : decode cX7_plan 108 = .ok (.aload_n 0, 1) := by decide +kernel
theorem dX7_plan_109 : decode cX7_plan 109 = .ok (.getfield 11, 3) := by decide +kernel
theorem dX7_plan_112 : decode cX7_plan 112 = .ok (.iconst 2, 1) := by decide +kernel
theorem dX7_plan_113 : decode cX7_plan 113 = .ok (.iload_n 3, 1) := by decide +kernel
theorem dX7_plan_114 : decode cX7_plan 114 = .ok (.iconst 1, 1) := by decide +kernel
theorem dX7_plan_115 : decode cX7_plan 115 = .ok (.iadd, 1) := by decide +kernel
theorem dX7_plan_116 : decode cX7_plan 116 = .ok (.iastore, 1) := by decide +kernel
theorem dX7_plan_117 : decode cX7_plan 117 = .ok (.iload_n 3, 1) := by decide +kernel
theorem dX7_plan_118 : decode cX7_plan 118 = .ok (.iconst 1, 1) := by decide +kernel
theorem dX7_plan_119 : decode cX7_plan 119 = .ok (.iadd, 1) := by decide +kernel
theorem dX7_plan_120 : decode cX7_plan 120 = .ok (.ireturn, 1) := by decide +kernel
theorem dX7_planGoes_0 : decode cX7_planGoes 0 = .ok (.iload_n 1, 1) := by decide +kernel
theorem dX7_planGoes_1 : decode cX7_planGoes 1 = .ok (.ifCond .ne 11, 3) := by decide +kernel
theorem dX7_planGoes_4 : decode cX7_planGoes 4 = .ok (.aload_n 0, 1) := by decide +kernel
theorem dX7_planGoes_5 : decode cX7_planGoes 5 = .ok (.invokevirtual 155, 3) := by decide +kernel
theorem dX7_planGoes_8 : decode cX7_planGoes 8 = .ok (.istore_n 3, 1) := by decide +kernel
theorem dX7_planGoes_9 : decode cX7_planGoes 9 = .ok (.goto 67, 3) := by decide +kernel
theorem dX7_planGoes_12 : decode cX7_planGoes 12 = .ok (.iload_n 1, 1) := by decide +kernel
theorem dX7_planGoes_13 : decode cX7_planGoes 13 = .ok (.iconst 1, 1) := by decide +kernel
theorem dX7_planGoes_14 : decode cX7_planGoes 14 = .ok (.if_icmp .ne 25, 3) := by decide +kernel
theorem dX7_planGoes_17 : decode cX7_planGoes 17 = .ok (.aload_n 0, 1) := by decide +kernel
theorem dX7_planGoes_18 : decode cX7_planGoes 18 = .ok (.iload_n 2, 1) := by decide +kernel
theorem dX7_planGoes_19 : decode cX7_planGoes 19 = .ok (.iconst (-1), 1) := by decide +kernel
theorem dX7_planGoes_20 : decode cX7_planGoes 20 = .ok (.invokevirtual 78, 3) := by decide +kernel
theorem dX7_planGoes_23 : decode cX7_planGoes 23 = .ok (.aload_n 0, 1) := by decide +kernel
theorem dX7_planGoes_24 : decode cX7_planGoes 24 = .ok (.getfield 11, 3) := by decide +kernel
theorem dX7_planGoes_27 : decode cX7_planGoes 27 = .ok (.iconst 4, 1) := by decide +kernel
theorem dX7_planGoes_28 : decode cX7_planGoes 28 = .ok (.iconst 4, 1) := by decide +kernel
theorem dX7_planGoes_29 : decode cX7_planGoes 29 = .ok (.iload_n 2, 1) := by decide +kernel
theorem dX7_planGoes_30 : decode cX7_planGoes 30 = .ok (.imul, 1) := by decide +kernel
theorem dX7_planGoes_31 : decode cX7_planGoes 31 = .ok (.iadd, 1) := by decide +kernel
theorem dX7_planGoes_32 : decode cX7_planGoes 32 = .ok (.iconst 3, 1) := by decide +kernel
theorem dX7_planGoes_33 : decode cX7_planGoes 33 = .ok (.iadd, 1) := by decide +kernel
theorem dX7_planGoes_34 : decode cX7_planGoes 34 = .ok (.iconst 0, 1) := by decide +kernel
theorem dX7_planGoes_35 : decode cX7_planGoes 35 = .ok (.iastore, 1) := by decide +kernel
theorem dX7_planGoes_36 : decode cX7_planGoes 36 = .ok (.goto 40, 3) := by decide +kernel
theorem dX7_planGoes_39 : decode cX7_planGoes 39 = .ok (.iload_n 1, 1) := by decide +kernel
theorem dX7_planGoes_40 : decode cX7_planGoes 40 = .ok (.iconst 2, 1) := by decide +kernel
theorem dX7_planGoes_41 : decode cX7_planGoes 41 = .ok (.if_icmp .ne 14, 3) := by decide +kernel
theorem dX7_planGoes_44 : decode cX7_planGoes 44 = .ok (.aload_n 0, 1) := by decide +kernel
theorem dX7_planGoes_45 : decode cX7_planGoes 45 = .ok (.getfield 11, 3) := by decide +kernel
theorem dX7_planGoes_48 : decode cX7_planGoes 48 = .ok (.bipush 36, 2) := by decide +kernel
theorem dX7_planGoes_50 : decode cX7_planGoes 50 = .ok (.iload_n 2, 1) := by decide +kernel
theorem dX7_planGoes_51 : decode cX7_planGoes 51 = .ok (.iastore, 1) := by decide +kernel
theorem dX7_planGoes_52 : decode cX7_planGoes 52 = .ok (.goto 24, 3) := by decide +kernel
theorem dX7_planGoes_55 : decode cX7_planGoes 55 = .ok (.aload_n 0, 1) := by decide +kernel
theorem dX7_planGoes_56 : decode cX7_planGoes 56 = .ok (.iload_n 2, 1) := by decide +kernel
theorem dX7_planGoes_57 : decode cX7_planGoes 57 = .ok (.invokevirtual 75, 3) := by decide +kernel
theorem dX7_planGoes_60 : decode cX7_planGoes 60 = .ok (.ifCond .lt 16, 3) := by decide +kernel
theorem dX7_planGoes_63 : decode cX7_planGoes 63 = .ok (.aload_n 0, 1) := by decide +kernel
theorem dX7_planGoes_64 : decode cX7_planGoes 64 = .ok (.getfield 11, 3) := by decide +kernel
theorem dX7_planGoes_67 : decode cX7_planGoes 67 = .ok (.iconst 4, 1) := by decide +kernel
theorem dX7_planGoes_68 : decode cX7_planGoes 68 = .ok (.iconst 4, 1) := by decide +kernel
theorem dX7_planGoes_69 : decode cX7_planGoes 69 = .ok (.iload_n 2, 1) := by decide +kernel
theorem dX7_planGoes_70 : decode cX7_planGoes 70 = .ok (.imul, 1) := by decide +kernel
theorem dX7_planGoes_71 : decode cX7_planGoes 71 = .ok (.iadd, 1) := by decide +kernel
theorem dX7_planGoes_72 : decode cX7_planGoes 72 = .ok (.iconst 3, 1) := by decide +kernel
theorem dX7_planGoes_73 : decode cX7_planGoes 73 = .ok (.iadd, 1) := by decide +kernel
theorem dX7_planGoes_74 : decode cX7_planGoes 74 = .ok (.iconst 1, 1) := by decide +kernel
theorem dX7_planGoes_75 : decode cX7_planGoes 75 = .ok (.iastore, 1) := by decide +kernel
theorem dX7_planGoes_76 : decode cX7_planGoes 76 = .ok (.return_, 1) := by decide +kernel
theorem dX7_ends_0 : decode cX7_ends 0 = .ok (.iload_n 1, 1) := by decide +kernel
theorem dX7_ends_1 : decode cX7_ends 1 = .ok (.i2l, 1) := by decide +kernel
theorem dX7_ends_2 : decode cX7_ends 2 = .ok (.lconst 0, 1) := by decide +kernel
theorem dX7_ends_3 : decode cX7_ends 3 = .ok (.lconst 1, 1) := by decide +kernel
theorem dX7_ends_4 : decode cX7_ends 4 = .ok (.invokestatic 37, 3) := by decide +kernel
theorem dX7_ends_7 : decode cX7_ends 7 = .ok (.ifCond .ne 5, 3) := by decide +kernel
theorem dX7_ends_10 : decode cX7_ends 10 = .ok (.iconst (-1), 1) := by decide +kernel
theorem dX7_ends_11 : decode cX7_ends 11 = .ok (.ireturn, 1) := by decide +kernel
theorem dX7_ends_12 : decode cX7_ends 12 = .ok (.aload_n 0, 1) := by decide +kernel
theorem dX7_ends_13 : decode cX7_ends 13 = .ok (.getfield 11, 3) := by decide +kernel
theorem dX7_ends_16 : decode cX7_ends 16 = .ok (.aload_n 0, 1) := by decide +kernel
theorem dX7_ends_17 : decode cX7_ends 17 = .ok (.getfield 15, 3) := by decide +kernel
theorem dX7_ends_20 : decode cX7_ends 20 = .ok (.invokestatic 177, 3) := by decide +kernel
theorem dX7_ends_23 : decode cX7_ends 23 = .ok (.iconst 0, 1) := by decide +kernel
theorem dX7_ends_24 : decode cX7_ends 24 = .ok (.istore_n 2, 1) := by decide +kernel
theorem dX7_ends_25 : decode cX7_ends 25 = .ok (.iload_n 2, 1) := by decide +kernel
theorem dX7_ends_26 : decode cX7_ends 26 = .ok (.aload_n 0, 1) := by decide +kernel
theorem dX7_ends_27 : decode cX7_ends 27 = .ok (.getfield 11, 3) := by decide +kernel
theorem dX7_ends_30 : decode cX7_ends 30 = .ok (.iconst 2, 1) := by decide +kernel
theorem dX7_ends_31 : decode cX7_ends 31 = .ok (.iaload, 1) := by decide +kernel
theorem dX7_ends_32 : decode cX7_ends 32 = .ok (.if_icmp .ge 37, 3) := by decide +kernel
theorem dX7_ends_35 : decode cX7_ends 35 = .ok (.aload_n 0, 1) := by decide +kernel
theorem dX7_ends_36 : decode cX7_ends 36 = .ok (.aload_n 0, 1) := by decide +kernel
theorem dX7_ends_37 : decode cX7_ends 37 = .ok (.getfield 11, 3) := by decide +kernel
theorem dX7_ends_40 : decode cX7_ends 40 = .ok (.bipush 52, 2) := by decide +kernel
theorem dX7_ends_42 : decode cX7_ends 42 = .ok (.iconst 2, 1) := by decide +kernel
theorem dX7_ends_43 : decode cX7_ends 43 = .ok (.iload_n 2, 1) := by decide +kernel
theorem dX7_ends_44 : decode cX7_ends 44 = .ok (.imul, 1) := by decide +kernel
theorem dX7_ends_45 : decode cX7_ends 45 = .ok (.iadd, 1) := by decide +kernel
theorem dX7_ends_46 : decode cX7_ends 46 = .ok (.iaload, 1) := by decide +kernel
theorem dX7_ends_47 : decode cX7_ends 47 = .ok (.aload_n 0, 1) := by decide +kernel
theorem dX7_ends_48 : decode cX7_ends 48 = .ok (.getfield 11, 3) := by decide +kernel
theorem dX7_ends_51 : decode cX7_ends 51 = .ok (.bipush 52, 2) := by decide +kernel
theorem dX7_ends_53 : decode cX7_ends 53 = .ok (.iconst 2, 1) := by decide +kernel
theorem dX7_ends_54 : decode cX7_ends 54 = .ok (.iload_n 2, 1) := by decide +kernel
theorem dX7_ends_55 : decode cX7_ends 55 = .ok (.imul, 1) := by decide +kernel
theorem dX7_ends_56 : decode cX7_ends 56 = .ok (.iadd, 1) := by decide +kernel
theorem dX7_ends_57 : decode cX7_ends 57 = .ok (.iconst 1, 1) := by decide +kernel
theorem dX7_ends_58 : decode cX7_ends 58 = .ok (.iadd, 1) := by decide +kernel
theorem dX7_ends_59 : decode cX7_ends 59 = .ok (.iaload, 1) := by decide +kernel
theorem dX7_ends_60 : decode cX7_ends 60 = .ok (.invokevirtual 213, 3) := by decide +kernel
theorem dX7_ends_63 : decode cX7_ends 63 = .ok (.iinc 2 1, 3) := by decide +kernel
theorem dX7_ends_66 : decode cX7_ends 66 = .ok (.goto (-41), 3) := by decide +kernel
theorem dX7_ends_69 : decode cX7_ends 69 = .ok (.iload_n 1, 1) := by decide +kernel
theorem dX7_ends_70 : decode cX7_ends 70 = .ok (.ifCond .ne 10, 3) := by decide +kernel
theorem dX7_ends_73 : decode cX7_ends 73 = .ok (.aload_n 0, 1) := by decide +kernel
theorem dX7_ends_74 : decode cX7_ends 74 = .ok (.invokevirtual 184, 3) := by decide +kernel
theorem dX7_ends_77 : decode cX7_ends 77 = .ok (.goto 7, 3) := by decide +kernel
theorem dX7_ends_80 : decode cX7_ends 80 = .ok (.aload_n 0, 1) := by decide +kernel
theorem dX7_ends_81 : decode cX7_ends 81 = .ok (.invokevirtual 159, 3) := by decide +kernel
theorem dX7_ends_84 : decode cX7_ends 84 = .ok (.istore_n 2, 1) := by decide +kernel
theorem dX7_ends_85 : decode cX7_ends 85 = .ok (.aload_n 0, 1) := by decide +kernel
theorem dX7_ends_86 : decode cX7_ends 86 = .ok (.getfield 15, 3) := by decide +kernel
theorem dX7_ends_89 : decode cX7_ends 89 = .ok (.aload_n 0, 1) := by decide +kernel
theorem dX7_ends_90 : decode cX7_ends 90 = .ok (.getfield 11, 3) := by decide +kernel
theorem dX7_ends_93 : decode cX7_ends 93 = .ok (.invokestatic 177, 3) := by decide +kernel
theorem dX7_ends_96 : decode cX7_ends 96 = .ok (.iload_n 2, 1) := by decide +kernel
theorem dX7_ends_97 : decode cX7_ends 97 = .ok (.ireturn, 1) := by decide +kernel
theorem dX7_book_0 : decode cX7_book 0 = .ok (.iload_n 1, 1) := by decide +kernel
theorem dX7_book_1 : decode cX7_book 1 = .ok (.iconst (-1), 1) := by decide +kernel
theorem dX7_book_2 : decode cX7_book 2 = .ok (.if_icmp .ne 12, 3) := by decide +kernel
theorem dX7_book_5 : decode cX7_book 5 = .ok (.aload_n 0, 1) := by decide +kernel
theorem dX7_book_6 : decode cX7_book 6 = .ok (.getfield 11, 3) := by decide +kernel
theorem dX7_book_9 : decode cX7_book 9 = .ok (.iconst 3, 1) := by decide +kernel
theorem dX7_book_10 : decode cX7_book 10 = .ok (.iconst 0, 1) := by decide +kernel
theorem dX7_book_11 : decode cX7_book 11 = .ok (.iastore, 1) := by decide +kernel
theorem dX7_book_12 : decode cX7_book 12 = .ok (.iconst 0, 1) := by decide +kernel
theorem dX7_book_13 : decode cX7_book 13 = .ok (.ireturn, 1) := by decide +kernel
theorem dX7_book_14 : decode cX7_book 14 = .ok (.aload_n 0, 1) := by decide +kernel
theorem dX7_book_15 : decode cX7_book 15 = .ok (.iload_n 1, 1) := by decide +kernel
theorem dX7_book_16 : decode cX7_book 16 = .ok (.invokevirtual 64, 3) := by decide +kernel
theorem dX7_book_19 : decode cX7_book 19 = .ok (.ifCond .ne 5, 3) := by decide +kernel
theorem dX7_book_22 : decode cX7_book 22 = .ok (.iconst (-1), 1) := by decide +kernel
theorem dX7_book_23 : decode cX7_book 23 = .ok (.ireturn, 1) := by decide +kernel
theorem dX7_book_24 : decode cX7_book 24 = .ok (.iload_n 2, 1) := by decide +kernel
theorem dX7_book_25 : decode cX7_book 25 = .ok (.i2l, 1) := by decide +kernel
theorem dX7_book_26 : decode cX7_book 26 = .ok (.ldc2_w 68, 3) := by decide +kernel
theorem dX7_book_29 : decode cX7_book 29 = .ok (.ldc2_w 70, 3) := by decide +kernel
theorem dX7_book_32 : decode cX7_book 32 = .ok (.invokestatic 37, 3) := by decide +kernel
theorem dX7_book_35 : decode cX7_book 35 = .ok (.ifCond .ne 6, 3) := by decide +kernel
theorem dX7_book_38 : decode cX7_book 38 = .ok (.bipush (-2), 2) := by decide +kernel
theorem dX7_book_40 : decode cX7_book 40 = .ok (.ireturn, 1) := by decide +kernel
theorem dX7_book_41 : decode cX7_book 41 = .ok (.aload_n 0, 1) := by decide +kernel
theorem dX7_book_42 : decode cX7_book 42 = .ok (.getfield 11, 3) := by decide +kernel
theorem dX7_book_45 : decode cX7_book 45 = .ok (.iconst 3, 1) := by decide +kernel
theorem dX7_book_46 : decode cX7_book 46 = .ok (.iaload, 1) := by decide +kernel
theorem dX7_book_47 : decode cX7_book 47 = .ok (.istore_n 3, 1) := by decide +kernel
theorem dX7_book_48 : decode cX7_book 48 = .ok (.iload_n 3, 1) := by decide +kernel
theorem dX7_book_49 : decode cX7_book 49 = .ok (.bipush 8, 2) := by decide +kernel
theorem dX7_book_51 : decode cX7_book 51 = .ok (.if_icmp .ne 6, 3) := by decide +kernel
theorem dX7_book_54 : decode cX7_book 54 = .ok (.bipush (-4), 2) := by decide +kernel
theorem dX7_book_56 : decode cX7_book 56 = .ok (.ireturn, 1) := by decide +kernel
theorem dX7_book_57 : decode cX7_book 57 = .ok (.aload_n 0, 1) := by decide +kernel
theorem dX7_book_58 : decode cX7_book 58 = .ok (.getfield 11, 3) := by decide +kernel
theorem dX7_book_61 : decode cX7_book 61 = .ok (.bipush 68, 2) := by decide +kernel
theorem dX7_book_63 : decode cX7_book 63 = .ok (.iconst 2, 1) := by decide +kernel
theorem dX7_book_64 : decode cX7_book 64 = .ok (.iload_n 3, 1) := by decide +kernel
theorem dX7_book_65 : decode cX7_book 65 = .ok (.imul, 1) := by decide +kernel
theorem dX7_book_66 : decode cX7_book 66 = .ok (.iadd, 1) := by decide +kernel
theorem dX7_book_67 : decode cX7_book 67 = .ok (.iload_n 1, 1) := by decide +kernel
theorem dX7_book_68 : decode cX7_book 68 = .ok (.iastore, 1) := by decide +kernel
theorem dX7_book_69 : decode cX7_book 69 = .ok (.aload_n 0, 1) := by decide +kernel
theorem dX7_book_70 : decode cX7_book 70 = .ok (.getfield 11, 3) := by decide +kernel
theorem dX7_book_73 : decode cX7_book 73 = .ok (.bipush 68, 2) := by decide +kernel
theorem dX7_book_75 : decode cX7_book 75 = .ok (.iconst 2, 1) := by decide +kernel
theorem dX7_book_76 : decode cX7_book 76 = .ok (.iload_n 3, 1) := by decide +kernel
theorem dX7_book_77 : decode cX7_book 77 = .ok (.imul, 1) := by decide +kernel
theorem dX7_book_78 : decode cX7_book 78 = .ok (.iadd, 1) := by decide +kernel
theorem dX7_book_79 : decode cX7_book 79 = .ok (.iconst 1, 1) := by decide +kernel
theorem dX7_book_80 : decode cX7_book 80 = .ok (.iadd, 1) := by decide +kernel
theorem dX7_book_81 : decode cX7_book 81 = .ok (.iload_n 2, 1) := by decide +kernel
theorem dX7_book_82 : decode cX7_book 82 = .ok (.iastore, 1) := by decide +kernel
theorem dX7_book_83 : decode cX7_book 83 = .ok (.aload_n 0, 1) := by decide +kernel
theorem dX7_book_84 : decode cX7_book 84 = .ok (.getfield 11, 3) := by decide +kernel
theorem dX7_book_87 : decode cX7_book 87 = .ok (.iconst 3, 1) := by decide +kernel
theorem dX7_book_88 : decode cX7_book 88 = .ok (.iload_n 3, 1) := by decide +kernel
theorem dX7_book_89 : decode cX7_book 89 = .ok (.iconst 1, 1) := by decide +kernel
theorem dX7_book_90 : decode cX7_book 90 = .ok (.iadd, 1) := by decide +kernel
theorem dX7_book_91 : decode cX7_book 91 = .ok (.iastore, 1) := by decide +kernel
theorem dX7_book_92 : decode cX7_book 92 = .ok (.iload_n 3, 1) := by decide +kernel
theorem dX7_book_93 : decode cX7_book 93 = .ok (.iconst 1, 1) := by decide +kernel
theorem dX7_book_94 : decode cX7_book 94 = .ok (.iadd, 1) := by decide +kernel
theorem dX7_book_95 : decode cX7_book 95 = .ok (.ireturn, 1) := by decide +kernel
theorem dX7_looked_0 : decode cX7_looked 0 = .ok (.iconst 0, 1) := by decide +kernel
theorem dX7_looked_1 : decode cX7_looked 1 = .ok (.istore_n 1, 1) := by decide +kernel
theorem dX7_looked_2 : decode cX7_looked 2 = .ok (.iload_n 1, 1) := by decide +kernel
theorem dX7_looked_3 : decode cX7_looked 3 = .ok (.aload_n 0, 1) := by decide +kernel
theorem dX7_looked_4 : decode cX7_looked 4 = .ok (.getfield 11, 3) := by decide +kernel
theorem dX7_looked_7 : decode cX7_looked 7 = .ok (.iconst 3, 1) := by decide +kernel
theorem dX7_looked_8 : decode cX7_looked 8 = .ok (.iaload, 1) := by decide +kernel
theorem dX7_looked_9 : decode cX7_looked 9 = .ok (.if_icmp .ge 42, 3) := by decide +kernel
theorem dX7_looked_12 : decode cX7_looked 12 = .ok (.aload_n 0, 1) := by decide +kernel
theorem dX7_looked_13 : decode cX7_looked 13 = .ok (.aload_n 0, 1) := by decide +kernel
theorem dX7_looked_14 : decode cX7_looked 14 = .ok (.getfield 11, 3) := by decide +kernel
theorem dX7_looked_17 : decode cX7_looked 17 = .ok (.bipush 68, 2) := by decide +kernel
theorem dX7_looked_19 : decode cX7_looked 19 = .ok (.iconst 2, 1) := by decide +kernel
theorem dX7_looked_20 : decode cX7_looked 20 = .ok (.iload_n 1, 1) := by decide +kernel
theorem dX7_looked_21 : decode cX7_looked 21 = .ok (.imul, 1) := by decide +kernel
theorem dX7_looked_22 : decode cX7_looked 22 = .ok (.iadd, 1) := by decide +kernel
theorem dX7_looked_23 : decode cX7_looked 23 = .ok (.iaload, 1) := by decide +kernel
theorem dX7_looked_24 : decode cX7_looked 24 = .ok (.invokevirtual 75, 3) := by decide +kernel
theorem dX7_looked_27 : decode cX7_looked 27 = .ok (.aload_n 0, 1) := by decide +kernel
theorem dX7_looked_28 : decode cX7_looked 28 = .ok (.getfield 11, 3) := by decide +kernel
theorem dX7_looked_31 : decode cX7_looked 31 = .ok (.bipush 68, 2) := by decide +kernel
theorem dX7_looked_33 : decode cX7_looked 33 = .ok (.iconst 2, 1) := by decide +kernel
theorem dX7_looked_34 : decode cX7_looked 34 = .ok (.iload_n 1, 1) := by decide +kernel
theorem dX7_looked_35 : decode cX7_looked 35 = .ok (.imul, 1) := by decide +kernel
theorem dX7_looked_36 : decode cX7_looked 36 = .ok (.iadd, 1) := by decide +kernel
theorem dX7_looked_37 : decode cX7_looked 37 = .ok (.iconst 1, 1) := by decide +kernel
theorem dX7_looked_38 : decode cX7_looked 38 = .ok (.iadd, 1) := by decide +kernel
theorem dX7_looked_39 : decode cX7_looked 39 = .ok (.iaload, 1) := by decide +kernel
theorem dX7_looked_40 : decode cX7_looked 40 = .ok (.if_icmp .eq 5, 3) := by decide +kernel
theorem dX7_looked_43 : decode cX7_looked 43 = .ok (.iload_n 1, 1) := by decide +kernel
theorem dX7_looked_44 : decode cX7_looked 44 = .ok (.ireturn, 1) := by decide +kernel
theorem dX7_looked_45 : decode cX7_looked 45 = .ok (.iinc 1 1, 3) := by decide +kernel
theorem dX7_looked_48 : decode cX7_looked 48 = .ok (.goto (-46), 3) := by decide +kernel
theorem dX7_looked_51 : decode cX7_looked 51 = .ok (.bipush (-5), 2) := by decide +kernel
theorem dX7_looked_53 : decode cX7_looked 53 = .ok (.ireturn, 1) := by decide +kernel
theorem dX7_image_0 : decode cX7_image 0 = .ok (.aload_n 0, 1) := by decide +kernel
theorem dX7_image_1 : decode cX7_image 1 = .ok (.getfield 11, 3) := by decide +kernel
theorem dX7_image_4 : decode cX7_image 4 = .ok (.aload_n 0, 1) := by decide +kernel
theorem dX7_image_5 : decode cX7_image 5 = .ok (.getfield 18, 3) := by decide +kernel
theorem dX7_image_8 : decode cX7_image 8 = .ok (.invokestatic 177, 3) := by decide +kernel
theorem dX7_image_11 : decode cX7_image 11 = .ok (.aload_n 0, 1) := by decide +kernel
theorem dX7_image_12 : decode cX7_image 12 = .ok (.iconst 1, 1) := by decide +kernel
theorem dX7_image_13 : decode cX7_image 13 = .ok (.putfield 216, 3) := by decide +kernel
theorem dX7_image_16 : decode cX7_image 16 = .ok (.aload_n 0, 1) := by decide +kernel
theorem dX7_image_17 : decode cX7_image 17 = .ok (.getfield 11, 3) := by decide +kernel
theorem dX7_image_20 : decode cX7_image 20 = .ok (.iconst 0, 1) := by decide +kernel
theorem dX7_image_21 : decode cX7_image 21 = .ok (.iaload, 1) := by decide +kernel
theorem dX7_image_22 : decode cX7_image 22 = .ok (.ireturn, 1) := by decide +kernel
theorem dX7_undo_0 : decode cX7_undo 0 = .ok (.aload_n 0, 1) := by decide +kernel
theorem dX7_undo_1 : decode cX7_undo 1 = .ok (.getfield 216, 3) := by decide +kernel
theorem dX7_undo_4 : decode cX7_undo 4 = .ok (.ifCond .ne 6, 3) := by decide +kernel
theorem dX7_undo_7 : decode cX7_undo 7 = .ok (.bipush (-3), 2) := by decide +kernel
theorem dX7_undo_9 : decode cX7_undo 9 = .ok (.ireturn, 1) := by decide +kernel
theorem dX7_undo_10 : decode cX7_undo 10 = .ok (.aload_n 0, 1) := by decide +kernel
theorem dX7_undo_11 : decode cX7_undo 11 = .ok (.getfield 18, 3) := by decide +kernel
theorem dX7_undo_14 : decode cX7_undo 14 = .ok (.aload_n 0, 1) := by decide +kernel
theorem dX7_undo_15 : decode cX7_undo 15 = .ok (.getfield 11, 3) := by decide +kernel
theorem dX7_undo_18 : decode cX7_undo 18 = .ok (.invokestatic 177, 3) := by decide +kernel
theorem dX7_undo_21 : decode cX7_undo 21 = .ok (.aload_n 0, 1) := by decide +kernel
theorem dX7_undo_22 : decode cX7_undo 22 = .ok (.getfield 11, 3) := by decide +kernel
theorem dX7_undo_25 : decode cX7_undo 25 = .ok (.iconst 0, 1) := by decide +kernel
theorem dX7_undo_26 : decode cX7_undo 26 = .ok (.iaload, 1) := by decide +kernel
theorem dX7_undo_27 : decode cX7_undo 27 = .ok (.ireturn, 1) := by decide +kernel
theorem dX7_rules_0 : decode cX7_rules 0 = .ok (.iconst 0, 1) := by decide +kernel
theorem dX7_rules_1 : decode cX7_rules 1 = .ok (.istore_n 1, 1) := by decide +kernel
theorem dX7_rules_2 : decode cX7_rules 2 = .ok (.iconst 0, 1) := by decide +kernel
theorem dX7_rules_3 : decode cX7_rules 3 = .ok (.istore_n 2, 1) := by decide +kernel
theorem dX7_rules_4 : decode cX7_rules 4 = .ok (.iload_n 2, 1) := by decide +kernel
theorem dX7_rules_5 : decode cX7_rules 5 = .ok (.iconst 3, 1) := by decide +kernel
theorem dX7_rules_6 : decode cX7_rules 6 = .ok (.if_icmp .ge 31, 3) := by decide +kernel
theorem dX7_rules_9 : decode cX7_rules 9 = .ok (.iload_n 1, 1) := by decide +kernel
theorem dX7_rules_10 : decode cX7_rules 10 = .ok (.aload_n 0, 1) := by decide +kernel
theorem dX7_rules_11 : decode cX7_rules 11 = .ok (.getfield 11, 3) := by decide +kernel
theorem dX7_rules_14 : decode cX7_rules 14 = .ok (.bipush 36, 2) := by decide +kernel
theorem dX7_rules_16 : decode cX7_rules 16 = .ok (.iconst 2, 1) := by decide +kernel
theorem dX7_rules_17 : decode cX7_rules 17 = .ok (.iload_n 2, 1) := by decide +kernel
theorem dX7_rules_18 : decode cX7_rules 18 = .ok (.imul, 1) := by decide +kernel
theorem dX7_rules_19 : decode cX7_rules 19 = .ok (.iadd, 1) := by decide +kernel
theorem dX7_rules_20 : decode cX7_rules 20 = .ok (.iaload, 1) := by decide +kernel
theorem dX7_rules_21 : decode cX7_rules 21 = .ok (.ifCond .le 7, 3) := by decide +kernel
theorem dX7_rules_24 : decode cX7_rules 24 = .ok (.iconst 1, 1) := by decide +kernel
theorem dX7_rules_25 : decode cX7_rules 25 = .ok (.goto 4, 3) := by decide +kernel
theorem dX7_rules_28 : decode cX7_rules 28 = .ok (.iconst 0, 1) := by decide +kernel
theorem dX7_rules_29 : decode cX7_rules 29 = .ok (.iadd, 1) := by decide +kernel
theorem dX7_rules_30 : decode cX7_rules 30 = .ok (.istore_n 1, 1) := by decide +kernel
theorem dX7_rules_31 : decode cX7_rules 31 = .ok (.iinc 2 1, 3) := by decide +kernel
theorem dX7_rules_34 : decode cX7_rules 34 = .ok (.goto (-30), 3) := by decide +kernel
theorem dX7_rules_37 : decode cX7_rules 37 = .ok (.iload_n 1, 1) := by decide +kernel
theorem dX7_rules_38 : decode cX7_rules 38 = .ok (.ireturn, 1) := by decide +kernel
theorem dX7_count_0 : decode cX7_count 0 = .ok (.iload_n 1, 1) := by decide +kernel
theorem dX7_count_1 : decode cX7_count 1 = .ok (.tableswitch 77 0 5 #[39, 46, 51, 58, 65, 72], 39) := by decide +kernel
theorem dX7_count_40 : decode cX7_count 40 = .ok (.aload_n 0, 1) := by decide +kernel
theorem dX7_count_41 : decode cX7_count 41 = .ok (.getfield 11, 3) := by decide +kernel
theorem dX7_count_44 : decode cX7_count 44 = .ok (.iconst 0, 1) := by decide +kernel
theorem dX7_count_45 : decode cX7_count 45 = .ok (.iaload, 1) := by decide +kernel
theorem dX7_count_46 : decode cX7_count 46 = .ok (.ireturn, 1) := by decide +kernel
theorem dX7_count_47 : decode cX7_count 47 = .ok (.aload_n 0, 1) := by decide +kernel
theorem dX7_count_48 : decode cX7_count 48 = .ok (.invokevirtual 220, 3) := by decide +kernel
theorem dX7_count_51 : decode cX7_count 51 = .ok (.ireturn, 1) := by decide +kernel
theorem dX7_count_52 : decode cX7_count 52 = .ok (.aload_n 0, 1) := by decide +kernel
theorem dX7_count_53 : decode cX7_count 53 = .ok (.getfield 11, 3) := by decide +kernel
theorem dX7_count_56 : decode cX7_count 56 = .ok (.iconst 1, 1) := by decide +kernel
theorem dX7_count_57 : decode cX7_count 57 = .ok (.iaload, 1) := by decide +kernel
theorem dX7_count_58 : decode cX7_count 58 = .ok (.ireturn, 1) := by decide +kernel
theorem dX7_count_59 : decode cX7_count 59 = .ok (.aload_n 0, 1) := by decide +kernel
theorem dX7_count_60 : decode cX7_count 60 = .ok (.getfield 11, 3) := by decide +kernel
theorem dX7_count_63 : decode cX7_count 63 = .ok (.iconst 2, 1) := by decide +kernel
theorem dX7_count_64 : decode cX7_count 64 = .ok (.iaload, 1) := by decide +kernel
theorem dX7_count_65 : decode cX7_count 65 = .ok (.ireturn, 1) := by decide +kernel
theorem dX7_count_66 : decode cX7_count 66 = .ok (.aload_n 0, 1) := by decide +kernel
theorem dX7_count_67 : decode cX7_count 67 = .ok (.getfield 11, 3) := by decide +kernel
theorem dX7_count_70 : decode cX7_count 70 = .ok (.iconst 3, 1) := by decide +kernel
theorem dX7_count_71 : decode cX7_count 71 = .ok (.iaload, 1) := by decide +kernel
theorem dX7_count_72 : decode cX7_count 72 = .ok (.ireturn, 1) := by decide +kernel
theorem dX7_count_73 : decode cX7_count 73 = .ok (.aload_n 0, 1) := by decide +kernel
theorem dX7_count_74 : decode cX7_count 74 = .ok (.getfield 90, 3) := by decide +kernel
theorem dX7_count_77 : decode cX7_count 77 = .ok (.ireturn, 1) := by decide +kernel
theorem dX7_count_78 : decode cX7_count 78 = .ok (.bipush (-2), 2) := by decide +kernel
theorem dX7_count_80 : decode cX7_count 80 = .ok (.ireturn, 1) := by decide +kernel
theorem dX7_judge_0 : decode cX7_judge 0 = .ok (.iload_n 1, 1) := by decide +kernel
theorem dX7_judge_1 : decode cX7_judge 1 = .ok (.i2l, 1) := by decide +kernel
theorem dX7_judge_2 : decode cX7_judge 2 = .ok (.lconst 0, 1) := by decide +kernel
theorem dX7_judge_3 : decode cX7_judge 3 = .ok (.ldc2_w 223, 3) := by decide +kernel
theorem dX7_judge_6 : decode cX7_judge 6 = .ok (.invokestatic 37, 3) := by decide +kernel
theorem dX7_judge_9 : decode cX7_judge 9 = .ok (.ifCond .ne 5, 3) := by decide +kernel
theorem dX7_judge_12 : decode cX7_judge 12 = .ok (.iconst (-1), 1) := by decide +kernel
theorem dX7_judge_13 : decode cX7_judge 13 = .ok (.ireturn, 1) := by decide +kernel
theorem dX7_judge_14 : decode cX7_judge 14 = .ok (.aload_n 0, 1) := by decide +kernel
theorem dX7_judge_15 : decode cX7_judge 15 = .ok (.getfield 27, 3) := by decide +kernel
theorem dX7_judge_18 : decode cX7_judge 18 = .ok (.iload_n 1, 1) := by decide +kernel
theorem dX7_judge_19 : decode cX7_judge 19 = .ok (.iaload, 1) := by decide +kernel
theorem dX7_judge_20 : decode cX7_judge 20 = .ok (.ifCond .le 6, 3) := by decide +kernel
theorem dX7_judge_23 : decode cX7_judge 23 = .ok (.bipush (-12), 2) := by decide +kernel
theorem dX7_judge_25 : decode cX7_judge 25 = .ok (.ireturn, 1) := by decide +kernel
theorem dX7_judge_26 : decode cX7_judge 26 = .ok (.iconst 0, 1) := by decide +kernel
theorem dX7_judge_27 : decode cX7_judge 27 = .ok (.istore_n 3, 1) := by decide +kernel
theorem dX7_judge_28 : decode cX7_judge 28 = .ok (.iload_n 3, 1) := by decide +kernel
theorem dX7_judge_29 : decode cX7_judge 29 = .ok (.aload_n 0, 1) := by decide +kernel
theorem dX7_judge_30 : decode cX7_judge 30 = .ok (.getfield 11, 3) := by decide +kernel
theorem dX7_judge_33 : decode cX7_judge 33 = .ok (.iconst 0, 1) := by decide +kernel
theorem dX7_judge_34 : decode cX7_judge 34 = .ok (.iaload, 1) := by decide +kernel
theorem dX7_judge_35 : decode cX7_judge 35 = .ok (.if_icmp .ge 65, 3) := by decide +kernel
theorem dX7_judge_38 : decode cX7_judge 38 = .ok (.aload_n 0, 1) := by decide +kernel
theorem dX7_judge_39 : decode cX7_judge 39 = .ok (.getfield 27, 3) := by decide +kernel
theorem dX7_judge_42 : decode cX7_judge 42 = .ok (.iload_n 1, 1) := by decide +kernel
theorem dX7_judge_43 : decode cX7_judge 43 = .ok (.iaload, 1) := by decide +kernel
theorem dX7_judge_44 : decode cX7_judge 44 = .ok (.iconst (-1), 1) := by decide +kernel
theorem dX7_judge_45 : decode cX7_judge 45 = .ok (.if_icmp .eq 19, 3) := by decide +kernel
theorem dX7_judge_48 : decode cX7_judge 48 = .ok (.iload_n 2, 1) := by decide +kernel
theorem dX7_judge_49 : decode cX7_judge 49 = .ok (.ifCond .lt 15, 3) := by decide +kernel
theorem dX7_judge_52 : decode cX7_judge 52 = .ok (.iload_n 3, 1) := by decide +kernel
theorem dX7_judge_53 : decode cX7_judge 53 = .ok (.aload_n 0, 1) := by decide +kernel
theorem dX7_judge_54 : decode cX7_judge 54 = .ok (.getfield 30, 3) := by decide +kernel
theorem dX7_judge_57 : decode cX7_judge 57 = .ok (.iload_n 1, 1) := by decide +kernel
theorem dX7_judge_58 : decode cX7_judge 58 = .ok (.iaload, 1) := by decide +kernel
theorem dX7_judge_59 : decode cX7_judge 59 = .ok (.iload_n 2, 1) := by decide +kernel
theorem dX7_judge_60 : decode cX7_judge 60 = .ok (.isub, 1) := by decide +kernel
theorem dX7_judge_61 : decode cX7_judge 61 = .ok (.if_icmp .lt 8, 3) := by decide +kernel
theorem dX7_judge_64 : decode cX7_judge 64 = .ok (.bipush 100, 2) := by decide +kernel
theorem dX7_judge_66 : decode cX7_judge 66 = .ok (.iload_n 3, 1) := by decide +kernel
theorem dX7_judge_67 : decode cX7_judge 67 = .ok (.iadd, 1) := by decide +kernel
theorem dX7_judge_68 : decode cX7_judge 68 = .ok (.ireturn, 1) := by decide +kernel
theorem dX7_judge_69 : decode cX7_judge 69 = .ok (.aload_n 0, 1) := by decide +kernel
theorem dX7_judge_70 : decode cX7_judge 70 = .ok (.getfield 33, 3) := by decide +kernel
theorem dX7_judge_73 : decode cX7_judge 73 = .ok (.bipush 60, 2) := by decide +kernel
theorem dX7_judge_75 : decode cX7_judge 75 = .ok (.iload_n 1, 1) := by decide +kernel
theorem dX7_judge_76 : decode cX7_judge 76 = .ok (.imul, 1) := by decide +kernel
theorem dX7_judge_77 : decode cX7_judge 77 = .ok (.iload_n 2, 1) := by decide +kernel
theorem dX7_judge_78 : decode cX7_judge 78 = .ok (.iadd, 1) := by decide +kernel
theorem dX7_judge_79 : decode cX7_judge 79 = .ok (.iload_n 3, 1) := by decide +kernel
theorem dX7_judge_80 : decode cX7_judge 80 = .ok (.iadd, 1) := by decide +kernel
theorem dX7_judge_81 : decode cX7_judge 81 = .ok (.laload, 1) := by decide +kernel
theorem dX7_judge_82 : decode cX7_judge 82 = .ok (.aload_n 0, 1) := by decide +kernel
theorem dX7_judge_83 : decode cX7_judge 83 = .ok (.iload_n 3, 1) := by decide +kernel
theorem dX7_judge_84 : decode cX7_judge 84 = .ok (.invokevirtual 75, 3) := by decide +kernel
theorem dX7_judge_87 : decode cX7_judge 87 = .ok (.i2l, 1) := by decide +kernel
theorem dX7_judge_88 : decode cX7_judge 88 = .ok (.lcmp, 1) := by decide +kernel
theorem dX7_judge_89 : decode cX7_judge 89 = .ok (.ifCond .eq 5, 3) := by decide +kernel
theorem dX7_judge_92 : decode cX7_judge 92 = .ok (.iload_n 3, 1) := by decide +kernel
theorem dX7_judge_93 : decode cX7_judge 93 = .ok (.ireturn, 1) := by decide +kernel
theorem dX7_judge_94 : decode cX7_judge 94 = .ok (.iinc 3 1, 3) := by decide +kernel
theorem dX7_judge_97 : decode cX7_judge 97 = .ok (.goto (-69), 3) := by decide +kernel
theorem dX7_judge_100 : decode cX7_judge 100 = .ok (.bipush (-5), 2) := by decide +kernel
theorem dX7_judge_102 : decode cX7_judge 102 = .ok (.ireturn, 1) := by decide +kernel
theorem dX7_tape_0 : decode cX7_tape 0 = .ok (.iload_n 1, 1) := by decide +kernel
theorem dX7_tape_1 : decode cX7_tape 1 = .ok (.i2l, 1) := by decide +kernel
theorem dX7_tape_2 : decode cX7_tape 2 = .ok (.lconst 0, 1) := by decide +kernel
theorem dX7_tape_3 : decode cX7_tape 3 = .ok (.ldc2_w 223, 3) := by decide +kernel
theorem dX7_tape_6 : decode cX7_tape 6 = .ok (.invokestatic 37, 3) := by decide +kernel
theorem dX7_tape_9 : decode cX7_tape 9 = .ok (.ifCond .ne 5, 3) := by decide +kernel
theorem dX7_tape_12 : decode cX7_tape 12 = .ok (.iconst (-1), 1) := by decide +kernel
theorem dX7_tape_13 : decode cX7_tape 13 = .ok (.ireturn, 1) := by decide +kernel
theorem dX7_tape_14 : decode cX7_tape 14 = .ok (.iload_n 2, 1) := by decide +kernel
theorem dX7_tape_15 : decode cX7_tape 15 = .ok (.i2l, 1) := by decide +kernel
theorem dX7_tape_16 : decode cX7_tape 16 = .ok (.ldc2_w 68, 3) := by decide +kernel
theorem dX7_tape_19 : decode cX7_tape 19 = .ok (.ldc2_w 62, 3) := by decide +kernel
theorem dX7_tape_22 : decode cX7_tape 22 = .ok (.invokestatic 37, 3) := by decide +kernel
theorem dX7_tape_25 : decode cX7_tape 25 = .ok (.ifCond .eq 14, 3) := by decide +kernel
theorem dX7_tape_28 : decode cX7_tape 28 = .ok (.iload_n 2, 1) := by decide +kernel
theorem dX7_tape_29 : decode cX7_tape 29 = .ok (.iconst (-1), 1) := by decide +kernel
theorem dX7_tape_30 : decode cX7_tape 30 = .ok (.if_icmp .eq 12, 3) := by decide +kernel
theorem dX7_tape_33 : decode cX7_tape 33 = .ok (.iload_n 3, 1) := by decide +kernel
theorem dX7_tape_34 : decode cX7_tape 34 = .ok (.bipush 60, 2) := by decide +kernel
theorem dX7_tape_36 : decode cX7_tape 36 = .ok (.if_icmp .le 6, 3) := by decide +kernel
theorem dX7_tape_39 : decode cX7_tape 39 = .ok (.bipush (-2), 2) := by decide +kernel
theorem dX7_tape_41 : decode cX7_tape 41 = .ok (.ireturn, 1) := by decide +kernel
theorem dX7_tape_42 : decode cX7_tape 42 = .ok (.iload_n 2, 1) := by decide +kernel
theorem dX7_tape_43 : decode cX7_tape 43 = .ok (.iconst (-1), 1) := by decide +kernel
theorem dX7_tape_44 : decode cX7_tape 44 = .ok (.if_icmp .eq 10, 3) := by decide +kernel
theorem dX7_tape_47 : decode cX7_tape 47 = .ok (.iload_n 3, 1) := by decide +kernel
theorem dX7_tape_48 : decode cX7_tape 48 = .ok (.ifCond .ge 6, 3) := by decide +kernel
theorem dX7_tape_51 : decode cX7_tape 51 = .ok (.bipush (-14), 2) := by decide +kernel
theorem dX7_tape_53 : decode cX7_tape 53 = .ok (.ireturn, 1) := by decide +kernel
theorem dX7_tape_54 : decode cX7_tape 54 = .ok (.aload_n 0, 1) := by decide +kernel
theorem dX7_tape_55 : decode cX7_tape 55 = .ok (.getfield 27, 3) := by decide +kernel
theorem dX7_tape_58 : decode cX7_tape 58 = .ok (.iload_n 1, 1) := by decide +kernel
theorem dX7_tape_59 : decode cX7_tape 59 = .ok (.iload_n 2, 1) := by decide +kernel
theorem dX7_tape_60 : decode cX7_tape 60 = .ok (.iastore, 1) := by decide +kernel
theorem dX7_tape_61 : decode cX7_tape 61 = .ok (.aload_n 0, 1) := by decide +kernel
theorem dX7_tape_62 : decode cX7_tape 62 = .ok (.getfield 30, 3) := by decide +kernel
theorem dX7_tape_65 : decode cX7_tape 65 = .ok (.iload_n 1, 1) := by decide +kernel
theorem dX7_tape_66 : decode cX7_tape 66 = .ok (.iload_n 2, 1) := by decide +kernel
theorem dX7_tape_67 : decode cX7_tape 67 = .ok (.iconst (-1), 1) := by decide +kernel
theorem dX7_tape_68 : decode cX7_tape 68 = .ok (.if_icmp .ne 7, 3) := by decide +kernel
theorem dX7_tape_71 : decode cX7_tape 71 = .ok (.iconst 0, 1) := by decide +kernel
theorem dX7_tape_72 : decode cX7_tape 72 = .ok (.goto 4, 3) := by decide +kernel
theorem dX7_tape_75 : decode cX7_tape 75 = .ok (.iload_n 3, 1) := by decide +kernel
theorem dX7_tape_76 : decode cX7_tape 76 = .ok (.iastore, 1) := by decide +kernel
theorem dX7_tape_77 : decode cX7_tape 77 = .ok (.iconst 0, 1) := by decide +kernel
theorem dX7_tape_78 : decode cX7_tape 78 = .ok (.istore 4, 2) := by decide +kernel
theorem dX7_tape_80 : decode cX7_tape 80 = .ok (.iload 4, 2) := by decide +kernel
theorem dX7_tape_82 : decode cX7_tape 82 = .ok (.bipush 60, 2) := by decide +kernel
theorem dX7_tape_84 : decode cX7_tape 84 = .ok (.if_icmp .ge 22, 3) := by decide +kernel
theorem dX7_tape_87 : decode cX7_tape 87 = .ok (.aload_n 0, 1) := by decide +kernel
theorem dX7_tape_88 : decode cX7_tape 88 = .ok (.getfield 33, 3) := by decide +kernel
theorem dX7_tape_91 : decode cX7_tape 91 = .ok (.bipush 60, 2) := by decide +kernel
theorem dX7_tape_93 : decode cX7_tape 93 = .ok (.iload_n 1, 1) := by decide +kernel
theorem dX7_tape_94 : decode cX7_tape 94 = .ok (.imul, 1) := by decide +kernel
theorem dX7_tape_95 : decode cX7_tape 95 = .ok (.iload 4, 2) := by decide +kernel
theorem dX7_tape_97 : decode cX7_tape 97 = .ok (.iadd, 1) := by decide +kernel
theorem dX7_tape_98 : decode cX7_tape 98 = .ok (.lconst 0, 1) := by decide +kernel
theorem dX7_tape_99 : decode cX7_tape 99 = .ok (.lastore, 1) := by decide +kernel
theorem dX7_tape_100 : decode cX7_tape 100 = .ok (.iinc 4 1, 3) := by decide +kernel
theorem dX7_tape_103 : decode cX7_tape 103 = .ok (.goto (-23), 3) := by decide +kernel
theorem dX7_tape_106 : decode cX7_tape 106 = .ok (.iconst 1, 1) := by decide +kernel
theorem dX7_tape_107 : decode cX7_tape 107 = .ok (.ireturn, 1) := by decide +kernel
theorem dX7_lowestBits_0 : decode cX7_lowestBits 0 = .ok (.iload_n 0, 1) := by decide +kernel
theorem dX7_lowestBits_1 : decode cX7_lowestBits 1 = .ok (.tableswitch 47 0 3 #[31, 36, 41, 45], 31) := by decide +kernel
theorem dX7_lowestBits_32 : decode cX7_lowestBits 32 = .ok (.lload_n 1, 1) := by decide +kernel
theorem dX7_lowestBits_33 : decode cX7_lowestBits 33 = .ok (.l2i, 1) := by decide +kernel
theorem dX7_lowestBits_34 : decode cX7_lowestBits 34 = .ok (.i2b, 1) := by decide +kernel
theorem dX7_lowestBits_35 : decode cX7_lowestBits 35 = .ok (.i2l, 1) := by decide +kernel
theorem dX7_lowestBits_36 : decode cX7_lowestBits 36 = .ok (.lreturn, 1) := by decide +kernel
theorem dX7_lowestBits_37 : decode cX7_lowestBits 37 = .ok (.lload_n 1, 1) := by decide +kernel
theorem dX7_lowestBits_38 : decode cX7_lowestBits 38 = .ok (.l2i, 1) := by decide +kernel
theorem dX7_lowestBits_39 : decode cX7_lowestBits 39 = .ok (.i2s, 1) := by decide +kernel
theorem dX7_lowestBits_40 : decode cX7_lowestBits 40 = .ok (.i2l, 1) := by decide +kernel
theorem dX7_lowestBits_41 : decode cX7_lowestBits 41 = .ok (.lreturn, 1) := by decide +kernel
theorem dX7_lowestBits_42 : decode cX7_lowestBits 42 = .ok (.lload_n 1, 1) := by decide +kernel
theorem dX7_lowestBits_43 : decode cX7_lowestBits 43 = .ok (.l2i, 1) := by decide +kernel
theorem dX7_lowestBits_44 : decode cX7_lowestBits 44 = .ok (.i2l, 1) := by decide +kernel
theorem dX7_lowestBits_45 : decode cX7_lowestBits 45 = .ok (.lreturn, 1) := by decide +kernel
theorem dX7_lowestBits_46 : decode cX7_lowestBits 46 = .ok (.lload_n 1, 1) := by decide +kernel
theorem dX7_lowestBits_47 : decode cX7_lowestBits 47 = .ok (.lreturn, 1) := by decide +kernel
theorem dX7_lowestBits_48 : decode cX7_lowestBits 48 = .ok (.lload_n 1, 1) := by decide +kernel
theorem dX7_lowestBits_49 : decode cX7_lowestBits 49 = .ok (.lconst 0, 1) := by decide +kernel
theorem dX7_lowestBits_50 : decode cX7_lowestBits 50 = .ok (.lcmp, 1) := by decide +kernel
theorem dX7_lowestBits_51 : decode cX7_lowestBits 51 = .ok (.ifCond .ne 7, 3) := by decide +kernel
theorem dX7_lowestBits_54 : decode cX7_lowestBits 54 = .ok (.lconst 0, 1) := by decide +kernel
theorem dX7_lowestBits_55 : decode cX7_lowestBits 55 = .ok (.goto 4, 3) := by decide +kernel
theorem dX7_lowestBits_58 : decode cX7_lowestBits 58 = .ok (.lconst 1, 1) := by decide +kernel
theorem dX7_lowestBits_59 : decode cX7_lowestBits 59 = .ok (.lreturn, 1) := by decide +kernel
theorem dX7_item_0 : decode cX7_item 0 = .ok (.iload_n 1, 1) := by decide +kernel
theorem dX7_item_1 : decode cX7_item 1 = .ok (.i2l, 1) := by decide +kernel
theorem dX7_item_2 : decode cX7_item 2 = .ok (.lconst 0, 1) := by decide +kernel
theorem dX7_item_3 : decode cX7_item 3 = .ok (.ldc2_w 223, 3) := by decide +kernel
theorem dX7_item_6 : decode cX7_item 6 = .ok (.invokestatic 37, 3) := by decide +kernel
theorem dX7_item_9 : decode cX7_item 9 = .ok (.ifCond .ne 5, 3) := by decide +kernel
theorem dX7_item_12 : decode cX7_item 12 = .ok (.iconst (-1), 1) := by decide +kernel
theorem dX7_item_13 : decode cX7_item 13 = .ok (.ireturn, 1) := by decide +kernel
theorem dX7_item_14 : decode cX7_item 14 = .ok (.aload_n 0, 1) := by decide +kernel
theorem dX7_item_15 : decode cX7_item 15 = .ok (.getfield 27, 3) := by decide +kernel
theorem dX7_item_18 : decode cX7_item 18 = .ok (.iload_n 1, 1) := by decide +kernel
theorem dX7_item_19 : decode cX7_item 19 = .ok (.iaload, 1) := by decide +kernel
theorem dX7_item_20 : decode cX7_item 20 = .ok (.iconst (-1), 1) := by decide +kernel
theorem dX7_item_21 : decode cX7_item 21 = .ok (.if_icmp .ne 6, 3) := by decide +kernel
theorem dX7_item_24 : decode cX7_item 24 = .ok (.bipush (-11), 2) := by decide +kernel
theorem dX7_item_26 : decode cX7_item 26 = .ok (.ireturn, 1) := by decide +kernel
theorem dX7_item_27 : decode cX7_item 27 = .ok (.iload_n 2, 1) := by decide +kernel
theorem dX7_item_28 : decode cX7_item 28 = .ok (.i2l, 1) := by decide +kernel
theorem dX7_item_29 : decode cX7_item 29 = .ok (.lconst 0, 1) := by decide +kernel
theorem dX7_item_30 : decode cX7_item 30 = .ok (.aload_n 0, 1) := by decide +kernel
theorem dX7_item_31 : decode cX7_item 31 = .ok (.getfield 30, 3) := by decide +kernel
theorem dX7_item_34 : decode cX7_item 34 = .ok (.iload_n 1, 1) := by decide +kernel
theorem dX7_item_35 : decode cX7_item 35 = .ok (.iaload, 1) := by decide +kernel
theorem dX7_item_36 : decode cX7_item 36 = .ok (.iconst 1, 1) := by decide +kernel
theorem dX7_item_37 : decode cX7_item 37 = .ok (.isub, 1) := by decide +kernel
theorem dX7_item_38 : decode cX7_item 38 = .ok (.i2l, 1) := by decide +kernel
theorem dX7_item_39 : decode cX7_item 39 = .ok (.invokestatic 37, 3) := by decide +kernel
theorem dX7_item_42 : decode cX7_item 42 = .ok (.ifCond .ne 6, 3) := by decide +kernel
theorem dX7_item_45 : decode cX7_item 45 = .ok (.bipush (-13), 2) := by decide +kernel
theorem dX7_item_47 : decode cX7_item 47 = .ok (.ireturn, 1) := by decide +kernel
theorem dX7_item_48 : decode cX7_item 48 = .ok (.aload_n 0, 1) := by decide +kernel
theorem dX7_item_49 : decode cX7_item 49 = .ok (.getfield 33, 3) := by decide +kernel
theorem dX7_item_52 : decode cX7_item 52 = .ok (.bipush 60, 2) := by decide +kernel
theorem dX7_item_54 : decode cX7_item 54 = .ok (.iload_n 1, 1) := by decide +kernel
theorem dX7_item_55 : decode cX7_item 55 = .ok (.imul, 1) := by decide +kernel
theorem dX7_item_56 : decode cX7_item 56 = .ok (.iload_n 2, 1) := by decide +kernel
theorem dX7_item_57 : decode cX7_item 57 = .ok (.iadd, 1) := by decide +kernel
theorem dX7_item_58 : decode cX7_item 58 = .ok (.aload_n 0, 1) := by decide +kernel
theorem dX7_item_59 : decode cX7_item 59 = .ok (.getfield 27, 3) := by decide +kernel
theorem dX7_item_62 : decode cX7_item 62 = .ok (.iload_n 1, 1) := by decide +kernel
theorem dX7_item_63 : decode cX7_item 63 = .ok (.iaload, 1) := by decide +kernel
theorem dX7_item_64 : decode cX7_item 64 = .ok (.lload_n 3, 1) := by decide +kernel
theorem dX7_item_65 : decode cX7_item 65 = .ok (.invokestatic 225, 3) := by decide +kernel
theorem dX7_item_68 : decode cX7_item 68 = .ok (.lastore, 1) := by decide +kernel
theorem dX7_item_69 : decode cX7_item 69 = .ok (.iconst 1, 1) := by decide +kernel
theorem dX7_item_70 : decode cX7_item 70 = .ok (.ireturn, 1) := by decide +kernel
theorem dX7_peek_0 : decode cX7_peek 0 = .ok (.iload_n 1, 1) := by decide +kernel
theorem dX7_peek_1 : decode cX7_peek 1 = .ok (.i2l, 1) := by decide +kernel
theorem dX7_peek_2 : decode cX7_peek 2 = .ok (.lconst 0, 1) := by decide +kernel
theorem dX7_peek_3 : decode cX7_peek 3 = .ok (.ldc2_w 223, 3) := by decide +kernel
theorem dX7_peek_6 : decode cX7_peek 6 = .ok (.invokestatic 37, 3) := by decide +kernel
theorem dX7_peek_9 : decode cX7_peek 9 = .ok (.ifCond .eq 35, 3) := by decide +kernel
theorem dX7_peek_12 : decode cX7_peek 12 = .ok (.iload_n 2, 1) := by decide +kernel
theorem dX7_peek_13 : decode cX7_peek 13 = .ok (.i2l, 1) := by decide +kernel
theorem dX7_peek_14 : decode cX7_peek 14 = .ok (.lconst 0, 1) := by decide +kernel
theorem dX7_peek_15 : decode cX7_peek 15 = .ok (.aload_n 0, 1) := by decide +kernel
theorem dX7_peek_16 : decode cX7_peek 16 = .ok (.getfield 30, 3) := by decide +kernel
theorem dX7_peek_19 : decode cX7_peek 19 = .ok (.iload_n 1, 1) := by decide +kernel
theorem dX7_peek_20 : decode cX7_peek 20 = .ok (.iaload, 1) := by decide +kernel
theorem dX7_peek_21 : decode cX7_peek 21 = .ok (.iconst 1, 1) := by decide +kernel
theorem dX7_peek_22 : decode cX7_peek 22 = .ok (.isub, 1) := by decide +kernel
theorem dX7_peek_23 : decode cX7_peek 23 = .ok (.i2l, 1) := by decide +kernel
theorem dX7_peek_24 : decode cX7_peek 24 = .ok (.invokestatic 37, 3) := by decide +kernel
theorem dX7_peek_27 : decode cX7_peek 27 = .ok (.ifCond .eq 17, 3) := by decide +kernel
theorem dX7_peek_30 : decode cX7_peek 30 = .ok (.aload_n 0, 1) := by decide +kernel
theorem dX7_peek_31 : decode cX7_peek 31 = .ok (.getfield 33, 3) := by decide +kernel
theorem dX7_peek_34 : decode cX7_peek 34 = .ok (.bipush 60, 2) := by decide +kernel
theorem dX7_peek_36 : decode cX7_peek 36 = .ok (.iload_n 1, 1) := by decide +kernel
theorem dX7_peek_37 : decode cX7_peek 37 = .ok (.imul, 1) := by decide +kernel
theorem dX7_peek_38 : decode cX7_peek 38 = .ok (.iload_n 2, 1) := by decide +kernel
theorem dX7_peek_39 : decode cX7_peek 39 = .ok (.iadd, 1) := by decide +kernel
theorem dX7_peek_40 : decode cX7_peek 40 = .ok (.laload, 1) := by decide +kernel
theorem dX7_peek_41 : decode cX7_peek 41 = .ok (.goto 6, 3) := by decide +kernel
theorem dX7_peek_44 : decode cX7_peek 44 = .ok (.ldc2_w 203, 3) := by decide +kernel
theorem dX7_peek_47 : decode cX7_peek 47 = .ok (.lreturn, 1) := by decide +kernel
theorem dX7_shift_0 : decode cX7_shift 0 = .ok (.iload_n 1, 1) := by decide +kernel
theorem dX7_shift_1 : decode cX7_shift 1 = .ok (.i2l, 1) := by decide +kernel
theorem dX7_shift_2 : decode cX7_shift 2 = .ok (.lconst 0, 1) := by decide +kernel
theorem dX7_shift_3 : decode cX7_shift 3 = .ok (.ldc2_w 223, 3) := by decide +kernel
theorem dX7_shift_6 : decode cX7_shift 6 = .ok (.invokestatic 37, 3) := by decide +kernel
theorem dX7_shift_9 : decode cX7_shift 9 = .ok (.ifCond .eq 15, 3) := by decide +kernel
theorem dX7_shift_12 : decode cX7_shift 12 = .ok (.iload_n 3, 1) := by decide +kernel
theorem dX7_shift_13 : decode cX7_shift 13 = .ok (.i2l, 1) := by decide +kernel
theorem dX7_shift_14 : decode cX7_shift 14 = .ok (.lconst 0, 1) := by decide +kernel
theorem dX7_shift_15 : decode cX7_shift 15 = .ok (.ldc2_w 223, 3) := by decide +kernel
theorem dX7_shift_18 : decode cX7_shift 18 = .ok (.invokestatic 37, 3) := by decide +kernel
theorem dX7_shift_21 : decode cX7_shift 21 = .ok (.ifCond .ne 5, 3) := by decide +kernel
theorem dX7_shift_24 : decode cX7_shift 24 = .ok (.iconst (-1), 1) := by decide +kernel
theorem dX7_shift_25 : decode cX7_shift 25 = .ok (.ireturn, 1) := by decide +kernel
theorem dX7_shift_26 : decode cX7_shift 26 = .ok (.aload_n 0, 1) := by decide +kernel
theorem dX7_shift_27 : decode cX7_shift 27 = .ok (.getfield 27, 3) := by decide +kernel
theorem dX7_shift_30 : decode cX7_shift 30 = .ok (.iload_n 1, 1) := by decide +kernel
theorem dX7_shift_31 : decode cX7_shift 31 = .ok (.iaload, 1) := by decide +kernel
theorem dX7_shift_32 : decode cX7_shift 32 = .ok (.iconst (-1), 1) := by decide +kernel
theorem dX7_shift_33 : decode cX7_shift 33 = .ok (.if_icmp .eq 13, 3) := by decide +kernel
theorem dX7_shift_36 : decode cX7_shift 36 = .ok (.aload_n 0, 1) := by decide +kernel
theorem dX7_shift_37 : decode cX7_shift 37 = .ok (.getfield 27, 3) := by decide +kernel
theorem dX7_shift_40 : decode cX7_shift 40 = .ok (.iload_n 3, 1) := by decide +kernel
theorem dX7_shift_41 : decode cX7_shift 41 = .ok (.iaload, 1) := by decide +kernel
theorem dX7_shift_42 : decode cX7_shift 42 = .ok (.iconst (-1), 1) := by decide +kernel
theorem dX7_shift_43 : decode cX7_shift 43 = .ok (.if_icmp .ne 6, 3) := by decide +kernel
theorem dX7_shift_46 : decode cX7_shift 46 = .ok (.bipush (-11), 2) := by decide +kernel
theorem dX7_shift_48 : decode cX7_shift 48 = .ok (.ireturn, 1) := by decide +kernel
theorem dX7_shift_49 : decode cX7_shift 49 = .ok (.aload_n 0, 1) := by decide +kernel
theorem dX7_shift_50 : decode cX7_shift 50 = .ok (.getfield 27, 3) := by decide +kernel
theorem dX7_shift_53 : decode cX7_shift 53 = .ok (.iload_n 1, 1) := by decide +kernel
theorem dX7_shift_54 : decode cX7_shift 54 = .ok (.iaload, 1) := by decide +kernel
theorem dX7_shift_55 : decode cX7_shift 55 = .ok (.aload_n 0, 1) := by decide +kernel
theorem dX7_shift_56 : decode cX7_shift 56 = .ok (.getfield 27, 3) := by decide +kernel
theorem dX7_shift_59 : decode cX7_shift 59 = .ok (.iload_n 3, 1) := by decide +kernel
theorem dX7_shift_60 : decode cX7_shift 60 = .ok (.iaload, 1) := by decide +kernel
theorem dX7_shift_61 : decode cX7_shift 61 = .ok (.if_icmp .eq 6, 3) := by decide +kernel
theorem dX7_shift_64 : decode cX7_shift 64 = .ok (.bipush (-12), 2) := by decide +kernel
theorem dX7_shift_66 : decode cX7_shift 66 = .ok (.ireturn, 1) := by decide +kernel
theorem dX7_shift_67 : decode cX7_shift 67 = .ok (.iload 5, 2) := by decide +kernel
theorem dX7_shift_69 : decode cX7_shift 69 = .ok (.ifCond .lt 60, 3) := by decide +kernel
theorem dX7_shift_72 : decode cX7_shift 72 = .ok (.iload_n 2, 1) := by decide +kernel
theorem dX7_shift_73 : decode cX7_shift 73 = .ok (.ifCond .lt 56, 3) := by decide +kernel
theorem dX7_shift_76 : decode cX7_shift 76 = .ok (.iload 4, 2) := by decide +kernel
theorem dX7_shift_78 : decode cX7_shift 78 = .ok (.ifCond .lt 51, 3) := by decide +kernel
theorem dX7_shift_81 : decode cX7_shift 81 = .ok (.iload_n 2, 1) := by decide +kernel
theorem dX7_shift_82 : decode cX7_shift 82 = .ok (.aload_n 0, 1) := by decide +kernel
theorem dX7_shift_83 : decode cX7_shift 83 = .ok (.getfield 30, 3) := by decide +kernel
theorem dX7_shift_86 : decode cX7_shift 86 = .ok (.iload_n 1, 1) := by decide +kernel
theorem dX7_shift_87 : decode cX7_shift 87 = .ok (.iaload, 1) := by decide +kernel
theorem dX7_shift_88 : decode cX7_shift 88 = .ok (.if_icmp .gt 41, 3) := by decide +kernel
theorem dX7_shift_91 : decode cX7_shift 91 = .ok (.iload 4, 2) := by decide +kernel
theorem dX7_shift_93 : decode cX7_shift 93 = .ok (.aload_n 0, 1) := by decide +kernel
theorem dX7_shift_94 : decode cX7_shift 94 = .ok (.getfield 30, 3) := by decide +kernel
theorem dX7_shift_97 : decode cX7_shift 97 = .ok (.iload_n 3, 1) := by decide +kernel
theorem dX7_shift_98 : decode cX7_shift 98 = .ok (.iaload, 1) := by decide +kernel
theorem dX7_shift_99 : decode cX7_shift 99 = .ok (.if_icmp .gt 30, 3) := by decide +kernel
theorem dX7_shift_102 : decode cX7_shift 102 = .ok (.iload 5, 2) := by decide +kernel
theorem dX7_shift_104 : decode cX7_shift 104 = .ok (.aload_n 0, 1) := by decide +kernel
theorem dX7_shift_105 : decode cX7_shift 105 = .ok (.getfield 30, 3) := by decide +kernel
theorem dX7_shift_108 : decode cX7_shift 108 = .ok (.iload_n 1, 1) := by decide +kernel
theorem dX7_shift_109 : decode cX7_shift 109 = .ok (.iaload, 1) := by decide +kernel
theorem dX7_shift_110 : decode cX7_shift 110 = .ok (.iload_n 2, 1) := by decide +kernel
theorem dX7_shift_111 : decode cX7_shift 111 = .ok (.isub, 1) := by decide +kernel
theorem dX7_shift_112 : decode cX7_shift 112 = .ok (.if_icmp .gt 17, 3) := by decide +kernel
theorem dX7_shift_115 : decode cX7_shift 115 = .ok (.iload 5, 2) := by decide +kernel
theorem dX7_shift_117 : decode cX7_shift 117 = .ok (.aload_n 0, 1) := by decide +kernel
theorem dX7_shift_118 : decode cX7_shift 118 = .ok (.getfield 30, 3) := by decide +kernel
theorem dX7_shift_121 : decode cX7_shift 121 = .ok (.iload_n 3, 1) := by decide +kernel
theorem dX7_shift_122 : decode cX7_shift 122 = .ok (.iaload, 1) := by decide +kernel
theorem dX7_shift_123 : decode cX7_shift 123 = .ok (.iload 4, 2) := by decide +kernel
theorem dX7_shift_125 : decode cX7_shift 125 = .ok (.isub, 1) := by decide +kernel
theorem dX7_shift_126 : decode cX7_shift 126 = .ok (.if_icmp .le 6, 3) := by decide +kernel
theorem dX7_shift_129 : decode cX7_shift 129 = .ok (.bipush (-13), 2) := by decide +kernel
theorem dX7_shift_131 : decode cX7_shift 131 = .ok (.ireturn, 1) := by decide +kernel
theorem dX7_shift_132 : decode cX7_shift 132 = .ok (.iconst 0, 1) := by decide +kernel
theorem dX7_shift_133 : decode cX7_shift 133 = .ok (.istore 6, 2) := by decide +kernel
theorem dX7_shift_135 : decode cX7_shift 135 = .ok (.iload 6, 2) := by decide +kernel
theorem dX7_shift_137 : decode cX7_shift 137 = .ok (.iload 5, 2) := by decide +kernel
theorem dX7_shift_139 : decode cX7_shift 139 = .ok (.if_icmp .ge 58, 3) := by decide +kernel
theorem dX7_shift_142 : decode cX7_shift 142 = .ok (.iload_n 2, 1) := by decide +kernel
theorem dX7_shift_143 : decode cX7_shift 143 = .ok (.iload 4, 2) := by decide +kernel
theorem dX7_shift_145 : decode cX7_shift 145 = .ok (.if_icmp .ge 13, 3) := by decide +kernel
theorem dX7_shift_148 : decode cX7_shift 148 = .ok (.iload 5, 2) := by decide +kernel
theorem dX7_shift_150 : decode cX7_shift 150 = .ok (.iconst 1, 1) := by decide +kernel
theorem dX7_shift_151 : decode cX7_shift 151 = .ok (.isub, 1) := by decide +kernel
theorem dX7_shift_152 : decode cX7_shift 152 = .ok (.iload 6, 2) := by decide +kernel
theorem dX7_shift_154 : decode cX7_shift 154 = .ok (.isub, 1) := by decide +kernel
theorem dX7_shift_155 : decode cX7_shift 155 = .ok (.goto 5, 3) := by decide +kernel
theorem dX7_shift_158 : decode cX7_shift 158 = .ok (.iload 6, 2) := by decide +kernel
theorem dX7_shift_160 : decode cX7_shift 160 = .ok (.istore 7, 2) := by decide +kernel
theorem dX7_shift_162 : decode cX7_shift 162 = .ok (.aload_n 0, 1) := by decide +kernel
theorem dX7_shift_163 : decode cX7_shift 163 = .ok (.getfield 33, 3) := by decide +kernel
theorem dX7_shift_166 : decode cX7_shift 166 = .ok (.bipush 60, 2) := by decide +kernel
theorem dX7_shift_168 : decode cX7_shift 168 = .ok (.iload_n 3, 1) := by decide +kernel
theorem dX7_shift_169 : decode cX7_shift 169 = .ok (.imul, 1) := by decide +kernel
theorem dX7_shift_170 : decode cX7_shift 170 = .ok (.iload 4, 2) := by decide +kernel
theorem dX7_shift_172 : decode cX7_shift 172 = .ok (.iadd, 1) := by decide +kernel
theorem dX7_shift_173 : decode cX7_shift 173 = .ok (.iload 7, 2) := by decide +kernel
theorem dX7_shift_175 : decode cX7_shift 175 = .ok (.iadd, 1) := by decide +kernel
theorem dX7_shift_176 : decode cX7_shift 176 = .ok (.aload_n 0, 1) := by decide +kernel
theorem dX7_shift_177 : decode cX7_shift 177 = .ok (.getfield 33, 3) := by decide +kernel
theorem dX7_shift_180 : decode cX7_shift 180 = .ok (.bipush 60, 2) := by decide +kernel
theorem dX7_shift_182 : decode cX7_shift 182 = .ok (.iload_n 1, 1) := by decide +kernel
theorem dX7_shift_183 : decode cX7_shift 183 = .ok (.imul, 1) := by decide +kernel
theorem dX7_shift_184 : decode cX7_shift 184 = .ok (.iload_n 2, 1) := by decide +kernel
theorem dX7_shift_185 : decode cX7_shift 185 = .ok (.iadd, 1) := by decide +kernel
theorem dX7_shift_186 : decode cX7_shift 186 = .ok (.iload 7, 2) := by decide +kernel
theorem dX7_shift_188 : decode cX7_shift 188 = .ok (.iadd, 1) := by decide +kernel
theorem dX7_shift_189 : decode cX7_shift 189 = .ok (.laload, 1) := by decide +kernel
theorem dX7_shift_190 : decode cX7_shift 190 = .ok (.lastore, 1) := by decide +kernel
theorem dX7_shift_191 : decode cX7_shift 191 = .ok (.iinc 6 1, 3) := by decide +kernel
theorem dX7_shift_194 : decode cX7_shift 194 = .ok (.goto (-59), 3) := by decide +kernel
theorem dX7_shift_197 : decode cX7_shift 197 = .ok (.iload 5, 2) := by decide +kernel
theorem dX7_shift_199 : decode cX7_shift 199 = .ok (.ireturn, 1) := by decide +kernel
theorem dJ6_bitCount_0f7a4_0 : decode cJ6_bitCount_0f7a4 0 = .ok (.iload_n 0, 1) := by decide +kernel
theorem dJ6_bitCount_0f7a4_1 : decode cJ6_bitCount_0f7a4 1 = .ok (.iload_n 0, 1) := by decide +kernel
theorem dJ6_bitCount_0f7a4_2 : decode cJ6_bitCount_0f7a4 2 = .ok (.iconst 1, 1) := by decide +kernel
theorem dJ6_bitCount_0f7a4_3 : decode cJ6_bitCount_0f7a4 3 = .ok (.iushr, 1) := by decide +kernel
theorem dJ6_bitCount_0f7a4_4 : decode cJ6_bitCount_0f7a4 4 = .ok (.ldc_w 265, 3) := by decide +kernel
theorem dJ6_bitCount_0f7a4_7 : decode cJ6_bitCount_0f7a4 7 = .ok (.iand, 1) := by decide +kernel
theorem dJ6_bitCount_0f7a4_8 : decode cJ6_bitCount_0f7a4 8 = .ok (.isub, 1) := by decide +kernel
theorem dJ6_bitCount_0f7a4_9 : decode cJ6_bitCount_0f7a4 9 = .ok (.istore_n 0, 1) := by decide +kernel
theorem dJ6_bitCount_0f7a4_10 : decode cJ6_bitCount_0f7a4 10 = .ok (.iload_n 0, 1) := by decide +kernel
theorem dJ6_bitCount_0f7a4_11 : decode cJ6_bitCount_0f7a4 11 = .ok (.ldc_w 266, 3) := by decide +kernel
theorem dJ6_bitCount_0f7a4_14 : decode cJ6_bitCount_0f7a4 14 = .ok (.iand, 1) := by decide +kernel
theorem dJ6_bitCount_0f7a4_15 : decode cJ6_bitCount_0f7a4 15 = .ok (.iload_n 0, 1) := by decide +kernel
theorem dJ6_bitCount_0f7a4_16 : decode cJ6_bitCount_0f7a4 16 = .ok (.iconst 2, 1) := by decide +kernel
theorem dJ6_bitCount_0f7a4_17 : decode cJ6_bitCount_0f7a4 17 = .ok (.iushr, 1) := by decide +kernel
theorem dJ6_bitCount_0f7a4_18 : decode cJ6_bitCount_0f7a4 18 = .ok (.ldc_w 266, 3) := by decide +kernel
theorem dJ6_bitCount_0f7a4_21 : decode cJ6_bitCount_0f7a4 21 = .ok (.iand, 1) := by decide +kernel
theorem dJ6_bitCount_0f7a4_22 : decode cJ6_bitCount_0f7a4 22 = .ok (.iadd, 1) := by decide +kernel
theorem dJ6_bitCount_0f7a4_23 : decode cJ6_bitCount_0f7a4 23 = .ok (.istore_n 0, 1) := by decide +kernel
theorem dJ6_bitCount_0f7a4_24 : decode cJ6_bitCount_0f7a4 24 = .ok (.iload_n 0, 1) := by decide +kernel
theorem dJ6_bitCount_0f7a4_25 : decode cJ6_bitCount_0f7a4 25 = .ok (.iload_n 0, 1) := by decide +kernel
theorem dJ6_bitCount_0f7a4_26 : decode cJ6_bitCount_0f7a4 26 = .ok (.iconst 4, 1) := by decide +kernel
theorem dJ6_bitCount_0f7a4_27 : decode cJ6_bitCount_0f7a4 27 = .ok (.iushr, 1) := by decide +kernel
theorem dJ6_bitCount_0f7a4_28 : decode cJ6_bitCount_0f7a4 28 = .ok (.iadd, 1) := by decide +kernel
theorem dJ6_bitCount_0f7a4_29 : decode cJ6_bitCount_0f7a4 29 = .ok (.ldc_w 267, 3) := by decide +kernel
theorem dJ6_bitCount_0f7a4_32 : decode cJ6_bitCount_0f7a4 32 = .ok (.iand, 1) := by decide +kernel
theorem dJ6_bitCount_0f7a4_33 : decode cJ6_bitCount_0f7a4 33 = .ok (.istore_n 0, 1) := by decide +kernel
theorem dJ6_bitCount_0f7a4_34 : decode cJ6_bitCount_0f7a4 34 = .ok (.iload_n 0, 1) := by decide +kernel
theorem dJ6_bitCount_0f7a4_35 : decode cJ6_bitCount_0f7a4 35 = .ok (.iload_n 0, 1) := by decide +kernel
theorem dJ6_bitCount_0f7a4_36 : decode cJ6_bitCount_0f7a4 36 = .ok (.bipush 8, 2) := by decide +kernel
theorem dJ6_bitCount_0f7a4_38 : decode cJ6_bitCount_0f7a4 38 = .ok (.iushr, 1) := by decide +kernel
theorem dJ6_bitCount_0f7a4_39 : decode cJ6_bitCount_0f7a4 39 = .ok (.iadd, 1) := by decide +kernel
theorem dJ6_bitCount_0f7a4_40 : decode cJ6_bitCount_0f7a4 40 = .ok (.istore_n 0, 1) := by decide +kernel
theorem dJ6_bitCount_0f7a4_41 : decode cJ6_bitCount_0f7a4 41 = .ok (.iload_n 0, 1) := by decide +kernel
theorem dJ6_bitCount_0f7a4_42 : decode cJ6_bitCount_0f7a4 42 = .ok (.iload_n 0, 1) := by decide +kernel
theorem dJ6_bitCount_0f7a4_43 : decode cJ6_bitCount_0f7a4 43 = .ok (.bipush 16, 2) := by decide +kernel
theorem dJ6_bitCount_0f7a4_45 : decode cJ6_bitCount_0f7a4 45 = .ok (.iushr, 1) := by decide +kernel
theorem dJ6_bitCount_0f7a4_46 : decode cJ6_bitCount_0f7a4 46 = .ok (.iadd, 1) := by decide +kernel
theorem dJ6_bitCount_0f7a4_47 : decode cJ6_bitCount_0f7a4 47 = .ok (.istore_n 0, 1) := by decide +kernel
theorem dJ6_bitCount_0f7a4_48 : decode cJ6_bitCount_0f7a4 48 = .ok (.iload_n 0, 1) := by decide +kernel
theorem dJ6_bitCount_0f7a4_49 : decode cJ6_bitCount_0f7a4 49 = .ok (.bipush 63, 2) := by decide +kernel
theorem dJ6_bitCount_0f7a4_51 : decode cJ6_bitCount_0f7a4 51 = .ok (.iand, 1) := by decide +kernel
theorem dJ6_bitCount_0f7a4_52 : decode cJ6_bitCount_0f7a4 52 = .ok (.ireturn, 1) := by decide +kernel
theorem dJ9_abs_0f7a4_0 : decode cJ9_abs_0f7a4 0 = .ok (.iload_n 0, 1) := by decide +kernel
theorem dJ9_abs_0f7a4_1 : decode cJ9_abs_0f7a4 1 = .ok (.ifCond .ge 8, 3) := by decide +kernel
theorem dJ9_abs_0f7a4_4 : decode cJ9_abs_0f7a4 4 = .ok (.iload_n 0, 1) := by decide +kernel
theorem dJ9_abs_0f7a4_5 : decode cJ9_abs_0f7a4 5 = .ok (.ineg, 1) := by decide +kernel
theorem dJ9_abs_0f7a4_6 : decode cJ9_abs_0f7a4 6 = .ok (.goto 4, 3) := by decide +kernel
theorem dJ9_abs_0f7a4_9 : decode cJ9_abs_0f7a4 9 = .ok (.iload_n 0, 1) := by decide +kernel
theorem dJ9_abs_0f7a4_10 : decode cJ9_abs_0f7a4 10 = .ok (.ireturn, 1) := by decide +kernel
theorem dJ9_max_7cf53_0 : decode cJ9_max_7cf53 0 = .ok (.iload_n 0, 1) := by decide +kernel
theorem dJ9_max_7cf53_1 : decode cJ9_max_7cf53 1 = .ok (.iload_n 1, 1) := by decide +kernel
theorem dJ9_max_7cf53_2 : decode cJ9_max_7cf53 2 = .ok (.if_icmp .lt 7, 3) := by decide +kernel
theorem dJ9_max_7cf53_5 : decode cJ9_max_7cf53 5 = .ok (.iload_n 0, 1) := by decide +kernel
theorem dJ9_max_7cf53_6 : decode cJ9_max_7cf53 6 = .ok (.goto 4, 3) := by decide +kernel
theorem dJ9_max_7cf53_9 : decode cJ9_max_7cf53 9 = .ok (.iload_n 1, 1) := by decide +kernel
theorem dJ9_max_7cf53_10 : decode cJ9_max_7cf53 10 = .ok (.ireturn, 1) := by decide +kernel
theorem dJ9_min_7cf53_0 : decode cJ9_min_7cf53 0 = .ok (.iload_n 0, 1) := by decide +kernel
theorem dJ9_min_7cf53_1 : decode cJ9_min_7cf53 1 = .ok (.iload_n 1, 1) := by decide +kernel
theorem dJ9_min_7cf53_2 : decode cJ9_min_7cf53 2 = .ok (.if_icmp .gt 7, 3) := by decide +kernel
theorem dJ9_min_7cf53_5 : decode cJ9_min_7cf53 5 = .ok (.iload_n 0, 1) := by decide +kernel
theorem dJ9_min_7cf53_6 : decode cJ9_min_7cf53 6 = .ok (.goto 4, 3) := by decide +kernel
theorem dJ9_min_7cf53_9 : decode cJ9_min_7cf53 9 = .ok (.iload_n 1, 1) := by decide +kernel
theorem dJ9_min_7cf53_10 : decode cJ9_min_7cf53 10 = .ok (.ireturn, 1) := by decide +kernel
theorem dL_law_0 : decode cL_law 0 = .ok (.new 7, 3) := by decide +kernel
theorem dL_law_3 : decode cL_law 3 = .ok (.dup, 1) := by decide +kernel
theorem dL_law_4 : decode cL_law 4 = .ok (.invokespecial 9, 3) := by decide +kernel
theorem dL_law_7 : decode cL_law 7 = .ok (.astore_n 1, 1) := by decide +kernel
theorem dL_law_8 : decode cL_law 8 = .ok (.new 10, 3) := by decide +kernel
theorem dL_law_11 : decode cL_law 11 = .ok (.dup, 1) := by decide +kernel
theorem dL_law_12 : decode cL_law 12 = .ok (.invokespecial 12, 3) := by decide +kernel
theorem dL_law_15 : decode cL_law 15 = .ok (.astore_n 2, 1) := by decide +kernel
theorem dL_law_16 : decode cL_law 16 = .ok (.iconst 0, 1) := by decide +kernel
theorem dL_law_17 : decode cL_law 17 = .ok (.istore_n 3, 1) := by decide +kernel
theorem dL_law_18 : decode cL_law 18 = .ok (.iload_n 3, 1) := by decide +kernel
theorem dL_law_19 : decode cL_law 19 = .ok (.aload_n 0, 1) := by decide +kernel
theorem dL_law_20 : decode cL_law 20 = .ok (.arraylength, 1) := by decide +kernel
theorem dL_law_21 : decode cL_law 21 = .ok (.bipush 6, 2) := by decide +kernel
theorem dL_law_23 : decode cL_law 23 = .ok (.isub, 1) := by decide +kernel
theorem dL_law_24 : decode cL_law 24 = .ok (.if_icmp .gt 1126, 3) := by decide +kernel
theorem dL_law_27 : decode cL_law 27 = .ok (.aload_n 0, 1) := by decide +kernel
theorem dL_law_28 : decode cL_law 28 = .ok (.iload_n 3, 1) := by decide +kernel
theorem dL_law_29 : decode cL_law 29 = .ok (.iaload, 1) := by decide +kernel
theorem dL_law_30 : decode cL_law 30 = .ok (.bipush 31, 2) := by decide +kernel
theorem dL_law_32 : decode cL_law 32 = .ok (.iand, 1) := by decide +kernel
theorem dL_law_33 : decode cL_law 33 = .ok (.tableswitch 1111 0 30 #[139, 172, 215, 248, 297, 340, 363, 376, 409, 442, 475, 488, 521, 544, 567, 590, 623, 656, 690, 714, 747, 770, 803, 816, 849, 862, 875, 898, 941, 1014, 1048], 139) := by decide +kernel
theorem dL_law_172 : decode cL_law 172 = .ok (.aload_n 1, 1) := by decide +kernel
theorem dL_law_173 : decode cL_law 173 = .ok (.aload_n 0, 1) := by decide +kernel
theorem dL_law_174 : decode cL_law 174 = .ok (.iload_n 3, 1) := by decide +kernel
theorem dL_law_175 : decode cL_law 175 = .ok (.iconst 1, 1) := by decide +kernel
theorem dL_law_176 : decode cL_law 176 = .ok (.iadd, 1) := by decide +kernel
theorem dL_law_177 : decode cL_law 177 = .ok (.iaload, 1) := by decide +kernel
theorem dL_law_178 : decode cL_law 178 = .ok (.aload_n 0, 1) := by decide +kernel
theorem dL_law_179 : decode cL_law 179 = .ok (.iload_n 3, 1) := by decide +kernel
theorem dL_law_180 : decode cL_law 180 = .ok (.iconst 2, 1) := by decide +kernel
theorem dL_law_181 : decode cL_law 181 = .ok (.iadd, 1) := by decide +kernel
theorem dL_law_182 : decode cL_law 182 = .ok (.iaload, 1) := by decide +kernel
theorem dL_law_183 : decode cL_law 183 = .ok (.invokevirtual 13, 3) := by decide +kernel
theorem dL_law_186 : decode cL_law 186 = .ok (.aload_n 2, 1) := by decide +kernel
theorem dL_law_187 : decode cL_law 187 = .ok (.aload_n 0, 1) := by decide +kernel
theorem dL_law_188 : decode cL_law 188 = .ok (.iload_n 3, 1) := by decide +kernel
theorem dL_law_189 : decode cL_law 189 = .ok (.iconst 1, 1) := by decide +kernel
theorem dL_law_190 : decode cL_law 190 = .ok (.iadd, 1) := by decide +kernel
theorem dL_law_191 : decode cL_law 191 = .ok (.iaload, 1) := by decide +kernel
theorem dL_law_192 : decode cL_law 192 = .ok (.aload_n 0, 1) := by decide +kernel
theorem dL_law_193 : decode cL_law 193 = .ok (.iload_n 3, 1) := by decide +kernel
theorem dL_law_194 : decode cL_law 194 = .ok (.iconst 2, 1) := by decide +kernel
theorem dL_law_195 : decode cL_law 195 = .ok (.iadd, 1) := by decide +kernel
theorem dL_law_196 : decode cL_law 196 = .ok (.iaload, 1) := by decide +kernel
theorem dL_law_197 : decode cL_law 197 = .ok (.invokevirtual 17, 3) := by decide +kernel
theorem dL_law_200 : decode cL_law 200 = .ok (.if_icmp .eq 944, 3) := by decide +kernel
theorem dL_law_203 : decode cL_law 203 = .ok (.iconst 0, 1) := by decide +kernel
theorem dL_law_204 : decode cL_law 204 = .ok (.ireturn, 1) := by decide +kernel
theorem dL_law_205 : decode cL_law 205 = .ok (.aload_n 1, 1) := by decide +kernel
theorem dL_law_206 : decode cL_law 206 = .ok (.aload_n 0, 1) := by decide +kernel
theorem dL_law_207 : decode cL_law 207 = .ok (.iload_n 3, 1) := by decide +kernel
theorem dL_law_208 : decode cL_law 208 = .ok (.iconst 1, 1) := by decide +kernel
theorem dL_law_209 : decode cL_law 209 = .ok (.iadd, 1) := by decide +kernel
theorem dL_law_210 : decode cL_law 210 = .ok (.iaload, 1) := by decide +kernel
theorem dL_law_211 : decode cL_law 211 = .ok (.aload_n 0, 1) := by decide +kernel
theorem dL_law_212 : decode cL_law 212 = .ok (.iload_n 3, 1) := by decide +kernel
theorem dL_law_213 : decode cL_law 213 = .ok (.iconst 2, 1) := by decide +kernel
theorem dL_law_214 : decode cL_law 214 = .ok (.iadd, 1) := by decide +kernel
theorem dL_law_215 : decode cL_law 215 = .ok (.iaload, 1) := by decide +kernel
theorem dL_law_216 : decode cL_law 216 = .ok (.aload_n 0, 1) := by decide +kernel
theorem dL_law_217 : decode cL_law 217 = .ok (.iload_n 3, 1) := by decide +kernel
theorem dL_law_218 : decode cL_law 218 = .ok (.iconst 3, 1) := by decide +kernel
theorem dL_law_219 : decode cL_law 219 = .ok (.iadd, 1) := by decide +kernel
theorem dL_law_220 : decode cL_law 220 = .ok (.iaload, 1) := by decide +kernel
theorem dL_law_221 : decode cL_law 221 = .ok (.invokevirtual 18, 3) := by decide +kernel
theorem dL_law_224 : decode cL_law 224 = .ok (.aload_n 2, 1) := by decide +kernel
theorem dL_law_225 : decode cL_law 225 = .ok (.aload_n 0, 1) := by decide +kernel
theorem dL_law_226 : decode cL_law 226 = .ok (.iload_n 3, 1) := by decide +kernel
theorem dL_law_227 : decode cL_law 227 = .ok (.iconst 1, 1) := by decide +kernel
theorem dL_law_228 : decode cL_law 228 = .ok (.iadd, 1) := by decide +kernel
theorem dL_law_229 : decode cL_law 229 = .ok (.iaload, 1) := by decide +kernel
theorem dL_law_230 : decode cL_law 230 = .ok (.aload_n 0, 1) := by decide +kernel
theorem dL_law_231 : decode cL_law 231 = .ok (.iload_n 3, 1) := by decide +kernel
theorem dL_law_232 : decode cL_law 232 = .ok (.iconst 2, 1) := by decide +kernel
theorem dL_law_233 : decode cL_law 233 = .ok (.iadd, 1) := by decide +kernel
theorem dL_law_234 : decode cL_law 234 = .ok (.iaload, 1) := by decide +kernel
theorem dL_law_235 : decode cL_law 235 = .ok (.aload_n 0, 1) := by decide +kernel
theorem dL_law_236 : decode cL_law 236 = .ok (.iload_n 3, 1) := by decide +kernel
theorem dL_law_237 : decode cL_law 237 = .ok (.iconst 3, 1) := by decide +kernel
theorem dL_law_238 : decode cL_law 238 = .ok (.iadd, 1) := by decide +kernel
theorem dL_law_239 : decode cL_law 239 = .ok (.iaload, 1) := by decide +kernel
theorem dL_law_240 : decode cL_law 240 = .ok (.invokevirtual 22, 3) := by decide +kernel
theorem dL_law_243 : decode cL_law 243 = .ok (.if_icmp .eq 901, 3) := by decide +kernel
theorem dL_law_246 : decode cL_law 246 = .ok (.iconst 0, 1) := by decide +kernel
theorem dL_law_247 : decode cL_law 247 = .ok (.ireturn, 1) := by decide +kernel
theorem dL_law_248 : decode cL_law 248 = .ok (.aload_n 1, 1) := by decide +kernel
theorem dL_law_249 : decode cL_law 249 = .ok (.aload_n 0, 1) := by decide +kernel
theorem dL_law_250 : decode cL_law 250 = .ok (.iload_n 3, 1) := by decide +kernel
theorem dL_law_251 : decode cL_law 251 = .ok (.iconst 1, 1) := by decide +kernel
theorem dL_law_252 : decode cL_law 252 = .ok (.iadd, 1) := by decide +kernel
theorem dL_law_253 : decode cL_law 253 = .ok (.iaload, 1) := by decide +kernel
theorem dL_law_254 : decode cL_law 254 = .ok (.aload_n 0, 1) := by decide +kernel
theorem dL_law_255 : decode cL_law 255 = .ok (.iload_n 3, 1) := by decide +kernel
theorem dL_law_256 : decode cL_law 256 = .ok (.iconst 2, 1) := by decide +kernel
theorem dL_law_257 : decode cL_law 257 = .ok (.iadd, 1) := by decide +kernel
theorem dL_law_258 : decode cL_law 258 = .ok (.iaload, 1) := by decide +kernel
theorem dL_law_259 : decode cL_law 259 = .ok (.invokevirtual 23, 3) := by decide +kernel
theorem dL_law_262 : decode cL_law 262 = .ok (.aload_n 2, 1) := by decide +kernel
theorem dL_law_263 : decode cL_law 263 = .ok (.aload_n 0, 1) := by decide +kernel
theorem dL_law_264 : decode cL_law 264 = .ok (.iload_n 3, 1) := by decide +kernel
theorem dL_law_265 : decode cL_law 265 = .ok (.iconst 1, 1) := by decide +kernel
theorem dL_law_266 : decode cL_law 266 = .ok (.iadd, 1) := by decide +kernel
theorem dL_law_267 : decode cL_law 267 = .ok (.iaload, 1) := by decide +kernel
theorem dL_law_268 : decode cL_law 268 = .ok (.aload_n 0, 1) := by decide +kernel
theorem dL_law_269 : decode cL_law 269 = .ok (.iload_n 3, 1) := by decide +kernel
theorem dL_law_270 : decode cL_law 270 = .ok (.iconst 2, 1) := by decide +kernel
theorem dL_law_271 : decode cL_law 271 = .ok (.iadd, 1) := by decide +kernel
theorem dL_law_272 : decode cL_law 272 = .ok (.iaload, 1) := by decide +kernel
theorem dL_law_273 : decode cL_law 273 = .ok (.invokevirtual 26, 3) := by decide +kernel
theorem dL_law_276 : decode cL_law 276 = .ok (.if_icmp .eq 868, 3) := by decide +kernel
theorem dL_law_279 : decode cL_law 279 = .ok (.iconst 0, 1) := by decide +kernel
theorem dL_law_280 : decode cL_law 280 = .ok (.ireturn, 1) := by decide +kernel
theorem dL_law_281 : decode cL_law 281 = .ok (.aload_n 1, 1) := by decide +kernel
theorem dL_law_282 : decode cL_law 282 = .ok (.aload_n 0, 1) := by decide +kernel
theorem dL_law_283 : decode cL_law 283 = .ok (.iload_n 3, 1) := by decide +kernel
theorem dL_law_284 : decode cL_law 284 = .ok (.iconst 1, 1) := by decide +kernel
theorem dL_law_285 : decode cL_law 285 = .ok (.iadd, 1) := by decide +kernel
theorem dL_law_286 : decode cL_law 286 = .ok (.iaload, 1) := by decide +kernel
theorem dL_law_287 : decode cL_law 287 = .ok (.aload_n 0, 1) := by decide +kernel
theorem dL_law_288 : decode cL_law 288 = .ok (.iload_n 3, 1) := by decide +kernel
theorem dL_law_289 : decode cL_law 289 = .ok (.iconst 2, 1) := by decide +kernel
theorem dL_law_290 : decode cL_law 290 = .ok (.iadd, 1) := by decide +kernel
theorem dL_law_291 : decode cL_law 291 = .ok (.iaload, 1) := by decide +kernel
theorem dL_law_292 : decode cL_law 292 = .ok (.ifCond .eq 7, 3) := by decide +kernel
theorem dL_law_295 : decode cL_law 295 = .ok (.iconst 1, 1) := by decide +kernel
theorem dL_law_296 : decode cL_law 296 = .ok (.goto 4, 3) := by decide +kernel
theorem dL_law_299 : decode cL_law 299 = .ok (.iconst 0, 1) := by decide +kernel
theorem dL_law_300 : decode cL_law 300 = .ok (.invokevirtual 27, 3) := by decide +kernel
theorem dL_law_303 : decode cL_law 303 = .ok (.aload_n 2, 1) := by decide +kernel
theorem dL_law_304 : decode cL_law 304 = .ok (.aload_n 0, 1) := by decide +kernel
theorem dL_law_305 : decode cL_law 305 = .ok (.iload_n 3, 1) := by decide +kernel
theorem dL_law_306 : decode cL_law 306 = .ok (.iconst 1, 1) := by decide +kernel
theorem dL_law_307 : decode cL_law 307 = .ok (.iadd, 1) := by decide +kernel
theorem dL_law_308 : decode cL_law 308 = .ok (.iaload, 1) := by decide +kernel
theorem dL_law_309 : decode cL_law 309 = .ok (.aload_n 0, 1) := by decide +kernel
theorem dL_law_310 : decode cL_law 310 = .ok (.iload_n 3, 1) := by decide +kernel
theorem dL_law_311 : decode cL_law 311 = .ok (.iconst 2, 1) := by decide +kernel
theorem dL_law_312 : decode cL_law 312 = .ok (.iadd, 1) := by decide +kernel
theorem dL_law_313 : decode cL_law 313 = .ok (.iaload, 1) := by decide +kernel
theorem dL_law_314 : decode cL_law 314 = .ok (.ifCond .eq 7, 3) := by decide +kernel
theorem dL_law_317 : decode cL_law 317 = .ok (.iconst 1, 1) := by decide +kernel
theorem dL_law_318 : decode cL_law 318 = .ok (.goto 4, 3) := by decide +kernel
theorem dL_law_321 : decode cL_law 321 = .ok (.iconst 0, 1) := by decide +kernel
theorem dL_law_322 : decode cL_law 322 = .ok (.invokevirtual 31, 3) := by decide +kernel
theorem dL_law_325 : decode cL_law 325 = .ok (.if_icmp .eq 819, 3) := by decide +kernel
theorem dL_law_328 : decode cL_law 328 = .ok (.iconst 0, 1) := by decide +kernel
theorem dL_law_329 : decode cL_law 329 = .ok (.ireturn, 1) := by decide +kernel
theorem dL_law_330 : decode cL_law 330 = .ok (.aload_n 1, 1) := by decide +kernel
theorem dL_law_331 : decode cL_law 331 = .ok (.aload_n 0, 1) := by decide +kernel
theorem dL_law_332 : decode cL_law 332 = .ok (.iload_n 3, 1) := by decide +kernel
theorem dL_law_333 : decode cL_law 333 = .ok (.iconst 1, 1) := by decide +kernel
theorem dL_law_334 : decode cL_law 334 = .ok (.iadd, 1) := by decide +kernel
theorem dL_law_335 : decode cL_law 335 = .ok (.iaload, 1) := by decide +kernel
theorem dL_law_336 : decode cL_law 336 = .ok (.aload_n 0, 1) := by decide +kernel
theorem dL_law_337 : decode cL_law 337 = .ok (.iload_n 3, 1) := by decide +kernel
theorem dL_law_338 : decode cL_law 338 = .ok (.iconst 2, 1) := by decide +kernel
theorem dL_law_339 : decode cL_law 339 = .ok (.iadd, 1) := by decide +kernel
theorem dL_law_340 : decode cL_law 340 = .ok (.iaload, 1) := by decide +kernel
theorem dL_law_341 : decode cL_law 341 = .ok (.aload_n 0, 1) := by decide +kernel
theorem dL_law_342 : decode cL_law 342 = .ok (.iload_n 3, 1) := by decide +kernel
theorem dL_law_343 : decode cL_law 343 = .ok (.iconst 3, 1) := by decide +kernel
theorem dL_law_344 : decode cL_law 344 = .ok (.iadd, 1) := by decide +kernel
theorem dL_law_345 : decode cL_law 345 = .ok (.iaload, 1) := by decide +kernel
theorem dL_law_346 : decode cL_law 346 = .ok (.invokevirtual 32, 3) := by decide +kernel
theorem dL_law_349 : decode cL_law 349 = .ok (.aload_n 2, 1) := by decide +kernel
theorem dL_law_350 : decode cL_law 350 = .ok (.aload_n 0, 1) := by decide +kernel
theorem dL_law_351 : decode cL_law 351 = .ok (.iload_n 3, 1) := by decide +kernel
theorem dL_law_352 : decode cL_law 352 = .ok (.iconst 1, 1) := by decide +kernel
theorem dL_law_353 : decode cL_law 353 = .ok (.iadd, 1) := by decide +kernel
theorem dL_law_354 : decode cL_law 354 = .ok (.iaload, 1) := by decide +kernel
theorem dL_law_355 : decode cL_law 355 = .ok (.aload_n 0, 1) := by decide +kernel
theorem dL_law_356 : decode cL_law 356 = .ok (.iload_n 3, 1) := by decide +kernel
theorem dL_law_357 : decode cL_law 357 = .ok (.iconst 2, 1) := by decide +kernel
theorem dL_law_358 : decode cL_law 358 = .ok (.iadd, 1) := by decide +kernel
theorem dL_law_359 : decode cL_law 359 = .ok (.iaload, 1) := by decide +kernel
theorem dL_law_360 : decode cL_law 360 = .ok (.aload_n 0, 1) := by decide +kernel
theorem dL_law_361 : decode cL_law 361 = .ok (.iload_n 3, 1) := by decide +kernel
theorem dL_law_362 : decode cL_law 362 = .ok (.iconst 3, 1) := by decide +kernel
theorem dL_law_363 : decode cL_law 363 = .ok (.iadd, 1) := by decide +kernel
theorem dL_law_364 : decode cL_law 364 = .ok (.iaload, 1) := by decide +kernel
theorem dL_law_365 : decode cL_law 365 = .ok (.invokevirtual 35, 3) := by decide +kernel
theorem dL_law_368 : decode cL_law 368 = .ok (.if_icmp .eq 776, 3) := by decide +kernel
theorem dL_law_371 : decode cL_law 371 = .ok (.iconst 0, 1) := by decide +kernel
theorem dL_law_372 : decode cL_law 372 = .ok (.ireturn, 1) := by decide +kernel
theorem dL_law_373 : decode cL_law 373 = .ok (.aload_n 1, 1) := by decide +kernel
theorem dL_law_374 : decode cL_law 374 = .ok (.aload_n 0, 1) := by decide +kernel
theorem dL_law_375 : decode cL_law 375 = .ok (.iload_n 3, 1) := by decide +kernel
theorem dL_law_376 : decode cL_law 376 = .ok (.iconst 1, 1) := by decide +kernel
theorem dL_law_377 : decode cL_law 377 = .ok (.iadd, 1) := by decide +kernel
theorem dL_law_378 : decode cL_law 378 = .ok (.iaload, 1) := by decide +kernel
theorem dL_law_379 : decode cL_law 379 = .ok (.invokevirtual 36, 3) := by decide +kernel
theorem dL_law_382 : decode cL_law 382 = .ok (.aload_n 2, 1) := by decide +kernel
theorem dL_law_383 : decode cL_law 383 = .ok (.aload_n 0, 1) := by decide +kernel
theorem dL_law_384 : decode cL_law 384 = .ok (.iload_n 3, 1) := by decide +kernel
theorem dL_law_385 : decode cL_law 385 = .ok (.iconst 1, 1) := by decide +kernel
theorem dL_law_386 : decode cL_law 386 = .ok (.iadd, 1) := by decide +kernel
theorem dL_law_387 : decode cL_law 387 = .ok (.iaload, 1) := by decide +kernel
theorem dL_law_388 : decode cL_law 388 = .ok (.invokevirtual 40, 3) := by decide +kernel
theorem dL_law_391 : decode cL_law 391 = .ok (.if_icmp .eq 753, 3) := by decide +kernel
theorem dL_law_394 : decode cL_law 394 = .ok (.iconst 0, 1) := by decide +kernel
theorem dL_law_395 : decode cL_law 395 = .ok (.ireturn, 1) := by decide +kernel
theorem dL_law_396 : decode cL_law 396 = .ok (.aload_n 1, 1) := by decide +kernel
theorem dL_law_397 : decode cL_law 397 = .ok (.invokevirtual 41, 3) := by decide +kernel
theorem dL_law_400 : decode cL_law 400 = .ok (.aload_n 2, 1) := by decide +kernel
theorem dL_law_401 : decode cL_law 401 = .ok (.invokevirtual 45, 3) := by decide +kernel
theorem dL_law_404 : decode cL_law 404 = .ok (.if_icmp .eq 740, 3) := by decide +kernel
theorem dL_law_407 : decode cL_law 407 = .ok (.iconst 0, 1) := by decide +kernel
theorem dL_law_408 : decode cL_law 408 = .ok (.ireturn, 1) := by decide +kernel
theorem dL_law_409 : decode cL_law 409 = .ok (.aload_n 1, 1) := by decide +kernel
theorem dL_law_410 : decode cL_law 410 = .ok (.aload_n 0, 1) := by decide +kernel
theorem dL_law_411 : decode cL_law 411 = .ok (.iload_n 3, 1) := by decide +kernel
theorem dL_law_412 : decode cL_law 412 = .ok (.iconst 1, 1) := by decide +kernel
theorem dL_law_413 : decode cL_law 413 = .ok (.iadd, 1) := by decide +kernel
theorem dL_law_414 : decode cL_law 414 = .ok (.iaload, 1) := by decide +kernel
theorem dL_law_415 : decode cL_law 415 = .ok (.aload_n 0, 1) := by decide +kernel
theorem dL_law_416 : decode cL_law 416 = .ok (.iload_n 3, 1) := by decide +kernel
theorem dL_law_417 : decode cL_law 417 = .ok (.iconst 2, 1) := by decide +kernel
theorem dL_law_418 : decode cL_law 418 = .ok (.iadd, 1) := by decide +kernel
theorem dL_law_419 : decode cL_law 419 = .ok (.iaload, 1) := by decide +kernel
theorem dL_law_420 : decode cL_law 420 = .ok (.invokevirtual 46, 3) := by decide +kernel
theorem dL_law_423 : decode cL_law 423 = .ok (.aload_n 2, 1) := by decide +kernel
theorem dL_law_424 : decode cL_law 424 = .ok (.aload_n 0, 1) := by decide +kernel
theorem dL_law_425 : decode cL_law 425 = .ok (.iload_n 3, 1) := by decide +kernel
theorem dL_law_426 : decode cL_law 426 = .ok (.iconst 1, 1) := by decide +kernel
theorem dL_law_427 : decode cL_law 427 = .ok (.iadd, 1) := by decide +kernel
theorem dL_law_428 : decode cL_law 428 = .ok (.iaload, 1) := by decide +kernel
theorem dL_law_429 : decode cL_law 429 = .ok (.aload_n 0, 1) := by decide +kernel
theorem dL_law_430 : decode cL_law 430 = .ok (.iload_n 3, 1) := by decide +kernel
theorem dL_law_431 : decode cL_law 431 = .ok (.iconst 2, 1) := by decide +kernel
theorem dL_law_432 : decode cL_law 432 = .ok (.iadd, 1) := by decide +kernel
theorem dL_law_433 : decode cL_law 433 = .ok (.iaload, 1) := by decide +kernel
theorem dL_law_434 : decode cL_law 434 = .ok (.invokevirtual 49, 3) := by decide +kernel
theorem dL_law_437 : decode cL_law 437 = .ok (.if_icmp .eq 707, 3) := by decide +kernel
theorem dL_law_440 : decode cL_law 440 = .ok (.iconst 0, 1) := by decide +kernel
theorem dL_law_441 : decode cL_law 441 = .ok (.ireturn, 1) := by decide +kernel
theorem dL_law_442 : decode cL_law 442 = .ok (.aload_n 1, 1) := by decide +kernel
theorem dL_law_443 : decode cL_law 443 = .ok (.aload_n 0, 1) := by decide +kernel
theorem dL_law_444 : decode cL_law 444 = .ok (.iload_n 3, 1) := by decide +kernel
theorem dL_law_445 : decode cL_law 445 = .ok (.iconst 1, 1) := by decide +kernel
theorem dL_law_446 : decode cL_law 446 = .ok (.iadd, 1) := by decide +kernel
theorem dL_law_447 : decode cL_law 447 = .ok (.iaload, 1) := by decide +kernel
theorem dL_law_448 : decode cL_law 448 = .ok (.aload_n 0, 1) := by decide +kernel
theorem dL_law_449 : decode cL_law 449 = .ok (.iload_n 3, 1) := by decide +kernel
theorem dL_law_450 : decode cL_law 450 = .ok (.iconst 2, 1) := by decide +kernel
theorem dL_law_451 : decode cL_law 451 = .ok (.iadd, 1) := by decide +kernel
theorem dL_law_452 : decode cL_law 452 = .ok (.iaload, 1) := by decide +kernel
theorem dL_law_453 : decode cL_law 453 = .ok (.invokevirtual 50, 3) := by decide +kernel
theorem dL_law_456 : decode cL_law 456 = .ok (.aload_n 2, 1) := by decide +kernel
theorem dL_law_457 : decode cL_law 457 = .ok (.aload_n 0, 1) := by decide +kernel
theorem dL_law_458 : decode cL_law 458 = .ok (.iload_n 3, 1) := by decide +kernel
theorem dL_law_459 : decode cL_law 459 = .ok (.iconst 1, 1) := by decide +kernel
theorem dL_law_460 : decode cL_law 460 = .ok (.iadd, 1) := by decide +kernel
theorem dL_law_461 : decode cL_law 461 = .ok (.iaload, 1) := by decide +kernel
theorem dL_law_462 : decode cL_law 462 = .ok (.aload_n 0, 1) := by decide +kernel
theorem dL_law_463 : decode cL_law 463 = .ok (.iload_n 3, 1) := by decide +kernel
theorem dL_law_464 : decode cL_law 464 = .ok (.iconst 2, 1) := by decide +kernel
theorem dL_law_465 : decode cL_law 465 = .ok (.iadd, 1) := by decide +kernel
theorem dL_law_466 : decode cL_law 466 = .ok (.iaload, 1) := by decide +kernel
theorem dL_law_467 : decode cL_law 467 = .ok (.invokevirtual 53, 3) := by decide +kernel
theorem dL_law_470 : decode cL_law 470 = .ok (.if_icmp .eq 674, 3) := by decide +kernel
theorem dL_law_473 : decode cL_law 473 = .ok (.iconst 0, 1) := by decide +kernel
theorem dL_law_474 : decode cL_law 474 = .ok (.ireturn, 1) := by decide +kernel
theorem dL_law_475 : decode cL_law 475 = .ok (.aload_n 1, 1) := by decide +kernel
theorem dL_law_476 : decode cL_law 476 = .ok (.aload_n 0, 1) := by decide +kernel
theorem dL_law_477 : decode cL_law 477 = .ok (.iload_n 3, 1) := by decide +kernel
theorem dL_law_478 : decode cL_law 478 = .ok (.iconst 1, 1) := by decide +kernel
theorem dL_law_479 : decode cL_law 479 = .ok (.iadd, 1) := by decide +kernel
theorem dL_law_480 : decode cL_law 480 = .ok (.iaload, 1) := by decide +kernel
theorem dL_law_481 : decode cL_law 481 = .ok (.aload_n 0, 1) := by decide +kernel
theorem dL_law_482 : decode cL_law 482 = .ok (.iload_n 3, 1) := by decide +kernel
theorem dL_law_483 : decode cL_law 483 = .ok (.iconst 2, 1) := by decide +kernel
theorem dL_law_484 : decode cL_law 484 = .ok (.iadd, 1) := by decide +kernel
theorem dL_law_485 : decode cL_law 485 = .ok (.iaload, 1) := by decide +kernel
theorem dL_law_486 : decode cL_law 486 = .ok (.invokevirtual 54, 3) := by decide +kernel
theorem dL_law_489 : decode cL_law 489 = .ok (.aload_n 2, 1) := by decide +kernel
theorem dL_law_490 : decode cL_law 490 = .ok (.aload_n 0, 1) := by decide +kernel
theorem dL_law_491 : decode cL_law 491 = .ok (.iload_n 3, 1) := by decide +kernel
theorem dL_law_492 : decode cL_law 492 = .ok (.iconst 1, 1) := by decide +kernel
theorem dL_law_493 : decode cL_law 493 = .ok (.iadd, 1) := by decide +kernel
theorem dL_law_494 : decode cL_law 494 = .ok (.iaload, 1) := by decide +kernel
theorem dL_law_495 : decode cL_law 495 = .ok (.aload_n 0, 1) := by decide +kernel
theorem dL_law_496 : decode cL_law 496 = .ok (.iload_n 3, 1) := by decide +kernel
theorem dL_law_497 : decode cL_law 497 = .ok (.iconst 2, 1) := by decide +kernel
theorem dL_law_498 : decode cL_law 498 = .ok (.iadd, 1) := by decide +kernel
theorem dL_law_499 : decode cL_law 499 = .ok (.iaload, 1) := by decide +kernel
theorem dL_law_500 : decode cL_law 500 = .ok (.invokevirtual 57, 3) := by decide +kernel
theorem dL_law_503 : decode cL_law 503 = .ok (.if_icmp .eq 641, 3) := by decide +kernel
theorem dL_law_506 : decode cL_law 506 = .ok (.iconst 0, 1) := by decide +kernel
theorem dL_law_507 : decode cL_law 507 = .ok (.ireturn, 1) := by decide +kernel
theorem dL_law_508 : decode cL_law 508 = .ok (.aload_n 1, 1) := by decide +kernel
theorem dL_law_509 : decode cL_law 509 = .ok (.invokevirtual 58, 3) := by decide +kernel
theorem dL_law_512 : decode cL_law 512 = .ok (.aload_n 2, 1) := by decide +kernel
theorem dL_law_513 : decode cL_law 513 = .ok (.invokevirtual 61, 3) := by decide +kernel
theorem dL_law_516 : decode cL_law 516 = .ok (.if_icmp .eq 628, 3) := by decide +kernel
theorem dL_law_519 : decode cL_law 519 = .ok (.iconst 0, 1) := by decide +kernel
theorem dL_law_520 : decode cL_law 520 = .ok (.ireturn, 1) := by decide +kernel
theorem dL_law_521 : decode cL_law 521 = .ok (.aload_n 1, 1) := by decide +kernel
theorem dL_law_522 : decode cL_law 522 = .ok (.aload_n 0, 1) := by decide +kernel
theorem dL_law_523 : decode cL_law 523 = .ok (.iload_n 3, 1) := by decide +kernel
theorem dL_law_524 : decode cL_law 524 = .ok (.iconst 1, 1) := by decide +kernel
theorem dL_law_525 : decode cL_law 525 = .ok (.iadd, 1) := by decide +kernel
theorem dL_law_526 : decode cL_law 526 = .ok (.iaload, 1) := by decide +kernel
theorem dL_law_527 : decode cL_law 527 = .ok (.aload_n 0, 1) := by decide +kernel
theorem dL_law_528 : decode cL_law 528 = .ok (.iload_n 3, 1) := by decide +kernel
theorem dL_law_529 : decode cL_law 529 = .ok (.iconst 2, 1) := by decide +kernel
theorem dL_law_530 : decode cL_law 530 = .ok (.iadd, 1) := by decide +kernel
theorem dL_law_531 : decode cL_law 531 = .ok (.iaload, 1) := by decide +kernel
theorem dL_law_532 : decode cL_law 532 = .ok (.invokevirtual 62, 3) := by decide +kernel
theorem dL_law_535 : decode cL_law 535 = .ok (.aload_n 2, 1) := by decide +kernel
theorem dL_law_536 : decode cL_law 536 = .ok (.aload_n 0, 1) := by decide +kernel
theorem dL_law_537 : decode cL_law 537 = .ok (.iload_n 3, 1) := by decide +kernel
theorem dL_law_538 : decode cL_law 538 = .ok (.iconst 1, 1) := by decide +kernel
theorem dL_law_539 : decode cL_law 539 = .ok (.iadd, 1) := by decide +kernel
theorem dL_law_540 : decode cL_law 540 = .ok (.iaload, 1) := by decide +kernel
theorem dL_law_541 : decode cL_law 541 = .ok (.aload_n 0, 1) := by decide +kernel
theorem dL_law_542 : decode cL_law 542 = .ok (.iload_n 3, 1) := by decide +kernel
theorem dL_law_543 : decode cL_law 543 = .ok (.iconst 2, 1) := by decide +kernel
theorem dL_law_544 : decode cL_law 544 = .ok (.iadd, 1) := by decide +kernel
theorem dL_law_545 : decode cL_law 545 = .ok (.iaload, 1) := by decide +kernel
theorem dL_law_546 : decode cL_law 546 = .ok (.invokevirtual 65, 3) := by decide +kernel
theorem dL_law_549 : decode cL_law 549 = .ok (.if_icmp .eq 595, 3) := by decide +kernel
theorem dL_law_552 : decode cL_law 552 = .ok (.iconst 0, 1) := by decide +kernel
theorem dL_law_553 : decode cL_law 553 = .ok (.ireturn, 1) := by decide +kernel
theorem dL_law_554 : decode cL_law 554 = .ok (.aload_n 1, 1) := by decide +kernel
theorem dL_law_555 : decode cL_law 555 = .ok (.aload_n 0, 1) := by decide +kernel
theorem dL_law_556 : decode cL_law 556 = .ok (.iload_n 3, 1) := by decide +kernel
theorem dL_law_557 : decode cL_law 557 = .ok (.iconst 1, 1) := by decide +kernel
theorem dL_law_558 : decode cL_law 558 = .ok (.iadd, 1) := by decide +kernel
theorem dL_law_559 : decode cL_law 559 = .ok (.iaload, 1) := by decide +kernel
theorem dL_law_560 : decode cL_law 560 = .ok (.invokevirtual 66, 3) := by decide +kernel
theorem dL_law_563 : decode cL_law 563 = .ok (.aload_n 2, 1) := by decide +kernel
theorem dL_law_564 : decode cL_law 564 = .ok (.aload_n 0, 1) := by decide +kernel
theorem dL_law_565 : decode cL_law 565 = .ok (.iload_n 3, 1) := by decide +kernel
theorem dL_law_566 : decode cL_law 566 = .ok (.iconst 1, 1) := by decide +kernel
theorem dL_law_567 : decode cL_law 567 = .ok (.iadd, 1) := by decide +kernel
theorem dL_law_568 : decode cL_law 568 = .ok (.iaload, 1) := by decide +kernel
theorem dL_law_569 : decode cL_law 569 = .ok (.invokevirtual 69, 3) := by decide +kernel
theorem dL_law_572 : decode cL_law 572 = .ok (.if_icmp .eq 572, 3) := by decide +kernel
theorem dL_law_575 : decode cL_law 575 = .ok (.iconst 0, 1) := by decide +kernel
theorem dL_law_576 : decode cL_law 576 = .ok (.ireturn, 1) := by decide +kernel
theorem dL_law_577 : decode cL_law 577 = .ok (.aload_n 1, 1) := by decide +kernel
theorem dL_law_578 : decode cL_law 578 = .ok (.aload_n 0, 1) := by decide +kernel
theorem dL_law_579 : decode cL_law 579 = .ok (.iload_n 3, 1) := by decide +kernel
theorem dL_law_580 : decode cL_law 580 = .ok (.iconst 1, 1) := by decide +kernel
theorem dL_law_581 : decode cL_law 581 = .ok (.iadd, 1) := by decide +kernel
theorem dL_law_582 : decode cL_law 582 = .ok (.iaload, 1) := by decide +kernel
theorem dL_law_583 : decode cL_law 583 = .ok (.invokevirtual 70, 3) := by decide +kernel
theorem dL_law_586 : decode cL_law 586 = .ok (.aload_n 2, 1) := by decide +kernel
theorem dL_law_587 : decode cL_law 587 = .ok (.aload_n 0, 1) := by decide +kernel
theorem dL_law_588 : decode cL_law 588 = .ok (.iload_n 3, 1) := by decide +kernel
theorem dL_law_589 : decode cL_law 589 = .ok (.iconst 1, 1) := by decide +kernel
theorem dL_law_590 : decode cL_law 590 = .ok (.iadd, 1) := by decide +kernel
theorem dL_law_591 : decode cL_law 591 = .ok (.iaload, 1) := by decide +kernel
theorem dL_law_592 : decode cL_law 592 = .ok (.invokevirtual 73, 3) := by decide +kernel
theorem dL_law_595 : decode cL_law 595 = .ok (.if_icmp .eq 549, 3) := by decide +kernel
theorem dL_law_598 : decode cL_law 598 = .ok (.iconst 0, 1) := by decide +kernel
theorem dL_law_599 : decode cL_law 599 = .ok (.ireturn, 1) := by decide +kernel
theorem dL_law_600 : decode cL_law 600 = .ok (.aload_n 1, 1) := by decide +kernel
theorem dL_law_601 : decode cL_law 601 = .ok (.aload_n 0, 1) := by decide +kernel
theorem dL_law_602 : decode cL_law 602 = .ok (.iload_n 3, 1) := by decide +kernel
theorem dL_law_603 : decode cL_law 603 = .ok (.iconst 1, 1) := by decide +kernel
theorem dL_law_604 : decode cL_law 604 = .ok (.iadd, 1) := by decide +kernel
theorem dL_law_605 : decode cL_law 605 = .ok (.iaload, 1) := by decide +kernel
theorem dL_law_606 : decode cL_law 606 = .ok (.invokevirtual 74, 3) := by decide +kernel
theorem dL_law_609 : decode cL_law 609 = .ok (.aload_n 2, 1) := by decide +kernel
theorem dL_law_610 : decode cL_law 610 = .ok (.aload_n 0, 1) := by decide +kernel
theorem dL_law_611 : decode cL_law 611 = .ok (.iload_n 3, 1) := by decide +kernel
theorem dL_law_612 : decode cL_law 612 = .ok (.iconst 1, 1) := by decide +kernel
theorem dL_law_613 : decode cL_law 613 = .ok (.iadd, 1) := by decide +kernel
theorem dL_law_614 : decode cL_law 614 = .ok (.iaload, 1) := by decide +kernel
theorem dL_law_615 : decode cL_law 615 = .ok (.invokevirtual 77, 3) := by decide +kernel
theorem dL_law_618 : decode cL_law 618 = .ok (.if_icmp .eq 526, 3) := by decide +kernel
theorem dL_law_621 : decode cL_law 621 = .ok (.iconst 0, 1) := by decide +kernel
theorem dL_law_622 : decode cL_law 622 = .ok (.ireturn, 1) := by decide +kernel
theorem dL_law_623 : decode cL_law 623 = .ok (.aload_n 1, 1) := by decide +kernel
theorem dL_law_624 : decode cL_law 624 = .ok (.aload_n 0, 1) := by decide +kernel
theorem dL_law_625 : decode cL_law 625 = .ok (.iload_n 3, 1) := by decide +kernel
theorem dL_law_626 : decode cL_law 626 = .ok (.iconst 1, 1) := by decide +kernel
theorem dL_law_627 : decode cL_law 627 = .ok (.iadd, 1) := by decide +kernel
theorem dL_law_628 : decode cL_law 628 = .ok (.iaload, 1) := by decide +kernel
theorem dL_law_629 : decode cL_law 629 = .ok (.aload_n 0, 1) := by decide +kernel
theorem dL_law_630 : decode cL_law 630 = .ok (.iload_n 3, 1) := by decide +kernel
theorem dL_law_631 : decode cL_law 631 = .ok (.iconst 2, 1) := by decide +kernel
theorem dL_law_632 : decode cL_law 632 = .ok (.iadd, 1) := by decide +kernel
theorem dL_law_633 : decode cL_law 633 = .ok (.iaload, 1) := by decide +kernel
theorem dL_law_634 : decode cL_law 634 = .ok (.invokevirtual 78, 3) := by decide +kernel
theorem dL_law_637 : decode cL_law 637 = .ok (.aload_n 2, 1) := by decide +kernel
theorem dL_law_638 : decode cL_law 638 = .ok (.aload_n 0, 1) := by decide +kernel
theorem dL_law_639 : decode cL_law 639 = .ok (.iload_n 3, 1) := by decide +kernel
theorem dL_law_640 : decode cL_law 640 = .ok (.iconst 1, 1) := by decide +kernel
theorem dL_law_641 : decode cL_law 641 = .ok (.iadd, 1) := by decide +kernel
theorem dL_law_642 : decode cL_law 642 = .ok (.iaload, 1) := by decide +kernel
theorem dL_law_643 : decode cL_law 643 = .ok (.aload_n 0, 1) := by decide +kernel
theorem dL_law_644 : decode cL_law 644 = .ok (.iload_n 3, 1) := by decide +kernel
theorem dL_law_645 : decode cL_law 645 = .ok (.iconst 2, 1) := by decide +kernel
theorem dL_law_646 : decode cL_law 646 = .ok (.iadd, 1) := by decide +kernel
theorem dL_law_647 : decode cL_law 647 = .ok (.iaload, 1) := by decide +kernel
theorem dL_law_648 : decode cL_law 648 = .ok (.invokevirtual 81, 3) := by decide +kernel
theorem dL_law_651 : decode cL_law 651 = .ok (.if_icmp .eq 493, 3) := by decide +kernel
theorem dL_law_654 : decode cL_law 654 = .ok (.iconst 0, 1) := by decide +kernel
theorem dL_law_655 : decode cL_law 655 = .ok (.ireturn, 1) := by decide +kernel
theorem dL_law_656 : decode cL_law 656 = .ok (.aload_n 1, 1) := by decide +kernel
theorem dL_law_657 : decode cL_law 657 = .ok (.aload_n 0, 1) := by decide +kernel
theorem dL_law_658 : decode cL_law 658 = .ok (.iload_n 3, 1) := by decide +kernel
theorem dL_law_659 : decode cL_law 659 = .ok (.iconst 1, 1) := by decide +kernel
theorem dL_law_660 : decode cL_law 660 = .ok (.iadd, 1) := by decide +kernel
theorem dL_law_661 : decode cL_law 661 = .ok (.iaload, 1) := by decide +kernel
theorem dL_law_662 : decode cL_law 662 = .ok (.aload_n 0, 1) := by decide +kernel
theorem dL_law_663 : decode cL_law 663 = .ok (.iload_n 3, 1) := by decide +kernel
theorem dL_law_664 : decode cL_law 664 = .ok (.iconst 2, 1) := by decide +kernel
theorem dL_law_665 : decode cL_law 665 = .ok (.iadd, 1) := by decide +kernel
theorem dL_law_666 : decode cL_law 666 = .ok (.iaload, 1) := by decide +kernel
theorem dL_law_667 : decode cL_law 667 = .ok (.invokevirtual 82, 3) := by decide +kernel
theorem dL_law_670 : decode cL_law 670 = .ok (.aload_n 2, 1) := by decide +kernel
theorem dL_law_671 : decode cL_law 671 = .ok (.aload_n 0, 1) := by decide +kernel
theorem dL_law_672 : decode cL_law 672 = .ok (.iload_n 3, 1) := by decide +kernel
theorem dL_law_673 : decode cL_law 673 = .ok (.iconst 1, 1) := by decide +kernel
theorem dL_law_674 : decode cL_law 674 = .ok (.iadd, 1) := by decide +kernel
theorem dL_law_675 : decode cL_law 675 = .ok (.iaload, 1) := by decide +kernel
theorem dL_law_676 : decode cL_law 676 = .ok (.aload_n 0, 1) := by decide +kernel
theorem dL_law_677 : decode cL_law 677 = .ok (.iload_n 3, 1) := by decide +kernel
theorem dL_law_678 : decode cL_law 678 = .ok (.iconst 2, 1) := by decide +kernel
theorem dL_law_679 : decode cL_law 679 = .ok (.iadd, 1) := by decide +kernel
theorem dL_law_680 : decode cL_law 680 = .ok (.iaload, 1) := by decide +kernel
theorem dL_law_681 : decode cL_law 681 = .ok (.invokevirtual 85, 3) := by decide +kernel
theorem dL_law_684 : decode cL_law 684 = .ok (.if_icmp .eq 460, 3) := by decide +kernel
theorem dL_law_687 : decode cL_law 687 = .ok (.iconst 0, 1) := by decide +kernel
theorem dL_law_688 : decode cL_law 688 = .ok (.ireturn, 1) := by decide +kernel
theorem dL_law_689 : decode cL_law 689 = .ok (.aload_n 1, 1) := by decide +kernel
theorem dL_law_690 : decode cL_law 690 = .ok (.aload_n 0, 1) := by decide +kernel
theorem dL_law_691 : decode cL_law 691 = .ok (.iload_n 3, 1) := by decide +kernel
theorem dL_law_692 : decode cL_law 692 = .ok (.iconst 1, 1) := by decide +kernel
theorem dL_law_693 : decode cL_law 693 = .ok (.iadd, 1) := by decide +kernel
theorem dL_law_694 : decode cL_law 694 = .ok (.iaload, 1) := by decide +kernel
theorem dL_law_695 : decode cL_law 695 = .ok (.aload_n 0, 1) := by decide +kernel
theorem dL_law_696 : decode cL_law 696 = .ok (.iload_n 3, 1) := by decide +kernel
theorem dL_law_697 : decode cL_law 697 = .ok (.iconst 2, 1) := by decide +kernel
theorem dL_law_698 : decode cL_law 698 = .ok (.iadd, 1) := by decide +kernel
theorem dL_law_699 : decode cL_law 699 = .ok (.iaload, 1) := by decide +kernel
theorem dL_law_700 : decode cL_law 700 = .ok (.invokevirtual 86, 3) := by decide +kernel
theorem dL_law_703 : decode cL_law 703 = .ok (.aload_n 2, 1) := by decide +kernel
theorem dL_law_704 : decode cL_law 704 = .ok (.aload_n 0, 1) := by decide +kernel
theorem dL_law_705 : decode cL_law 705 = .ok (.iload_n 3, 1) := by decide +kernel
theorem dL_law_706 : decode cL_law 706 = .ok (.iconst 1, 1) := by decide +kernel
theorem dL_law_707 : decode cL_law 707 = .ok (.iadd, 1) := by decide +kernel
theorem dL_law_708 : decode cL_law 708 = .ok (.iaload, 1) := by decide +kernel
theorem dL_law_709 : decode cL_law 709 = .ok (.aload_n 0, 1) := by decide +kernel
theorem dL_law_710 : decode cL_law 710 = .ok (.iload_n 3, 1) := by decide +kernel
theorem dL_law_711 : decode cL_law 711 = .ok (.iconst 2, 1) := by decide +kernel
theorem dL_law_712 : decode cL_law 712 = .ok (.iadd, 1) := by decide +kernel
theorem dL_law_713 : decode cL_law 713 = .ok (.iaload, 1) := by decide +kernel
theorem dL_law_714 : decode cL_law 714 = .ok (.invokevirtual 90, 3) := by decide +kernel
theorem dL_law_717 : decode cL_law 717 = .ok (.lcmp, 1) := by decide +kernel
theorem dL_law_718 : decode cL_law 718 = .ok (.ifCond .eq 426, 3) := by decide +kernel
theorem dL_law_721 : decode cL_law 721 = .ok (.iconst 0, 1) := by decide +kernel
theorem dL_law_722 : decode cL_law 722 = .ok (.ireturn, 1) := by decide +kernel
theorem dL_law_723 : decode cL_law 723 = .ok (.aload_n 1, 1) := by decide +kernel
theorem dL_law_724 : decode cL_law 724 = .ok (.aload_n 0, 1) := by decide +kernel
theorem dL_law_725 : decode cL_law 725 = .ok (.iload_n 3, 1) := by decide +kernel
theorem dL_law_726 : decode cL_law 726 = .ok (.iconst 1, 1) := by decide +kernel
theorem dL_law_727 : decode cL_law 727 = .ok (.iadd, 1) := by decide +kernel
theorem dL_law_728 : decode cL_law 728 = .ok (.iaload, 1) := by decide +kernel
theorem dL_law_729 : decode cL_law 729 = .ok (.invokevirtual 91, 3) := by decide +kernel
theorem dL_law_732 : decode cL_law 732 = .ok (.aload_n 2, 1) := by decide +kernel
theorem dL_law_733 : decode cL_law 733 = .ok (.aload_n 0, 1) := by decide +kernel
theorem dL_law_734 : decode cL_law 734 = .ok (.iload_n 3, 1) := by decide +kernel
theorem dL_law_735 : decode cL_law 735 = .ok (.iconst 1, 1) := by decide +kernel
theorem dL_law_736 : decode cL_law 736 = .ok (.iadd, 1) := by decide +kernel
theorem dL_law_737 : decode cL_law 737 = .ok (.iaload, 1) := by decide +kernel
theorem dL_law_738 : decode cL_law 738 = .ok (.invokevirtual 95, 3) := by decide +kernel
theorem dL_law_741 : decode cL_law 741 = .ok (.lcmp, 1) := by decide +kernel
theorem dL_law_742 : decode cL_law 742 = .ok (.ifCond .eq 402, 3) := by decide +kernel
theorem dL_law_745 : decode cL_law 745 = .ok (.iconst 0, 1) := by decide +kernel
theorem dL_law_746 : decode cL_law 746 = .ok (.ireturn, 1) := by decide +kernel
theorem dL_law_747 : decode cL_law 747 = .ok (.aload_n 1, 1) := by decide +kernel
theorem dL_law_748 : decode cL_law 748 = .ok (.aload_n 0, 1) := by decide +kernel
theorem dL_law_749 : decode cL_law 749 = .ok (.iload_n 3, 1) := by decide +kernel
theorem dL_law_750 : decode cL_law 750 = .ok (.iconst 1, 1) := by decide +kernel
theorem dL_law_751 : decode cL_law 751 = .ok (.iadd, 1) := by decide +kernel
theorem dL_law_752 : decode cL_law 752 = .ok (.iaload, 1) := by decide +kernel
theorem dL_law_753 : decode cL_law 753 = .ok (.aload_n 0, 1) := by decide +kernel
theorem dL_law_754 : decode cL_law 754 = .ok (.iload_n 3, 1) := by decide +kernel
theorem dL_law_755 : decode cL_law 755 = .ok (.iconst 2, 1) := by decide +kernel
theorem dL_law_756 : decode cL_law 756 = .ok (.iadd, 1) := by decide +kernel
theorem dL_law_757 : decode cL_law 757 = .ok (.iaload, 1) := by decide +kernel
theorem dL_law_758 : decode cL_law 758 = .ok (.invokevirtual 96, 3) := by decide +kernel
theorem dL_law_761 : decode cL_law 761 = .ok (.aload_n 2, 1) := by decide +kernel
theorem dL_law_762 : decode cL_law 762 = .ok (.aload_n 0, 1) := by decide +kernel
theorem dL_law_763 : decode cL_law 763 = .ok (.iload_n 3, 1) := by decide +kernel
theorem dL_law_764 : decode cL_law 764 = .ok (.iconst 1, 1) := by decide +kernel
theorem dL_law_765 : decode cL_law 765 = .ok (.iadd, 1) := by decide +kernel
theorem dL_law_766 : decode cL_law 766 = .ok (.iaload, 1) := by decide +kernel
theorem dL_law_767 : decode cL_law 767 = .ok (.aload_n 0, 1) := by decide +kernel
theorem dL_law_768 : decode cL_law 768 = .ok (.iload_n 3, 1) := by decide +kernel
theorem dL_law_769 : decode cL_law 769 = .ok (.iconst 2, 1) := by decide +kernel
theorem dL_law_770 : decode cL_law 770 = .ok (.iadd, 1) := by decide +kernel
theorem dL_law_771 : decode cL_law 771 = .ok (.iaload, 1) := by decide +kernel
theorem dL_law_772 : decode cL_law 772 = .ok (.invokevirtual 99, 3) := by decide +kernel
theorem dL_law_775 : decode cL_law 775 = .ok (.if_icmp .eq 369, 3) := by decide +kernel
theorem dL_law_778 : decode cL_law 778 = .ok (.iconst 0, 1) := by decide +kernel
theorem dL_law_779 : decode cL_law 779 = .ok (.ireturn, 1) := by decide +kernel
theorem dL_law_780 : decode cL_law 780 = .ok (.aload_n 1, 1) := by decide +kernel
theorem dL_law_781 : decode cL_law 781 = .ok (.aload_n 0, 1) := by decide +kernel
theorem dL_law_782 : decode cL_law 782 = .ok (.iload_n 3, 1) := by decide +kernel
theorem dL_law_783 : decode cL_law 783 = .ok (.iconst 1, 1) := by decide +kernel
theorem dL_law_784 : decode cL_law 784 = .ok (.iadd, 1) := by decide +kernel
theorem dL_law_785 : decode cL_law 785 = .ok (.iaload, 1) := by decide +kernel
theorem dL_law_786 : decode cL_law 786 = .ok (.invokevirtual 100, 3) := by decide +kernel
theorem dL_law_789 : decode cL_law 789 = .ok (.aload_n 2, 1) := by decide +kernel
theorem dL_law_790 : decode cL_law 790 = .ok (.aload_n 0, 1) := by decide +kernel
theorem dL_law_791 : decode cL_law 791 = .ok (.iload_n 3, 1) := by decide +kernel
theorem dL_law_792 : decode cL_law 792 = .ok (.iconst 1, 1) := by decide +kernel
theorem dL_law_793 : decode cL_law 793 = .ok (.iadd, 1) := by decide +kernel
theorem dL_law_794 : decode cL_law 794 = .ok (.iaload, 1) := by decide +kernel
theorem dL_law_795 : decode cL_law 795 = .ok (.invokevirtual 103, 3) := by decide +kernel
theorem dL_law_798 : decode cL_law 798 = .ok (.if_icmp .eq 346, 3) := by decide +kernel
theorem dL_law_801 : decode cL_law 801 = .ok (.iconst 0, 1) := by decide +kernel
theorem dL_law_802 : decode cL_law 802 = .ok (.ireturn, 1) := by decide +kernel
theorem dL_law_803 : decode cL_law 803 = .ok (.aload_n 1, 1) := by decide +kernel
theorem dL_law_804 : decode cL_law 804 = .ok (.aload_n 0, 1) := by decide +kernel
theorem dL_law_805 : decode cL_law 805 = .ok (.iload_n 3, 1) := by decide +kernel
theorem dL_law_806 : decode cL_law 806 = .ok (.iconst 1, 1) := by decide +kernel
theorem dL_law_807 : decode cL_law 807 = .ok (.iadd, 1) := by decide +kernel
theorem dL_law_808 : decode cL_law 808 = .ok (.iaload, 1) := by decide +kernel
theorem dL_law_809 : decode cL_law 809 = .ok (.aload_n 0, 1) := by decide +kernel
theorem dL_law_810 : decode cL_law 810 = .ok (.iload_n 3, 1) := by decide +kernel
theorem dL_law_811 : decode cL_law 811 = .ok (.iconst 2, 1) := by decide +kernel
theorem dL_law_812 : decode cL_law 812 = .ok (.iadd, 1) := by decide +kernel
theorem dL_law_813 : decode cL_law 813 = .ok (.iaload, 1) := by decide +kernel
theorem dL_law_814 : decode cL_law 814 = .ok (.invokevirtual 104, 3) := by decide +kernel
theorem dL_law_817 : decode cL_law 817 = .ok (.aload_n 2, 1) := by decide +kernel
theorem dL_law_818 : decode cL_law 818 = .ok (.aload_n 0, 1) := by decide +kernel
theorem dL_law_819 : decode cL_law 819 = .ok (.iload_n 3, 1) := by decide +kernel
theorem dL_law_820 : decode cL_law 820 = .ok (.iconst 1, 1) := by decide +kernel
theorem dL_law_821 : decode cL_law 821 = .ok (.iadd, 1) := by decide +kernel
theorem dL_law_822 : decode cL_law 822 = .ok (.iaload, 1) := by decide +kernel
theorem dL_law_823 : decode cL_law 823 = .ok (.aload_n 0, 1) := by decide +kernel
theorem dL_law_824 : decode cL_law 824 = .ok (.iload_n 3, 1) := by decide +kernel
theorem dL_law_825 : decode cL_law 825 = .ok (.iconst 2, 1) := by decide +kernel
theorem dL_law_826 : decode cL_law 826 = .ok (.iadd, 1) := by decide +kernel
theorem dL_law_827 : decode cL_law 827 = .ok (.iaload, 1) := by decide +kernel
theorem dL_law_828 : decode cL_law 828 = .ok (.invokevirtual 107, 3) := by decide +kernel
theorem dL_law_831 : decode cL_law 831 = .ok (.if_icmp .eq 313, 3) := by decide +kernel
theorem dL_law_834 : decode cL_law 834 = .ok (.iconst 0, 1) := by decide +kernel
theorem dL_law_835 : decode cL_law 835 = .ok (.ireturn, 1) := by decide +kernel
theorem dL_law_836 : decode cL_law 836 = .ok (.aload_n 1, 1) := by decide +kernel
theorem dL_law_837 : decode cL_law 837 = .ok (.invokevirtual 108, 3) := by decide +kernel
theorem dL_law_840 : decode cL_law 840 = .ok (.aload_n 2, 1) := by decide +kernel
theorem dL_law_841 : decode cL_law 841 = .ok (.invokevirtual 111, 3) := by decide +kernel
theorem dL_law_844 : decode cL_law 844 = .ok (.if_icmp .eq 300, 3) := by decide +kernel
theorem dL_law_847 : decode cL_law 847 = .ok (.iconst 0, 1) := by decide +kernel
theorem dL_law_848 : decode cL_law 848 = .ok (.ireturn, 1) := by decide +kernel
theorem dL_law_849 : decode cL_law 849 = .ok (.aload_n 1, 1) := by decide +kernel
theorem dL_law_850 : decode cL_law 850 = .ok (.aload_n 0, 1) := by decide +kernel
theorem dL_law_851 : decode cL_law 851 = .ok (.iload_n 3, 1) := by decide +kernel
theorem dL_law_852 : decode cL_law 852 = .ok (.iconst 1, 1) := by decide +kernel
theorem dL_law_853 : decode cL_law 853 = .ok (.iadd, 1) := by decide +kernel
theorem dL_law_854 : decode cL_law 854 = .ok (.iaload, 1) := by decide +kernel
theorem dL_law_855 : decode cL_law 855 = .ok (.aload_n 0, 1) := by decide +kernel
theorem dL_law_856 : decode cL_law 856 = .ok (.iload_n 3, 1) := by decide +kernel
theorem dL_law_857 : decode cL_law 857 = .ok (.iconst 2, 1) := by decide +kernel
theorem dL_law_858 : decode cL_law 858 = .ok (.iadd, 1) := by decide +kernel
theorem dL_law_859 : decode cL_law 859 = .ok (.iaload, 1) := by decide +kernel
theorem dL_law_860 : decode cL_law 860 = .ok (.invokevirtual 112, 3) := by decide +kernel
theorem dL_law_863 : decode cL_law 863 = .ok (.aload_n 2, 1) := by decide +kernel
theorem dL_law_864 : decode cL_law 864 = .ok (.aload_n 0, 1) := by decide +kernel
theorem dL_law_865 : decode cL_law 865 = .ok (.iload_n 3, 1) := by decide +kernel
theorem dL_law_866 : decode cL_law 866 = .ok (.iconst 1, 1) := by decide +kernel
theorem dL_law_867 : decode cL_law 867 = .ok (.iadd, 1) := by decide +kernel
theorem dL_law_868 : decode cL_law 868 = .ok (.iaload, 1) := by decide +kernel
theorem dL_law_869 : decode cL_law 869 = .ok (.aload_n 0, 1) := by decide +kernel
theorem dL_law_870 : decode cL_law 870 = .ok (.iload_n 3, 1) := by decide +kernel
theorem dL_law_871 : decode cL_law 871 = .ok (.iconst 2, 1) := by decide +kernel
theorem dL_law_872 : decode cL_law 872 = .ok (.iadd, 1) := by decide +kernel
theorem dL_law_873 : decode cL_law 873 = .ok (.iaload, 1) := by decide +kernel
theorem dL_law_874 : decode cL_law 874 = .ok (.invokevirtual 115, 3) := by decide +kernel
theorem dL_law_877 : decode cL_law 877 = .ok (.if_icmp .eq 267, 3) := by decide +kernel
theorem dL_law_880 : decode cL_law 880 = .ok (.iconst 0, 1) := by decide +kernel
theorem dL_law_881 : decode cL_law 881 = .ok (.ireturn, 1) := by decide +kernel
theorem dL_law_882 : decode cL_law 882 = .ok (.aload_n 1, 1) := by decide +kernel
theorem dL_law_883 : decode cL_law 883 = .ok (.invokevirtual 116, 3) := by decide +kernel
theorem dL_law_886 : decode cL_law 886 = .ok (.aload_n 2, 1) := by decide +kernel
theorem dL_law_887 : decode cL_law 887 = .ok (.invokevirtual 119, 3) := by decide +kernel
theorem dL_law_890 : decode cL_law 890 = .ok (.if_icmp .eq 254, 3) := by decide +kernel
theorem dL_law_893 : decode cL_law 893 = .ok (.iconst 0, 1) := by decide +kernel
theorem dL_law_894 : decode cL_law 894 = .ok (.ireturn, 1) := by decide +kernel
theorem dL_law_895 : decode cL_law 895 = .ok (.aload_n 1, 1) := by decide +kernel
theorem dL_law_896 : decode cL_law 896 = .ok (.invokevirtual 120, 3) := by decide +kernel
theorem dL_law_899 : decode cL_law 899 = .ok (.aload_n 2, 1) := by decide +kernel
theorem dL_law_900 : decode cL_law 900 = .ok (.invokevirtual 123, 3) := by decide +kernel
theorem dL_law_903 : decode cL_law 903 = .ok (.if_icmp .eq 241, 3) := by decide +kernel
theorem dL_law_906 : decode cL_law 906 = .ok (.iconst 0, 1) := by decide +kernel
theorem dL_law_907 : decode cL_law 907 = .ok (.ireturn, 1) := by decide +kernel
theorem dL_law_908 : decode cL_law 908 = .ok (.aload_n 1, 1) := by decide +kernel
theorem dL_law_909 : decode cL_law 909 = .ok (.aload_n 0, 1) := by decide +kernel
theorem dL_law_910 : decode cL_law 910 = .ok (.iload_n 3, 1) := by decide +kernel
theorem dL_law_911 : decode cL_law 911 = .ok (.iconst 1, 1) := by decide +kernel
theorem dL_law_912 : decode cL_law 912 = .ok (.iadd, 1) := by decide +kernel
theorem dL_law_913 : decode cL_law 913 = .ok (.iaload, 1) := by decide +kernel
theorem dL_law_914 : decode cL_law 914 = .ok (.invokevirtual 124, 3) := by decide +kernel
theorem dL_law_917 : decode cL_law 917 = .ok (.aload_n 2, 1) := by decide +kernel
theorem dL_law_918 : decode cL_law 918 = .ok (.aload_n 0, 1) := by decide +kernel
theorem dL_law_919 : decode cL_law 919 = .ok (.iload_n 3, 1) := by decide +kernel
theorem dL_law_920 : decode cL_law 920 = .ok (.iconst 1, 1) := by decide +kernel
theorem dL_law_921 : decode cL_law 921 = .ok (.iadd, 1) := by decide +kernel
theorem dL_law_922 : decode cL_law 922 = .ok (.iaload, 1) := by decide +kernel
theorem dL_law_923 : decode cL_law 923 = .ok (.invokevirtual 127, 3) := by decide +kernel
theorem dL_law_926 : decode cL_law 926 = .ok (.if_icmp .eq 218, 3) := by decide +kernel
theorem dL_law_929 : decode cL_law 929 = .ok (.iconst 0, 1) := by decide +kernel
theorem dL_law_930 : decode cL_law 930 = .ok (.ireturn, 1) := by decide +kernel
theorem dL_law_931 : decode cL_law 931 = .ok (.aload_n 1, 1) := by decide +kernel
theorem dL_law_932 : decode cL_law 932 = .ok (.aload_n 0, 1) := by decide +kernel
theorem dL_law_933 : decode cL_law 933 = .ok (.iload_n 3, 1) := by decide +kernel
theorem dL_law_934 : decode cL_law 934 = .ok (.iconst 1, 1) := by decide +kernel
theorem dL_law_935 : decode cL_law 935 = .ok (.iadd, 1) := by decide +kernel
theorem dL_law_936 : decode cL_law 936 = .ok (.iaload, 1) := by decide +kernel
theorem dL_law_937 : decode cL_law 937 = .ok (.aload_n 0, 1) := by decide +kernel
theorem dL_law_938 : decode cL_law 938 = .ok (.iload_n 3, 1) := by decide +kernel
theorem dL_law_939 : decode cL_law 939 = .ok (.iconst 2, 1) := by decide +kernel
theorem dL_law_940 : decode cL_law 940 = .ok (.iadd, 1) := by decide +kernel
theorem dL_law_941 : decode cL_law 941 = .ok (.iaload, 1) := by decide +kernel
theorem dL_law_942 : decode cL_law 942 = .ok (.aload_n 0, 1) := by decide +kernel
theorem dL_law_943 : decode cL_law 943 = .ok (.iload_n 3, 1) := by decide +kernel
theorem dL_law_944 : decode cL_law 944 = .ok (.iconst 3, 1) := by decide +kernel
theorem dL_law_945 : decode cL_law 945 = .ok (.iadd, 1) := by decide +kernel
theorem dL_law_946 : decode cL_law 946 = .ok (.iaload, 1) := by decide +kernel
theorem dL_law_947 : decode cL_law 947 = .ok (.invokevirtual 128, 3) := by decide +kernel
theorem dL_law_950 : decode cL_law 950 = .ok (.aload_n 2, 1) := by decide +kernel
theorem dL_law_951 : decode cL_law 951 = .ok (.aload_n 0, 1) := by decide +kernel
theorem dL_law_952 : decode cL_law 952 = .ok (.iload_n 3, 1) := by decide +kernel
theorem dL_law_953 : decode cL_law 953 = .ok (.iconst 1, 1) := by decide +kernel
theorem dL_law_954 : decode cL_law 954 = .ok (.iadd, 1) := by decide +kernel
theorem dL_law_955 : decode cL_law 955 = .ok (.iaload, 1) := by decide +kernel
theorem dL_law_956 : decode cL_law 956 = .ok (.aload_n 0, 1) := by decide +kernel
theorem dL_law_957 : decode cL_law 957 = .ok (.iload_n 3, 1) := by decide +kernel
theorem dL_law_958 : decode cL_law 958 = .ok (.iconst 2, 1) := by decide +kernel
theorem dL_law_959 : decode cL_law 959 = .ok (.iadd, 1) := by decide +kernel
theorem dL_law_960 : decode cL_law 960 = .ok (.iaload, 1) := by decide +kernel
theorem dL_law_961 : decode cL_law 961 = .ok (.aload_n 0, 1) := by decide +kernel
theorem dL_law_962 : decode cL_law 962 = .ok (.iload_n 3, 1) := by decide +kernel
theorem dL_law_963 : decode cL_law 963 = .ok (.iconst 3, 1) := by decide +kernel
theorem dL_law_964 : decode cL_law 964 = .ok (.iadd, 1) := by decide +kernel
theorem dL_law_965 : decode cL_law 965 = .ok (.iaload, 1) := by decide +kernel
theorem dL_law_966 : decode cL_law 966 = .ok (.invokevirtual 131, 3) := by decide +kernel
theorem dL_law_969 : decode cL_law 969 = .ok (.if_icmp .eq 175, 3) := by decide +kernel
theorem dL_law_972 : decode cL_law 972 = .ok (.iconst 0, 1) := by decide +kernel
theorem dL_law_973 : decode cL_law 973 = .ok (.ireturn, 1) := by decide +kernel
theorem dL_law_974 : decode cL_law 974 = .ok (.aload_n 1, 1) := by decide +kernel
theorem dL_law_975 : decode cL_law 975 = .ok (.aload_n 0, 1) := by decide +kernel
theorem dL_law_976 : decode cL_law 976 = .ok (.iload_n 3, 1) := by decide +kernel
theorem dL_law_977 : decode cL_law 977 = .ok (.iconst 1, 1) := by decide +kernel
theorem dL_law_978 : decode cL_law 978 = .ok (.iadd, 1) := by decide +kernel
theorem dL_law_979 : decode cL_law 979 = .ok (.iaload, 1) := by decide +kernel
theorem dL_law_980 : decode cL_law 980 = .ok (.aload_n 0, 1) := by decide +kernel
theorem dL_law_981 : decode cL_law 981 = .ok (.iload_n 3, 1) := by decide +kernel
theorem dL_law_982 : decode cL_law 982 = .ok (.iconst 2, 1) := by decide +kernel
theorem dL_law_983 : decode cL_law 983 = .ok (.iadd, 1) := by decide +kernel
theorem dL_law_984 : decode cL_law 984 = .ok (.iaload, 1) := by decide +kernel
theorem dL_law_985 : decode cL_law 985 = .ok (.aload_n 0, 1) := by decide +kernel
theorem dL_law_986 : decode cL_law 986 = .ok (.iload_n 3, 1) := by decide +kernel
theorem dL_law_987 : decode cL_law 987 = .ok (.iconst 3, 1) := by decide +kernel
theorem dL_law_988 : decode cL_law 988 = .ok (.iadd, 1) := by decide +kernel
theorem dL_law_989 : decode cL_law 989 = .ok (.iaload, 1) := by decide +kernel
theorem dL_law_990 : decode cL_law 990 = .ok (.i2l, 1) := by decide +kernel
theorem dL_law_991 : decode cL_law 991 = .ok (.bipush 32, 2) := by decide +kernel
theorem dL_law_993 : decode cL_law 993 = .ok (.lshl, 1) := by decide +kernel
theorem dL_law_994 : decode cL_law 994 = .ok (.aload_n 0, 1) := by decide +kernel
theorem dL_law_995 : decode cL_law 995 = .ok (.iload_n 3, 1) := by decide +kernel
theorem dL_law_996 : decode cL_law 996 = .ok (.iconst 4, 1) := by decide +kernel
theorem dL_law_997 : decode cL_law 997 = .ok (.iadd, 1) := by decide +kernel
theorem dL_law_998 : decode cL_law 998 = .ok (.iaload, 1) := by decide +kernel
theorem dL_law_999 : decode cL_law 999 = .ok (.i2l, 1) := by decide +kernel
theorem dL_law_1000 : decode cL_law 1000 = .ok (.ldc2_w 132, 3) := by decide +kernel
theorem dL_law_1003 : decode cL_law 1003 = .ok (.land, 1) := by decide +kernel
theorem dL_law_1004 : decode cL_law 1004 = .ok (.lor, 1) := by decide +kernel
theorem dL_law_1005 : decode cL_law 1005 = .ok (.invokevirtual 134, 3) := by decide +kernel
theorem dL_law_1008 : decode cL_law 1008 = .ok (.aload_n 2, 1) := by decide +kernel
theorem dL_law_1009 : decode cL_law 1009 = .ok (.aload_n 0, 1) := by decide +kernel
theorem dL_law_1010 : decode cL_law 1010 = .ok (.iload_n 3, 1) := by decide +kernel
theorem dL_law_1011 : decode cL_law 1011 = .ok (.iconst 1, 1) := by decide +kernel
theorem dL_law_1012 : decode cL_law 1012 = .ok (.iadd, 1) := by decide +kernel
theorem dL_law_1013 : decode cL_law 1013 = .ok (.iaload, 1) := by decide +kernel
theorem dL_law_1014 : decode cL_law 1014 = .ok (.aload_n 0, 1) := by decide +kernel
theorem dL_law_1015 : decode cL_law 1015 = .ok (.iload_n 3, 1) := by decide +kernel
theorem dL_law_1016 : decode cL_law 1016 = .ok (.iconst 2, 1) := by decide +kernel
theorem dL_law_1017 : decode cL_law 1017 = .ok (.iadd, 1) := by decide +kernel
theorem dL_law_1018 : decode cL_law 1018 = .ok (.iaload, 1) := by decide +kernel
theorem dL_law_1019 : decode cL_law 1019 = .ok (.aload_n 0, 1) := by decide +kernel
theorem dL_law_1020 : decode cL_law 1020 = .ok (.iload_n 3, 1) := by decide +kernel
theorem dL_law_1021 : decode cL_law 1021 = .ok (.iconst 3, 1) := by decide +kernel
theorem dL_law_1022 : decode cL_law 1022 = .ok (.iadd, 1) := by decide +kernel
theorem dL_law_1023 : decode cL_law 1023 = .ok (.iaload, 1) := by decide +kernel
theorem dL_law_1024 : decode cL_law 1024 = .ok (.i2l, 1) := by decide +kernel
theorem dL_law_1025 : decode cL_law 1025 = .ok (.bipush 32, 2) := by decide +kernel
theorem dL_law_1027 : decode cL_law 1027 = .ok (.lshl, 1) := by decide +kernel
theorem dL_law_1028 : decode cL_law 1028 = .ok (.aload_n 0, 1) := by decide +kernel
theorem dL_law_1029 : decode cL_law 1029 = .ok (.iload_n 3, 1) := by decide +kernel
theorem dL_law_1030 : decode cL_law 1030 = .ok (.iconst 4, 1) := by decide +kernel
theorem dL_law_1031 : decode cL_law 1031 = .ok (.iadd, 1) := by decide +kernel
theorem dL_law_1032 : decode cL_law 1032 = .ok (.iaload, 1) := by decide +kernel
theorem dL_law_1033 : decode cL_law 1033 = .ok (.i2l, 1) := by decide +kernel
theorem dL_law_1034 : decode cL_law 1034 = .ok (.ldc2_w 132, 3) := by decide +kernel
theorem dL_law_1037 : decode cL_law 1037 = .ok (.land, 1) := by decide +kernel
theorem dL_law_1038 : decode cL_law 1038 = .ok (.lor, 1) := by decide +kernel
theorem dL_law_1039 : decode cL_law 1039 = .ok (.invokevirtual 138, 3) := by decide +kernel
theorem dL_law_1042 : decode cL_law 1042 = .ok (.if_icmp .eq 102, 3) := by decide +kernel
theorem dL_law_1045 : decode cL_law 1045 = .ok (.iconst 0, 1) := by decide +kernel
theorem dL_law_1046 : decode cL_law 1046 = .ok (.ireturn, 1) := by decide +kernel
theorem dL_law_1047 : decode cL_law 1047 = .ok (.aload_n 1, 1) := by decide +kernel
theorem dL_law_1048 : decode cL_law 1048 = .ok (.aload_n 0, 1) := by decide +kernel
theorem dL_law_1049 : decode cL_law 1049 = .ok (.iload_n 3, 1) := by decide +kernel
theorem dL_law_1050 : decode cL_law 1050 = .ok (.iconst 1, 1) := by decide +kernel
theorem dL_law_1051 : decode cL_law 1051 = .ok (.iadd, 1) := by decide +kernel
theorem dL_law_1052 : decode cL_law 1052 = .ok (.iaload, 1) := by decide +kernel
theorem dL_law_1053 : decode cL_law 1053 = .ok (.aload_n 0, 1) := by decide +kernel
theorem dL_law_1054 : decode cL_law 1054 = .ok (.iload_n 3, 1) := by decide +kernel
theorem dL_law_1055 : decode cL_law 1055 = .ok (.iconst 2, 1) := by decide +kernel
theorem dL_law_1056 : decode cL_law 1056 = .ok (.iadd, 1) := by decide +kernel
theorem dL_law_1057 : decode cL_law 1057 = .ok (.iaload, 1) := by decide +kernel
theorem dL_law_1058 : decode cL_law 1058 = .ok (.invokevirtual 139, 3) := by decide +kernel
theorem dL_law_1061 : decode cL_law 1061 = .ok (.aload_n 2, 1) := by decide +kernel
theorem dL_law_1062 : decode cL_law 1062 = .ok (.aload_n 0, 1) := by decide +kernel
theorem dL_law_1063 : decode cL_law 1063 = .ok (.iload_n 3, 1) := by decide +kernel
theorem dL_law_1064 : decode cL_law 1064 = .ok (.iconst 1, 1) := by decide +kernel
theorem dL_law_1065 : decode cL_law 1065 = .ok (.iadd, 1) := by decide +kernel
theorem dL_law_1066 : decode cL_law 1066 = .ok (.iaload, 1) := by decide +kernel
theorem dL_law_1067 : decode cL_law 1067 = .ok (.aload_n 0, 1) := by decide +kernel
theorem dL_law_1068 : decode cL_law 1068 = .ok (.iload_n 3, 1) := by decide +kernel
theorem dL_law_1069 : decode cL_law 1069 = .ok (.iconst 2, 1) := by decide +kernel
theorem dL_law_1070 : decode cL_law 1070 = .ok (.iadd, 1) := by decide +kernel
theorem dL_law_1071 : decode cL_law 1071 = .ok (.iaload, 1) := by decide +kernel
theorem dL_law_1072 : decode cL_law 1072 = .ok (.invokevirtual 142, 3) := by decide +kernel
theorem dL_law_1075 : decode cL_law 1075 = .ok (.lcmp, 1) := by decide +kernel
theorem dL_law_1076 : decode cL_law 1076 = .ok (.ifCond .eq 68, 3) := by decide +kernel
theorem dL_law_1079 : decode cL_law 1079 = .ok (.iconst 0, 1) := by decide +kernel
theorem dL_law_1080 : decode cL_law 1080 = .ok (.ireturn, 1) := by decide +kernel
theorem dL_law_1081 : decode cL_law 1081 = .ok (.aload_n 1, 1) := by decide +kernel
theorem dL_law_1082 : decode cL_law 1082 = .ok (.aload_n 0, 1) := by decide +kernel
theorem dL_law_1083 : decode cL_law 1083 = .ok (.iload_n 3, 1) := by decide +kernel
theorem dL_law_1084 : decode cL_law 1084 = .ok (.iconst 1, 1) := by decide +kernel
theorem dL_law_1085 : decode cL_law 1085 = .ok (.iadd, 1) := by decide +kernel
theorem dL_law_1086 : decode cL_law 1086 = .ok (.iaload, 1) := by decide +kernel
theorem dL_law_1087 : decode cL_law 1087 = .ok (.aload_n 0, 1) := by decide +kernel
theorem dL_law_1088 : decode cL_law 1088 = .ok (.iload_n 3, 1) := by decide +kernel
theorem dL_law_1089 : decode cL_law 1089 = .ok (.iconst 2, 1) := by decide +kernel
theorem dL_law_1090 : decode cL_law 1090 = .ok (.iadd, 1) := by decide +kernel
theorem dL_law_1091 : decode cL_law 1091 = .ok (.iaload, 1) := by decide +kernel
theorem dL_law_1092 : decode cL_law 1092 = .ok (.aload_n 0, 1) := by decide +kernel
theorem dL_law_1093 : decode cL_law 1093 = .ok (.iload_n 3, 1) := by decide +kernel
theorem dL_law_1094 : decode cL_law 1094 = .ok (.iconst 3, 1) := by decide +kernel
theorem dL_law_1095 : decode cL_law 1095 = .ok (.iadd, 1) := by decide +kernel
theorem dL_law_1096 : decode cL_law 1096 = .ok (.iaload, 1) := by decide +kernel
theorem dL_law_1097 : decode cL_law 1097 = .ok (.aload_n 0, 1) := by decide +kernel
theorem dL_law_1098 : decode cL_law 1098 = .ok (.iload_n 3, 1) := by decide +kernel
theorem dL_law_1099 : decode cL_law 1099 = .ok (.iconst 4, 1) := by decide +kernel
theorem dL_law_1100 : decode cL_law 1100 = .ok (.iadd, 1) := by decide +kernel
theorem dL_law_1101 : decode cL_law 1101 = .ok (.iaload, 1) := by decide +kernel
theorem dL_law_1102 : decode cL_law 1102 = .ok (.aload_n 0, 1) := by decide +kernel
theorem dL_law_1103 : decode cL_law 1103 = .ok (.iload_n 3, 1) := by decide +kernel
theorem dL_law_1104 : decode cL_law 1104 = .ok (.iconst 5, 1) := by decide +kernel
theorem dL_law_1105 : decode cL_law 1105 = .ok (.iadd, 1) := by decide +kernel
theorem dL_law_1106 : decode cL_law 1106 = .ok (.iaload, 1) := by decide +kernel
theorem dL_law_1107 : decode cL_law 1107 = .ok (.invokevirtual 143, 3) := by decide +kernel
theorem dL_law_1110 : decode cL_law 1110 = .ok (.aload_n 2, 1) := by decide +kernel
theorem dL_law_1111 : decode cL_law 1111 = .ok (.aload_n 0, 1) := by decide +kernel
theorem dL_law_1112 : decode cL_law 1112 = .ok (.iload_n 3, 1) := by decide +kernel
theorem dL_law_1113 : decode cL_law 1113 = .ok (.iconst 1, 1) := by decide +kernel
theorem dL_law_1114 : decode cL_law 1114 = .ok (.iadd, 1) := by decide +kernel
theorem dL_law_1115 : decode cL_law 1115 = .ok (.iaload, 1) := by decide +kernel
theorem dL_law_1116 : decode cL_law 1116 = .ok (.aload_n 0, 1) := by decide +kernel
theorem dL_law_1117 : decode cL_law 1117 = .ok (.iload_n 3, 1) := by decide +kernel
theorem dL_law_1118 : decode cL_law 1118 = .ok (.iconst 2, 1) := by decide +kernel
theorem dL_law_1119 : decode cL_law 1119 = .ok (.iadd, 1) := by decide +kernel
theorem dL_law_1120 : decode cL_law 1120 = .ok (.iaload, 1) := by decide +kernel
theorem dL_law_1121 : decode cL_law 1121 = .ok (.aload_n 0, 1) := by decide +kernel
theorem dL_law_1122 : decode cL_law 1122 = .ok (.iload_n 3, 1) := by decide +kernel
theorem dL_law_1123 : decode cL_law 1123 = .ok (.iconst 3, 1) := by decide +kernel
theorem dL_law_1124 : decode cL_law 1124 = .ok (.iadd, 1) := by decide +kernel
theorem dL_law_1125 : decode cL_law 1125 = .ok (.iaload, 1) := by decide +kernel
theorem dL_law_1126 : decode cL_law 1126 = .ok (.aload_n 0, 1) := by decide +kernel
theorem dL_law_1127 : decode cL_law 1127 = .ok (.iload_n 3, 1) := by decide +kernel
theorem dL_law_1128 : decode cL_law 1128 = .ok (.iconst 4, 1) := by decide +kernel
theorem dL_law_1129 : decode cL_law 1129 = .ok (.iadd, 1) := by decide +kernel
theorem dL_law_1130 : decode cL_law 1130 = .ok (.iaload, 1) := by decide +kernel
theorem dL_law_1131 : decode cL_law 1131 = .ok (.aload_n 0, 1) := by decide +kernel
theorem dL_law_1132 : decode cL_law 1132 = .ok (.iload_n 3, 1) := by decide +kernel
theorem dL_law_1133 : decode cL_law 1133 = .ok (.iconst 5, 1) := by decide +kernel
theorem dL_law_1134 : decode cL_law 1134 = .ok (.iadd, 1) := by decide +kernel
theorem dL_law_1135 : decode cL_law 1135 = .ok (.iaload, 1) := by decide +kernel
theorem dL_law_1136 : decode cL_law 1136 = .ok (.invokevirtual 147, 3) := by decide +kernel
theorem dL_law_1139 : decode cL_law 1139 = .ok (.if_icmp .eq 5, 3) := by decide +kernel
theorem dL_law_1142 : decode cL_law 1142 = .ok (.iconst 0, 1) := by decide +kernel
theorem dL_law_1143 : decode cL_law 1143 = .ok (.ireturn, 1) := by decide +kernel
theorem dL_law_1144 : decode cL_law 1144 = .ok (.iinc 3 6, 3) := by decide +kernel
theorem dL_law_1147 : decode cL_law 1147 = .ok (.goto (-1129), 3) := by decide +kernel
theorem dL_law_1150 : decode cL_law 1150 = .ok (.iconst 1, 1) := by decide +kernel
theorem dL_law_1151 : decode cL_law 1151 = .ok (.ireturn, 1) := by decide +kernel
end
section
/-! ===== the words of the tables that every method may use ===== -/
def WS : List Cond := lw_tbl.filter goodWord
theorem inWS {w : Cond} (i : Nat) (h : lw_tbl[i]? = some w) (g : goodWord w = true) : w ∈ WS := List.mem_filter.mpr ⟨List.mem_of_getElem? h, g⟩
theorem WS_good : GoodIn WS WS := fun w h => ⟨h, good_of_word (List.mem_filter.mp h).2⟩
theorem WS_tbl {args : Array Value} {s : State} (h : ∀ w ∈ lw_tbl, w.before args s = true) : ∀ w ∈ WS, w.before args s = true := fun w hw => h w (List.mem_filter.mp hw).1
/-! the words of nest mates: they ride as facts of the state -/
def isNest : Cond → Bool
  | .fieldLinkNest .. => true
  | .methodLinkNest .. => true
  | _ => false
def WN : List Cond := lw_tbl.filter isNest
theorem inWN {w : Cond} (i : Nat) (h : lw_tbl[i]? = some w) (g : isNest w = true) : w ∈ WN := List.mem_filter.mpr ⟨List.mem_of_getElem? h, g⟩
def gs_NW (U : State) : Prop := (∀ w ∈ WN, va_Nw w U) ∧ va_AO "GapStations$Tape" U
theorem nest_onTables {w : Cond} (h : isNest w = true) : w.onTables = true := by
  cases w <;> first | rfl | (simp [isNest] at h)
theorem gs_NW_of {args : Array Value} {s : State} (h : ∀ w ∈ lw_tbl, w.before args s = true) : gs_NW s := ⟨fun w hw => va_Nw.of (nest_onTables (List.mem_filter.mp hw).2) (h w (List.mem_filter.mp hw).1), va_AO.of (A := args) (h (Cond.arrayOver (.object "GapStations$Tape")) (List.mem_of_getElem? (i := 211) (by decide +kernel)))⟩
theorem gs_NW.warm {s U : State} (hW : s.WarmedH U.vm) (h : gs_NW s) : gs_NW U := by
  refine ⟨?_, va_AO.moved hW.alike h.2⟩
  intro w hw
  have h1 := h.1 w hw
  have h2 := (List.mem_filter.mp hw).2
  cases w <;> first | exact va_Nw.warmF hW h1 | exact va_Nw.warmM hW h1 | (simp [isNest] at h2)
theorem gs_NW.same {u U : State} (hvm : u.vm = U.vm) (h : gs_NW u) : gs_NW U := ⟨fun w hw => va_Nw.same (nest_onTables (List.mem_filter.mp hw).2) hvm (h.1 w hw), va_AO.moved (by rw [hvm]; exact Vm.Alike.refl _) h.2⟩
theorem gs_NW.use {w : Cond} {A : Array Value} {U : State} (h : gs_NW U) (hw : w ∈ WN) : w.before A U = true := va_Nw.use (nest_onTables (List.mem_filter.mp hw).2) (h.1 w hw)
/-! ===== numbers: an int is ofInt of an integer, a long likewise ===== -/
def gn (x : Int) : Int := (Int32.ofInt x).toInt
def gm (x : Int) : Int := (Int64.ofInt x).toInt
def gi (x : Int) : Value := .int (Int32.ofInt x)
def gl (x : Int) : Value := .long (Int64.ofInt x)
theorem gn_eq (x : Int) : gn x = x.bmod (2 ^ 32) := Int32.toInt_ofInt
theorem gm_eq (x : Int) : gm x = x.bmod (2 ^ 64) := Int64.toInt_ofInt
theorem bm32 (x : Int) : (-2147483648 ≤ x.bmod 4294967296 ∧ x.bmod 4294967296 < 2147483648) ∧ (-2147483648 ≤ x → x < 2147483648 → x.bmod 4294967296 = x) := by
  unfold Int.bmod
  dsimp only
  split <;> omega
theorem bm64 (x : Int) : (-9223372036854775808 ≤ x.bmod 18446744073709551616 ∧ x.bmod 18446744073709551616 < 9223372036854775808) ∧ (-9223372036854775808 ≤ x → x < 9223372036854775808 → x.bmod 18446744073709551616 = x) := by
  unfold Int.bmod
  dsimp only
  split <;> omega
theorem gn_id {x : Int} (h1 : -2147483648 ≤ x) (h2 : x < 2147483648) : gn x = x := by
  rw [gn_eq]; exact (bm32 x).2 h1 h2
theorem gm_id {x : Int} (h1 : -9223372036854775808 ≤ x) (h2 : x < 9223372036854775808) : gm x = x := by
  rw [gm_eq]; exact (bm64 x).2 h1 h2
theorem gn_rng (x : Int) : -2147483648 ≤ gn x ∧ gn x < 2147483648 := by
  rw [gn_eq]; exact (bm32 x).1
theorem gm_rng (x : Int) : -9223372036854775808 ≤ gm x ∧ gm x < 9223372036854775808 := by
  rw [gm_eq]; exact (bm64 x).1
theorem gn_gn (x : Int) : gn (gn x) = gn x := gn_id (gn_rng x).1 (gn_rng x).2
theorem gm_gm (x : Int) : gm (gm x) = gm x := gm_id (gm_rng x).1 (gm_rng x).2
theorem oi_toInt (x : Int32) : Int32.ofInt x.toInt = x := by
  apply Int32.toInt_inj.mp
  rw [Int32.toInt_ofInt]
  exact (bm32 _).2 (Int32.le_toInt x) (Int32.toInt_lt x)
theorem oi_gn (x : Int) : Int32.ofInt (gn x) = Int32.ofInt x := oi_toInt _
theorem ol_toInt (x : Int64) : Int64.ofInt x.toInt = x := by
  apply Int64.toInt_inj.mp
  rw [Int64.toInt_ofInt]
  exact (bm64 _).2 (Int64.le_toInt x) (Int64.toInt_lt x)
theorem ol_gm (x : Int) : Int64.ofInt (gm x) = Int64.ofInt x := ol_toInt _
theorem oi_inj {x y : Int} : Int32.ofInt x = Int32.ofInt y ↔ gn x = gn y := ⟨fun h => by unfold gn; rw [h], fun h => Int32.toInt_inj.mp h⟩
theorem ol_inj {x y : Int} : Int64.ofInt x = Int64.ofInt y ↔ gm x = gm y := ⟨fun h => by unfold gm; rw [h], fun h => Int64.toInt_inj.mp h⟩
theorem oi_lt {x y : Int} : Int32.ofInt x < Int32.ofInt y ↔ gn x < gn y := Int32.lt_iff_toInt_lt
theorem oi_le {x y : Int} : Int32.ofInt x ≤ Int32.ofInt y ↔ gn x ≤ gn y := Int32.le_iff_toInt_le
theorem gn_0 : gn 0 = 0 := by decide +kernel
theorem oi_0 : Int32.ofInt 0 = 0 := by decide +kernel
theorem oi_add (x y : Int) : Int32.ofInt x + Int32.ofInt y = Int32.ofInt (x + y) := (Int32.ofInt_add x y).symm
theorem oi_sub (x y : Int) : Int32.ofInt x - Int32.ofInt y = Int32.ofInt (x - y) := (Int32.ofInt_sub x y).symm
theorem oi_mul (x y : Int) : Int32.ofInt x * Int32.ofInt y = Int32.ofInt (x * y) := (Int32.ofInt_mul x y).symm
theorem oi_neg (x : Int) : -Int32.ofInt x = Int32.ofInt (-x) := (Int32.ofInt_neg x).symm
theorem ol_add (x y : Int) : Int64.ofInt x + Int64.ofInt y = Int64.ofInt (x + y) := (Int64.ofInt_add x y).symm
theorem ol_sub (x y : Int) : Int64.ofInt x - Int64.ofInt y = Int64.ofInt (x - y) := (Int64.ofInt_sub x y).symm
theorem ol_mul (x y : Int) : Int64.ofInt x * Int64.ofInt y = Int64.ofInt (x * y) := (Int64.ofInt_mul x y).symm
/-! bits, shifts, division, conversions as the machine has them -/
def gand (x y : Int) : Int := (Int32.ofInt x &&& Int32.ofInt y).toInt
def gor (x y : Int) : Int := (Int32.ofInt x ||| Int32.ofInt y).toInt
def gxor (x y : Int) : Int := (Int32.ofInt x ^^^ Int32.ofInt y).toInt
def gshl (x y : Int) : Int := (Int32.ofInt x <<< (Int32.ofInt y &&& 31)).toInt
def gshr (x y : Int) : Int := (Int32.ofInt x >>> (Int32.ofInt y &&& 31)).toInt
def gushr (x y : Int) : Int := ((Int32.ofInt x).toUInt32 >>> ((Int32.ofInt y).toUInt32 &&& Int32.toUInt32 31)).toInt32.toInt
def gdiv (x y : Int) : Int := (Int32.ofInt x / Int32.ofInt y).toInt
def grem (x y : Int) : Int := (Int32.ofInt x - Int32.ofInt x / Int32.ofInt y * Int32.ofInt y).toInt
def gldiv (x y : Int) : Int := (Int64.ofInt x / Int64.ofInt y).toInt
def glrem (x y : Int) : Int := (Int64.ofInt x - Int64.ofInt x / Int64.ofInt y * Int64.ofInt y).toInt
def gland (x y : Int) : Int := (Int64.ofInt x &&& Int64.ofInt y).toInt
def glor (x y : Int) : Int := (Int64.ofInt x ||| Int64.ofInt y).toInt
def glshl (x y : Int) : Int := (Int64.ofInt x <<< ((Int32.ofInt y).toInt64 &&& 63)).toInt
def gcmp (x y : Int) : Int := if gm y < gm x then 1 else if gm x = gm y then 0 else -1
def gb (x : Int) : Int := ((Int32.ofInt x).toInt8.toInt32).toInt
def gsh (x : Int) : Int := ((Int32.ofInt x).toInt16.toInt32).toInt
/-! ===== the memory: 79 cells of numbers, whose shapes do not change once the two objects are made ===== -/
abbrev gs_Mem : Type := Nat → Nat → Int
abbrev gs_Sp : Type := (FieldType × Nat) ⊕ ((Nat × List (Option Nat)) ⊕ (Nat × (Nat → Nat)))
def sp_i (n : Nat) : gs_Sp := .inl (.int, n)
def sp_l (n : Nat) : gs_Sp := .inl (.long, n)
def sp_o (ci : Nat) (fs : List (Option Nat)) : gs_Sp := .inr (.inl (ci, fs))
def fs_pl (r : Nat) : List (Option Nat) := [some (r + 1), some (r + 2), some (r + 3), some (r + 4), some (r + 5), some (r + 6), some (r + 7), some (r + 8), none, none]
def fs_rw (r : Nat) : List (Option Nat) := [none, some (r + 1), some (r + 2), none]
def fs_st (r : Nat) : List (Option Nat) := [some (r + 1), some (r + 10), some (r + 13), some (r + 16)]
def fs_tp (r : Nat) : List (Option Nat) := [some (r + 1), none, none]
def fs_tx : List (Option Nat) := [some 52, none, none, none, none, some 53, some 54, some 55, some 56]
def fs_wd : List (Option Nat) := [some 49, some 50]
def fs_gs : List (Option Nat) := [some 1, some 20, none, some 39, some 48, some 51, some 57]
def fs_md : List (Option Nat) := [some 71, some 72, some 73, none, some 74, none, none, some 75, some 76, some 77, some 78]
def sl_pl (r : Nat) : List gs_Sp := [sp_o 0 (fs_pl r), sp_i 8, sp_i 8, sp_i 8, sp_i 3, sp_i 3, sp_i 64, sp_i 8, sp_i 8]
def sl_rw (r : Nat) : List gs_Sp := [sp_o 1 (fs_rw r), sp_i 8, sp_i 8]
def sl_st (r : Nat) : List gs_Sp := sp_o 2 (fs_st r) :: (sl_pl (r + 1) ++ (sl_rw (r + 10) ++ (sl_rw (r + 13) ++ sl_rw (r + 16))))
def sl_tp (r : Nat) : List gs_Sp := [sp_o 3 (fs_tp r), sp_l 60]
def SHL : List gs_Sp := sp_o 6 fs_gs :: (sl_st 1 ++ (sl_st 20 ++ (sl_pl 39 ++ ([sp_o 5 fs_wd, sp_i 8, sp_i 72] ++ ([sp_o 4 fs_tx, .inl (.byte, 100), sp_i 8, sp_i 8, sp_i 8, .inl (.boolean, 8)] ++ (.inr (.inr (6, fun k => 58 + 2 * k)) :: (sl_tp 58 ++ (sl_tp 60 ++ (sl_tp 62 ++ (sl_tp 64 ++ (sl_tp 66 ++ (sl_tp 68 ++ [sp_o 7 fs_md, sp_i 84, sp_i 84, sp_i 84, sp_i 100, sp_i 32, sp_i 6, sp_i 6, sp_l 360]))))))))))))
theorem SHL_len : SHL.length = 79 := by decide +kernel
def SH (k : Nat) : gs_Sp := SHL.getD k (.inl (.int, 0))
/-! the universe of a run: launch, class numbers, array class numbers, addresses, what may be changed -/
abbrev gs_E : Type := Launch × (va_G × ((FieldType → ClassId) × ((Nat → Nat) × (Nat → Prop))))
def gs_l (E : gs_E) : Launch := E.1
def gs_D (E : gs_E) : va_G := E.2.1
def gs_cA (E : gs_E) : FieldType → ClassId := E.2.2.1
def gs_ad (E : gs_E) : Nat → Nat := E.2.2.2.1
def gs_A (E : gs_E) : Nat → Prop := E.2.2.2.2
def gr (E : gs_E) (k : Nat) : Value := .ref (gs_ad E k)
def gs_fv (E : gs_E) (row : Nat → Int) (j : Nat) (f : Option Nat) : Value := match f with
  | none => gi (row j)
  | some q => gr E q
def gs_tT : FieldType := .object "GapStations$Tape"
def gs_ent (E : gs_E) (row : Nat → Int) (sp : gs_Sp) : va_E := match sp with
  | .inl (ty, n) => .inl (gs_cA E ty, n, match ty with
    | .long => .inr (.inl fun j => Int64.ofInt (row j))
    | _ => .inl fun j => Int32.ofInt (row j))
  | .inr (.inl (ci, fs)) => .inr (ci, fs.mapIdx (gs_fv E row))
  | .inr (.inr (n, q)) => .inl (gs_cA E gs_tT, n, .inr (.inr (.inr (.inr fun j => if j < n then some (gs_ad E (q j)) else none))))
def gs_ws (E : gs_E) (σ : gs_Mem) : va_W := (List.range 79).map fun k => (gs_ad E k, gs_ent E (σ k) (SH k))
def gs_tys (E : gs_E) : List (ClassId × FieldType) := [(gs_cA E .int, .int), (gs_cA E .byte, .byte), (gs_cA E .boolean, .boolean), (gs_cA E .long, .long), (gs_cA E gs_tT, gs_tT)]
def gs_Ap (E : gs_E) : Prop := (∀ i j, i < 79 → j < 79 → gs_ad E i = gs_ad E j → i = j) ∧ ∀ i, i < 79 → gs_A E (gs_ad E i)
def gs_st (σ : gs_Mem) (r k : Nat) (x : Int) : gs_Mem := fun a j => if a = r ∧ j = k then x else σ a j
def gs_cp (σ : gs_Mem) (r1 sp r2 dp n : Nat) : gs_Mem := fun a j => if a = r2 ∧ dp ≤ j ∧ j < dp + n then σ r1 (sp + (j - dp)) else σ a j
theorem gs_ws_get (E : gs_E) (σ : gs_Mem) {k : Nat} (h : k < 79) : (gs_ws E σ)[k]? = some (gs_ad E k, gs_ent E (σ k) (SH k)) := by
  unfold gs_ws
  rw [List.getElem?_map, List.getElem?_range h]
  rfl
theorem gs_ws_len (E : gs_E) (σ : gs_Mem) : (gs_ws E σ).length = 79 := by simp [gs_ws]
theorem gs_ws_D {E : gs_E} (σ : gs_Mem) (h : gs_Ap E) : va_D (gs_A E) (gs_ws E σ) := by
  have key : ∀ (k : Nat) (q : Nat × va_E), (gs_ws E σ)[k]? = some q → k < 79 ∧ q.1 = gs_ad E k := by
    intro k q hk
    have hl : k < 79 := by rw [← gs_ws_len E σ]; exact (List.getElem?_eq_some_iff.mp hk).1
    rw [gs_ws_get E σ hl] at hk
    cases hk
    exact ⟨hl, rfl⟩
  refine ⟨fun i j p q hi hj e => ?_, fun k q hk => ?_⟩
  · obtain ⟨h1, e1⟩ := key i p hi
    obtain ⟨h2, e2⟩ := key j q hj
    exact h.1 i j h1 h2 (by rw [← e1, ← e2]; exact e)
  · obtain ⟨h1, e1⟩ := key k q hk
    rw [e1]
    exact h.2 k h1
/-- the world with one cell's row changed -/
theorem gs_ws_set {E : gs_E} {σ σ' : gs_Mem} {r : Nat} (hr : r < 79) (ho : ∀ a, a ≠ r → σ' a = σ a) {x : va_E} (hx : gs_ent E (σ' r) (SH r) = x) : (gs_ws E σ).set r (gs_ad E r, x) = gs_ws E σ' := by
  apply List.ext_getElem?
  intro k
  by_cases hk : k < 79
  · rw [gs_ws_get E σ' hk]
    by_cases e : k = r
    · subst e
      rw [List.getElem?_set_self (by rw [gs_ws_len]; exact hk), hx]
    · rw [List.getElem?_set_ne (Ne.symm e), gs_ws_get E σ hk, ho k e]
  · rw [List.getElem?_eq_none (by rw [List.length_set, gs_ws_len]; omega), List.getElem?_eq_none (by rw [gs_ws_len]; omega)]
theorem gs_st_o (σ : gs_Mem) (r k : Nat) (x : Int) : ∀ a, a ≠ r → gs_st σ r k x a = σ a := by
  intro a ha
  funext j
  simp [gs_st, ha]
theorem gs_cp_o (σ : gs_Mem) (r1 sp r2 dp n : Nat) : ∀ a, a ≠ r2 → gs_cp σ r1 sp r2 dp n a = σ a := by
  intro a ha
  funext j
  simp [gs_cp, ha]
theorem gs_st_s (σ : gs_Mem) (r k : Nat) (x : Int) (j : Nat) : gs_st σ r k x r j = if j = k then x else σ r j := by
  simp [gs_st]
/-! ===== a method's walk over the memory ===== -/
/-- code, locals, own class, room, return type, cells, slots, what else holds, the end -/
abbrev gs_M : Type := ByteArray × (Nat × (String × (Room × (Option FieldType × (Nat × (Nat × ((Array Value → State → Prop) × (Int → gs_Mem → List Frame → Array Value → State → State → Prop))))))))
def mM_cc (M : gs_M) : ByteArray := M.1
def mM_nL (M : gs_M) : Nat := M.2.1
def mM_own (M : gs_M) : String := M.2.2.1
def mM_R (M : gs_M) : Room := M.2.2.2.1
def mM_ret (M : gs_M) : Option FieldType := M.2.2.2.2.1
def mM_c (M : gs_M) : Nat := M.2.2.2.2.2.1
def mM_s (M : gs_M) : Nat := M.2.2.2.2.2.2.1
def mM_X (M : gs_M) : Array Value → State → Prop := M.2.2.2.2.2.2.2.1
def mM_Z (M : gs_M) : Int → gs_Mem → List Frame → Array Value → State → State → Prop := M.2.2.2.2.2.2.2.2
def gs_ctx (M : gs_M) (p : Program) (s : State) (m : MethodId) (args : Array Value) (meth : Method) (c : Code) : Prop :=
  p.tables.exec = Jvm.exec ∧ c.code = mM_cc M ∧ c.maxLocals = mM_nL M ∧ meth.sig.returnType = mM_ret M ∧ meth.locks = false ∧ s.vm.findClass (mM_own M) = some m.cls ∧ (∀ w ∈ WS, w.before args s = true) ∧ gs_NW s ∧ mM_X M args s
def gs_G (E : gs_E) (M : gs_M) (r : Int) (σ' : gs_Mem) (pc : Nat) (L : List (Nat × Value)) (S : List Value) (σ : gs_Mem) : Prop :=
  gs_Ap E → ∀ (p : Program) (e : Env) (s : State) (m : MethodId) (args : Array Value) (below : List Frame) (meth : Method) (c : Code) (H : Heap) (locs : List Loc) (ls : Array Slot),
    gs_ctx M p s m args meth c → va_K (gs_D E) vwCl (gs_tys E) s → va_P (gs_D E) vwCl (gs_ws E σ) H → va_S (gs_A E) s.heap H locs → lv_has ls (mM_nL M) L →
    W p (gs_l E) e (mM_R M) s m args below meth c H locs (mM_c M) (mM_s M) (mM_Z M r σ' below args s) (F0 m pc ls S)
/-- the answer o (none: nothing is said) is what the walk from here comes to -/
def gs_K {α : Type} (E : gs_E) (M : gs_M) (out : α → Int × gs_Mem) (o : Option α) (pc : Nat) (L : List (Nat × Value)) (S : List Value) (σ : gs_Mem) : Prop :=
  ∀ a, o = some a → gs_G E M (out a).1 (out a).2 pc L S σ
/-- the answer as a value: 0 an int, 1 a long, else none -/
def gs_rv (κ : Nat) (r : Int) : Option Value := match κ with
  | 0 => some (gi r)
  | 1 => some (gl r)
  | _ => none
def gs_B (E : gs_E) (σ : gs_Mem) (U : State) : Prop := va_P (gs_D E) vwCl (gs_ws E σ) U.heap ∧ va_K (gs_D E) vwCl (gs_tys E) U ∧ gs_NW U
def gs_Q (E : gs_E) (κ : Nat) (r : Int) (σ' : gs_Mem) : Array Value → State → Outcome → State → Prop := fun _ st oc t => oc = .returned (gs_rv κ r) ∧ gs_B E σ' t ∧ va_F (gs_A E) st t
/-- a method's contract: from the memory σ with these arguments it ends, with o's answer and memory -/
def gs_C {α : Type} (E : gs_E) (y : MethodName) (bytes : ByteArray) (maxL : Nat) (ret : Option FieldType) (κ : Nat) (rm : Room) (av : List Value) (σ : gs_Mem) (o : Option α) (out : α → Int × gs_Mem) : Prop :=
  gs_Ap E → ∀ a, o = some a → Met (gs_l E) y (Cond.code y bytes maxL ret :: WS) rm (va_Pc av (gs_B E σ)) (gs_Q E κ (out a).1 (out a).2) 0 0 (gs_A E)
/-- the walk's data of a method with a contract -/
def gs_MC (E : gs_E) (y : MethodName) (bytes : ByteArray) (maxL : Nat) (ret : Option FieldType) (κ : Nat) (rm : Room) : gs_M :=
  (bytes, maxL, y.cls, rm, ret, 0, 0, fun _ _ => True, fun r σ' below args s => MQ below (gs_Q E κ r σ') args s 0 0 (gs_A E))
set_option maxHeartbeats 4000000 in
/-- a contract out of a walk from the method's entry -/
theorem gs_enter {α : Type} {E : gs_E} {y : MethodName} {bytes : ByteArray} {maxL : Nat} {ret : Option FieldType} {κ : Nat} {rm : Room} {av : List Value} {σ : gs_Mem} {o : Option α} {out : α → Int × gs_Mem} (L : List (Nat × Value))
    (hy : plainName y.cls = true) (hc0 : rm.cells = 0) (hs0 : rm.slots = 0) (hlen : (lg_sl av).length ≤ maxL) (hL : lv_args 0 av = L)
    (h : gs_K E (gs_MC E y bytes maxL ret κ rm) out o 0 L [] σ) : gs_C E y bytes maxL ret κ rm av σ o out := by
  intro hE a ha
  have h := h a ha hE
  refine Met.ofW (cc := bytes) (maxL := maxL) (ret := ret) hy rfl ?_
  intro p e s m args below meth c s₁ B hml hv
  obtain ⟨rfl, hP, hK, hN⟩ := hv
  have hts := atoms_spec (ws := Cond.code y bytes maxL ret :: WS) B.pre
  have hl := lv_entry av (n := maxL) hlen
  rw [hL] at hl
  rw [lg_entry_eq]
  exact h p e s m _ below meth c s.heap [] _ ⟨B.exec, B.bytes, hml, B.returns, B.notSynchronized, findClass_of_methodNamed B.named, fun w hw => hts w (List.mem_cons_of_mem _ hw), hN, trivial⟩ hK hP va_S.rf hl
end
section
theorem ol_of_i (x : Int) : (Int32.ofInt x).toInt64 = Int64.ofInt (gn x) := by
  apply Int64.toInt_inj.mp
  rw [Int32.toInt_toInt64, Int64.toInt_ofInt]
  have h := gn_rng x
  exact ((bm64 (gn x)).2 (by omega) (by omega)).symm
theorem oi_of_l (x : Int) : (Int64.ofInt x).toInt32 = Int32.ofInt x := by
  apply Int32.toInt_inj.mp
  rw [Int64.toInt_toInt32, Int64.toInt_ofInt, Int32.toInt_ofInt]
  exact Int.bmod_bmod_of_dvd (by decide)
theorem lg_gcmp (x y : Int) : lg_cmp (Int64.ofInt x) (Int64.ofInt y) = Int32.ofInt (gcmp x y) := by
  unfold lg_cmp gcmp
  have e1 : (Int64.ofInt x > Int64.ofInt y) ↔ gm y < gm x := Int64.lt_iff_toInt_lt
  by_cases h : gm y < gm x
  · rw [if_pos (e1.mpr h), if_pos h]; decide +kernel
  · rw [if_neg (fun q => h (e1.mp q)), if_neg h]
    by_cases h2 : gm x = gm y
    · rw [if_pos (ol_inj.mpr h2), if_pos h2]; decide +kernel
    · rw [if_neg (fun q => h2 (ol_inj.mp q)), if_neg h2]; decide +kernel
theorem ci_eq {x y : Int} : Int32.ofInt x = Int32.ofInt y ↔ gn x = gn y := oi_inj
theorem ci_ne {x y : Int} : Int32.ofInt x ≠ Int32.ofInt y ↔ ¬ gn x = gn y := not_congr oi_inj
theorem ci_lt {x y : Int} : Int32.ofInt x < Int32.ofInt y ↔ gn x < gn y := oi_lt
theorem ci_le {x y : Int} : Int32.ofInt x ≤ Int32.ofInt y ↔ gn x ≤ gn y := oi_le
theorem ci_ge {x y : Int} : Int32.ofInt y ≤ Int32.ofInt x ↔ gn y ≤ gn x := oi_le
theorem ci_gt {x y : Int} : Int32.ofInt y < Int32.ofInt x ↔ gn y < gn x := oi_lt
theorem c0_eq {x : Int} : Int32.ofInt x = 0 ↔ gn x = 0 := by rw [← oi_0, oi_inj, gn_0]
theorem c0_ne {x : Int} : Int32.ofInt x ≠ 0 ↔ ¬ gn x = 0 := not_congr c0_eq
theorem c0_lt {x : Int} : Int32.ofInt x < 0 ↔ gn x < 0 := by rw [← oi_0, oi_lt, gn_0]
theorem c0_le {x : Int} : Int32.ofInt x ≤ 0 ↔ gn x ≤ 0 := by rw [← oi_0, oi_le, gn_0]
theorem c0_ge {x : Int} : 0 ≤ Int32.ofInt x ↔ 0 ≤ gn x := by rw [← oi_0, oi_le, gn_0]
theorem c0_gt {x : Int} : 0 < Int32.ofInt x ↔ 0 < gn x := by rw [← oi_0, oi_lt, gn_0]
section GKrows
variable {α β : Type} {E : gs_E} {M : gs_M} {out : α → Int × gs_Mem} {o o1 o2 o' : Option α} {pc tgt : Nat} {L L' : List (Nat × Value)} {S S' : List Value} {σ : gs_Mem}
theorem gk_imp (h : ∀ a, o = some a → o' = some a) (k : gs_K E M out o' pc L S σ) : gs_K E M out o pc L S σ := fun a ha => k a (h a ha)
theorem gk_none : gs_K E M out none pc L S σ := fun a ha => by cases ha
/-- an instruction that keeps locals and memory -/
theorem gk_go {pc' : Nat}
    (h : ∀ (p : Program) (e : Env) (s : State) (m : MethodId) (args : Array Value) (below : List Frame) (meth : Method) (c : Code) (H : Heap) (locs : List Loc) (ls : Array Slot) (Q : State → Prop), gs_ctx M p s m args meth c → lv_has ls (mM_nL M) L →
      W p (gs_l E) e (mM_R M) s m args below meth c H locs (mM_c M) (mM_s M) Q (F0 m pc' ls S') → W p (gs_l E) e (mM_R M) s m args below meth c H locs (mM_c M) (mM_s M) Q (F0 m pc ls S))
    (k : gs_K E M out o pc' L S' σ) : gs_K E M out o pc L S σ :=
  fun a ha hE p e s m args below meth c H locs ls hc hK hP hS hl => h p e s m args below meth c H locs ls _ hc hl (k a ha hE p e s m args below meth c H locs ls hc hK hP hS hl)
/-- an instruction that changes the locals -/
theorem gk_goL {pc' : Nat}
    (h : ∀ (p : Program) (e : Env) (s : State) (m : MethodId) (args : Array Value) (below : List Frame) (meth : Method) (c : Code) (H : Heap) (locs : List Loc) (ls : Array Slot) (Q : State → Prop), gs_ctx M p s m args meth c → lv_has ls (mM_nL M) L →
      (∀ ls' : Array Slot, lv_has ls' (mM_nL M) L' → W p (gs_l E) e (mM_R M) s m args below meth c H locs (mM_c M) (mM_s M) Q (F0 m pc' ls' S')) → W p (gs_l E) e (mM_R M) s m args below meth c H locs (mM_c M) (mM_s M) Q (F0 m pc ls S))
    (k : gs_K E M out o pc' L' S' σ) : gs_K E M out o pc L S σ :=
  fun a ha hE p e s m args below meth c H locs ls hc hK hP hS hl => h p e s m args below meth c H locs ls _ hc hl (fun ls' hl' => k a ha hE p e s m args below meth c H locs ls' hc hK hP hS hl')
/-- an instruction that reads the memory -/
theorem gk_goR {pc' : Nat}
    (h : ∀ (p : Program) (e : Env) (s : State) (m : MethodId) (args : Array Value) (below : List Frame) (meth : Method) (c : Code) (H : Heap) (locs : List Loc) (ls : Array Slot) (Q : State → Prop), gs_ctx M p s m args meth c → va_K (gs_D E) vwCl (gs_tys E) s → va_P (gs_D E) vwCl (gs_ws E σ) H →
      W p (gs_l E) e (mM_R M) s m args below meth c H locs (mM_c M) (mM_s M) Q (F0 m pc' ls S') → W p (gs_l E) e (mM_R M) s m args below meth c H locs (mM_c M) (mM_s M) Q (F0 m pc ls S))
    (k : gs_K E M out o pc' L S' σ) : gs_K E M out o pc L S σ :=
  fun a ha hE p e s m args below meth c H locs ls hc hK hP hS hl => h p e s m args below meth c H locs ls _ hc hK hP (k a ha hE p e s m args below meth c H locs ls hc hK hP hS hl)
/-- an instruction that writes the memory -/
theorem gk_goW {pc' : Nat} {σ' : gs_Mem}
    (h : ∀ (p : Program) (e : Env) (s : State) (m : MethodId) (args : Array Value) (below : List Frame) (meth : Method) (c : Code) (H : Heap) (locs : List Loc) (ls : Array Slot) (Q : State → Prop), gs_ctx M p s m args meth c → va_K (gs_D E) vwCl (gs_tys E) s → va_P (gs_D E) vwCl (gs_ws E σ) H → va_D (gs_A E) (gs_ws E σ) → va_S (gs_A E) s.heap H locs → lv_has ls (mM_nL M) L →
      (∀ (H1 : Heap) (locs1 : List Loc), va_P (gs_D E) vwCl (gs_ws E σ') H1 → va_S (gs_A E) s.heap H1 locs1 → W p (gs_l E) e (mM_R M) s m args below meth c H1 locs1 (mM_c M) (mM_s M) Q (F0 m pc' ls S')) → W p (gs_l E) e (mM_R M) s m args below meth c H locs (mM_c M) (mM_s M) Q (F0 m pc ls S))
    (k : gs_K E M out o pc' L S' σ') : gs_K E M out o pc L S σ :=
  fun a ha hE p e s m args below meth c H locs ls hc hK hP hS hl => h p e s m args below meth c H locs ls _ hc hK hP (gs_ws_D σ hE) hS hl (fun H1 locs1 hP1 hS1 => k a ha hE p e s m args below meth c H1 locs1 ls hc hK hP1 hS1 hl)
/-- fewer locals, in any order -/
theorem gk_sub (ks : List Nat) (h : lv_pick L ks = L') (k : gs_K E M out o pc L' S σ) : gs_K E M out o pc L S σ :=
  fun a ha hE p e s m args below meth c H locs ls hc hK hP hS hl => k a ha hE p e s m args below meth c H locs ls hc hK hP hS (lv_sub hl ks h)
theorem gk_guard {P : Prop} [Decidable P] (k : P → gs_K E M out o pc L S σ) : gs_K E M out (if P then o else none) pc L S σ := by
  intro a ha
  by_cases h : P
  · rw [if_pos h] at ha; exact k h a ha
  · rw [if_neg h] at ha; cases ha
theorem gk_ite {P : Prop} [Decidable P] (k1 : P → gs_K E M out o1 pc L S σ) (k2 : ¬ P → gs_K E M out o2 pc L S σ) : gs_K E M out (if P then o1 else o2) pc L S σ := by
  intro a ha
  by_cases h : P
  · rw [if_pos h] at ha; exact k1 h a ha
  · rw [if_neg h] at ha; exact k2 h a ha

theorem gk_iconst {n : Int} (d : decode (mM_cc M) pc = .ok (.iconst n, 1)) (k : gs_K E M out o (pc + 1) L (gi n :: S) σ) : gs_K E M out o pc L S σ :=
  gk_go (fun p e s m args below meth c H locs ls Q hc hl kk => lv_iconst hc.1 hc.2.1 d rfl kk) k
theorem gk_bipush {n : Int} (d : decode (mM_cc M) pc = .ok (.bipush n, 2)) (hv : (Int8.ofInt n).toInt32 = Int32.ofInt n) (k : gs_K E M out o (pc + 2) L (gi n :: S) σ) : gs_K E M out o pc L S σ :=
  gk_go (fun p e s m args below meth c H locs ls Q hc hl kk => lv_bipush hc.1 hc.2.1 d hv kk) k
theorem gk_sipush {n : Int} (d : decode (mM_cc M) pc = .ok (.sipush n, 3)) (hv : (Int16.ofInt n).toInt32 = Int32.ofInt n) (k : gs_K E M out o (pc + 3) L (gi n :: S) σ) : gs_K E M out o pc L S σ :=
  gk_go (fun p e s m args below meth c H locs ls Q hc hl kk => lv_sipush hc.1 hc.2.1 d hv kk) k
theorem gk_lconst {n : Fin 2} {x : Int} (d : decode (mM_cc M) pc = .ok (.lconst n, 1)) (hv : Int64.ofNat (n : Nat) = Int64.ofInt x) (k : gs_K E M out o (pc + 1) L (gl x :: S) σ) : gs_K E M out o pc L S σ :=
  gk_go (fun p e s m args below meth c H locs ls Q hc hl kk => lv_lconst hc.1 hc.2.1 d hv kk) k
theorem gk_ldc2 {index : Nat} {x : Int} {v : Int64} {own : String} (ho : mM_own M = own) (d : decode (mM_cc M) pc = .ok (.ldc2_w index, 3)) (hw : Cond.constantLong own index v ∈ WS) (hv : v = Int64.ofInt x) (k : gs_K E M out o (pc + 3) L (gl x :: S) σ) : gs_K E M out o pc L S σ :=
  gk_go (fun p e s m args below meth c H locs ls Q hc hl kk => by subst ho; subst hv; exact lv_ldc2 hc.1 hc.2.1 hc.2.2.2.2.2.1 (hc.2.2.2.2.2.2.1 _ hw) d kk) k
theorem gk_ldc {index : Nat} {x : Int} {v : Int32} {own : String} (ho : mM_own M = own) (d : decode (mM_cc M) pc = .ok (.ldc index, 2)) (hw : Cond.constant own index v ∈ WS) (hv : v = Int32.ofInt x) (k : gs_K E M out o (pc + 2) L (gi x :: S) σ) : gs_K E M out o pc L S σ :=
  gk_go (fun p e s m args below meth c H locs ls Q hc hl kk => by subst ho; subst hv; exact lv_ldc hc.1 hc.2.1 hc.2.2.2.2.2.1 (hc.2.2.2.2.2.2.1 _ hw) d kk) k
theorem gk_ldcw {index : Nat} {x : Int} {v : Int32} {own : String} (ho : mM_own M = own) (d : decode (mM_cc M) pc = .ok (.ldc_w index, 3)) (hw : Cond.constant own index v ∈ WS) (hv : v = Int32.ofInt x) (k : gs_K E M out o (pc + 3) L (gi x :: S) σ) : gs_K E M out o pc L S σ :=
  gk_go (fun p e s m args below meth c H locs ls Q hc hl kk => by subst ho; subst hv; exact lv_ldcw hc.1 hc.2.1 hc.2.2.2.2.2.1 (hc.2.2.2.2.2.2.1 _ hw) d kk) k
theorem gk_iload_n {n : Fin 4} {x : Int} (j : Nat) (d : decode (mM_cc M) pc = .ok (.iload_n n, 1)) (hj : L[j]? = some ((n : Nat), gi x)) (k : gs_K E M out o (pc + 1) L (gi x :: S) σ) : gs_K E M out o pc L S σ :=
  gk_go (fun p e s m args below meth c H locs ls Q hc hl kk => lv_iload_n hc.1 hc.2.1 d rfl (lv_at hl j hj) kk) k
theorem gk_iload {i : Nat} {x : Int} (j : Nat) (d : decode (mM_cc M) pc = .ok (.iload i, 2)) (hj : L[j]? = some (i, gi x)) (k : gs_K E M out o (pc + 2) L (gi x :: S) σ) : gs_K E M out o pc L S σ :=
  gk_go (fun p e s m args below meth c H locs ls Q hc hl kk => lv_iload hc.1 hc.2.1 d (lv_at hl j hj) kk) k
theorem gk_lload_n {n : Fin 4} {x : Int} (j : Nat) (d : decode (mM_cc M) pc = .ok (.lload_n n, 1)) (hj : L[j]? = some ((n : Nat), gl x)) (k : gs_K E M out o (pc + 1) L (gl x :: S) σ) : gs_K E M out o pc L S σ :=
  gk_go (fun p e s m args below meth c H locs ls Q hc hl kk => lv_lload_n hc.1 hc.2.1 d rfl (lv_at hl j hj) kk) k
theorem gk_lload {i : Nat} {x : Int} (j : Nat) (d : decode (mM_cc M) pc = .ok (.lload i, 2)) (hj : L[j]? = some (i, gl x)) (k : gs_K E M out o (pc + 2) L (gl x :: S) σ) : gs_K E M out o pc L S σ :=
  gk_go (fun p e s m args below meth c H locs ls Q hc hl kk => lv_lload hc.1 hc.2.1 d (lv_at hl j hj) kk) k
theorem gk_aload_n {n : Fin 4} {x : Nat} (j : Nat) (d : decode (mM_cc M) pc = .ok (.aload_n n, 1)) (hj : L[j]? = some ((n : Nat), gr E x)) (k : gs_K E M out o (pc + 1) L (gr E x :: S) σ) : gs_K E M out o pc L S σ :=
  gk_go (fun p e s m args below meth c H locs ls Q hc hl kk => lv_aload_n hc.1 hc.2.1 d rfl (lv_at hl j hj) kk) k
theorem gk_aload {i : Nat} {x : Nat} (j : Nat) (d : decode (mM_cc M) pc = .ok (.aload i, 2)) (hj : L[j]? = some (i, gr E x)) (k : gs_K E M out o (pc + 2) L (gr E x :: S) σ) : gs_K E M out o pc L S σ :=
  gk_go (fun p e s m args below meth c H locs ls Q hc hl kk => lv_aload hc.1 hc.2.1 d (lv_at hl j hj) kk) k
theorem gk_istore_n {n : Fin 4} {x : Int} (d : decode (mM_cc M) pc = .ok (.istore_n n, 1)) (hn : (n : Nat) < mM_nL M) (hL : ((n : Nat), gi x) :: L.filter (fun q => !(q.1 == (n : Nat)) && !(q.1 + 1 == (n : Nat) && q.2.category == 2)) = L') (k : gs_K E M out o (pc + 1) L' S σ) : gs_K E M out o pc L (gi x :: S) σ :=
  gk_goL (fun p e s m args below meth c H locs ls Q hc hl kk => lv_istore_n hc.1 hc.2.1 d rfl hl hn hL kk) k
theorem gk_istore {i : Nat} {x : Int} (d : decode (mM_cc M) pc = .ok (.istore i, 2)) (hn : i < mM_nL M) (hL : (i, gi x) :: L.filter (fun q => !(q.1 == i) && !(q.1 + 1 == i && q.2.category == 2)) = L') (k : gs_K E M out o (pc + 2) L' S σ) : gs_K E M out o pc L (gi x :: S) σ :=
  gk_goL (fun p e s m args below meth c H locs ls Q hc hl kk => lv_istore hc.1 hc.2.1 d hl hn hL kk) k
theorem gk_astore_n {n : Fin 4} {x : Nat} (d : decode (mM_cc M) pc = .ok (.astore_n n, 1)) (hn : (n : Nat) < mM_nL M) (hL : ((n : Nat), gr E x) :: L.filter (fun q => !(q.1 == (n : Nat)) && !(q.1 + 1 == (n : Nat) && q.2.category == 2)) = L') (k : gs_K E M out o (pc + 1) L' S σ) : gs_K E M out o pc L (gr E x :: S) σ :=
  gk_goL (fun p e s m args below meth c H locs ls Q hc hl kk => lv_astore_n hc.1 hc.2.1 d rfl hl hn hL kk) k
theorem gk_astore {i : Nat} {x : Nat} (d : decode (mM_cc M) pc = .ok (.astore i, 2)) (hn : i < mM_nL M) (hL : (i, gr E x) :: L.filter (fun q => !(q.1 == i) && !(q.1 + 1 == i && q.2.category == 2)) = L') (k : gs_K E M out o (pc + 2) L' S σ) : gs_K E M out o pc L (gr E x :: S) σ :=
  gk_goL (fun p e s m args below meth c H locs ls Q hc hl kk => lv_astore hc.1 hc.2.1 d hl hn hL kk) k
theorem gk_lstore_n {n : Fin 4} {x : Int} (d : decode (mM_cc M) pc = .ok (.lstore_n n, 1)) (hn : (n : Nat) + 1 < mM_nL M) (hL : ((n : Nat), gl x) :: L.filter (fun q => !(q.1 == (n : Nat)) && (!(q.1 == (n : Nat) + 1) && !(q.1 + 1 == (n : Nat) && q.2.category == 2))) = L') (k : gs_K E M out o (pc + 1) L' S σ) : gs_K E M out o pc L (gl x :: S) σ :=
  gk_goL (fun p e s m args below meth c H locs ls Q hc hl kk => lv_lstore_n hc.1 hc.2.1 d rfl hl hn hL kk) k
theorem gk_lstore {i : Nat} {x : Int} (d : decode (mM_cc M) pc = .ok (.lstore i, 2)) (hn : i + 1 < mM_nL M) (hL : (i, gl x) :: L.filter (fun q => !(q.1 == i) && (!(q.1 == i + 1) && !(q.1 + 1 == i && q.2.category == 2))) = L') (k : gs_K E M out o (pc + 2) L' S σ) : gs_K E M out o pc L (gl x :: S) σ :=
  gk_goL (fun p e s m args below meth c H locs ls Q hc hl kk => lv_lstore hc.1 hc.2.1 d hl hn hL kk) k
theorem gk_iinc {i : Nat} {n x : Int} (j : Nat) (d : decode (mM_cc M) pc = .ok (.iinc i n, 3)) (hj : L[j]? = some (i, gi x)) (hn : i < mM_nL M) (hL : (i, gi (x + n)) :: L.filter (fun q => !(q.1 == i) && !(q.1 + 1 == i && q.2.category == 2)) = L') (k : gs_K E M out o (pc + 3) L' S σ) : gs_K E M out o pc L S σ :=
  gk_goL (fun p e s m args below meth c H locs ls Q hc hl kk => lv_iinc hc.1 hc.2.1 d hl hj (oi_add x n) hn hL kk) k
theorem gk_iadd {x y : Int} (d : decode (mM_cc M) pc = .ok (.iadd, 1)) (k : gs_K E M out o (pc + 1) L (gi (x + y) :: S) σ) : gs_K E M out o pc L (gi y :: gi x :: S) σ :=
  gk_go (fun p e s m args below meth c H locs ls Q hc hl kk => lv_iadd hc.1 hc.2.1 d (by rw [oi_add]; exact kk)) k
theorem gk_isub {x y : Int} (d : decode (mM_cc M) pc = .ok (.isub, 1)) (k : gs_K E M out o (pc + 1) L (gi (x - y) :: S) σ) : gs_K E M out o pc L (gi y :: gi x :: S) σ :=
  gk_go (fun p e s m args below meth c H locs ls Q hc hl kk => lv_isub hc.1 hc.2.1 d (by rw [oi_sub]; exact kk)) k
theorem gk_imul {x y : Int} (d : decode (mM_cc M) pc = .ok (.imul, 1)) (k : gs_K E M out o (pc + 1) L (gi (x * y) :: S) σ) : gs_K E M out o pc L (gi y :: gi x :: S) σ :=
  gk_go (fun p e s m args below meth c H locs ls Q hc hl kk => lv_imul hc.1 hc.2.1 d (by rw [oi_mul]; exact kk)) k
theorem gk_iand {x y : Int} (d : decode (mM_cc M) pc = .ok (.iand, 1)) (k : gs_K E M out o (pc + 1) L (gi (gand x y) :: S) σ) : gs_K E M out o pc L (gi y :: gi x :: S) σ :=
  gk_go (fun p e s m args below meth c H locs ls Q hc hl kk => lv_iand hc.1 hc.2.1 d (by unfold gi gand at kk; rw [oi_toInt] at kk; exact kk)) k
theorem gk_ior {x y : Int} (d : decode (mM_cc M) pc = .ok (.ior, 1)) (k : gs_K E M out o (pc + 1) L (gi (gor x y) :: S) σ) : gs_K E M out o pc L (gi y :: gi x :: S) σ :=
  gk_go (fun p e s m args below meth c H locs ls Q hc hl kk => lv_ior hc.1 hc.2.1 d (by unfold gi gor at kk; rw [oi_toInt] at kk; exact kk)) k
theorem gk_ixor {x y : Int} (d : decode (mM_cc M) pc = .ok (.ixor, 1)) (k : gs_K E M out o (pc + 1) L (gi (gxor x y) :: S) σ) : gs_K E M out o pc L (gi y :: gi x :: S) σ :=
  gk_go (fun p e s m args below meth c H locs ls Q hc hl kk => lv_ixor hc.1 hc.2.1 d (by unfold gi gxor at kk; rw [oi_toInt] at kk; exact kk)) k
theorem gk_ishl {x y : Int} (d : decode (mM_cc M) pc = .ok (.ishl, 1)) (k : gs_K E M out o (pc + 1) L (gi (gshl x y) :: S) σ) : gs_K E M out o pc L (gi y :: gi x :: S) σ :=
  gk_go (fun p e s m args below meth c H locs ls Q hc hl kk => lv_ishl hc.1 hc.2.1 d (by unfold gi gshl at kk; rw [oi_toInt] at kk; exact kk)) k
theorem gk_ishr {x y : Int} (d : decode (mM_cc M) pc = .ok (.ishr, 1)) (k : gs_K E M out o (pc + 1) L (gi (gshr x y) :: S) σ) : gs_K E M out o pc L (gi y :: gi x :: S) σ :=
  gk_go (fun p e s m args below meth c H locs ls Q hc hl kk => lv_ishr hc.1 hc.2.1 d (by unfold gi gshr at kk; rw [oi_toInt] at kk; exact kk)) k
theorem gk_iushr {x y : Int} (d : decode (mM_cc M) pc = .ok (.iushr, 1)) (k : gs_K E M out o (pc + 1) L (gi (gushr x y) :: S) σ) : gs_K E M out o pc L (gi y :: gi x :: S) σ :=
  gk_go (fun p e s m args below meth c H locs ls Q hc hl kk => lv_iushr hc.1 hc.2.1 d (oi_toInt _).symm kk) k
theorem gk_ineg {x : Int} (d : decode (mM_cc M) pc = .ok (.ineg, 1)) (k : gs_K E M out o (pc + 1) L (gi (0 - x) :: S) σ) : gs_K E M out o pc L (gi x :: S) σ :=
  gk_go (fun p e s m args below meth c H locs ls Q hc hl kk => lv_ineg hc.1 hc.2.1 d (by unfold gi at kk; rw [← oi_sub, oi_0] at kk; exact kk)) k
theorem gk_idiv {x y : Int} (d : decode (mM_cc M) pc = .ok (.idiv, 1)) (h0 : ¬ gn y = 0) (k : gs_K E M out o (pc + 1) L (gi (gdiv x y) :: S) σ) : gs_K E M out o pc L (gi y :: gi x :: S) σ :=
  gk_go (fun p e s m args below meth c H locs ls Q hc hl kk => lv_idiv hc.1 hc.2.1 d (fun q => h0 (by rw [← oi_0, oi_inj, gn_0] at q; exact q)) (by unfold gi gdiv at kk; rw [oi_toInt] at kk; exact kk)) k
theorem gk_irem {x y : Int} (d : decode (mM_cc M) pc = .ok (.irem, 1)) (h0 : ¬ gn y = 0) (k : gs_K E M out o (pc + 1) L (gi (grem x y) :: S) σ) : gs_K E M out o pc L (gi y :: gi x :: S) σ :=
  gk_go (fun p e s m args below meth c H locs ls Q hc hl kk => lv_irem hc.1 hc.2.1 d (fun q => h0 (by rw [← oi_0, oi_inj, gn_0] at q; exact q)) (by unfold gi grem at kk; rw [oi_toInt] at kk; exact kk)) k
theorem gm_0 : gm 0 = 0 := by decide +kernel
theorem ol_0 : Int64.ofInt 0 = 0 := by decide +kernel
theorem gk_ldiv {x y : Int} (d : decode (mM_cc M) pc = .ok (.ldiv, 1)) (h0 : ¬ gm y = 0) (k : gs_K E M out o (pc + 1) L (gl (gldiv x y) :: S) σ) : gs_K E M out o pc L (gl y :: gl x :: S) σ :=
  gk_go (fun p e s m args below meth c H locs ls Q hc hl kk => lv_ldiv hc.1 hc.2.1 d (fun q => h0 (by rw [← ol_0, ol_inj, gm_0] at q; exact q)) (by unfold gl gldiv at kk; rw [ol_toInt] at kk; exact kk)) k
theorem gk_lrem {x y : Int} (d : decode (mM_cc M) pc = .ok (.lrem, 1)) (h0 : ¬ gm y = 0) (k : gs_K E M out o (pc + 1) L (gl (glrem x y) :: S) σ) : gs_K E M out o pc L (gl y :: gl x :: S) σ :=
  gk_go (fun p e s m args below meth c H locs ls Q hc hl kk => lv_lrem hc.1 hc.2.1 d (fun q => h0 (by rw [← ol_0, ol_inj, gm_0] at q; exact q)) (by unfold gl glrem at kk; rw [ol_toInt] at kk; exact kk)) k
theorem gk_ladd {x y : Int} (d : decode (mM_cc M) pc = .ok (.ladd, 1)) (k : gs_K E M out o (pc + 1) L (gl (x + y) :: S) σ) : gs_K E M out o pc L (gl y :: gl x :: S) σ :=
  gk_go (fun p e s m args below meth c H locs ls Q hc hl kk => lv_ladd hc.1 hc.2.1 d (by rw [ol_add]; exact kk)) k
theorem gk_lsub {x y : Int} (d : decode (mM_cc M) pc = .ok (.lsub, 1)) (k : gs_K E M out o (pc + 1) L (gl (x - y) :: S) σ) : gs_K E M out o pc L (gl y :: gl x :: S) σ :=
  gk_go (fun p e s m args below meth c H locs ls Q hc hl kk => lv_lsub hc.1 hc.2.1 d (by rw [ol_sub]; exact kk)) k
theorem gk_lmul {x y : Int} (d : decode (mM_cc M) pc = .ok (.lmul, 1)) (k : gs_K E M out o (pc + 1) L (gl (x * y) :: S) σ) : gs_K E M out o pc L (gl y :: gl x :: S) σ :=
  gk_go (fun p e s m args below meth c H locs ls Q hc hl kk => lv_lmul hc.1 hc.2.1 d (by rw [ol_mul]; exact kk)) k
theorem gk_land {x y : Int} (d : decode (mM_cc M) pc = .ok (.land, 1)) (k : gs_K E M out o (pc + 1) L (gl (gland x y) :: S) σ) : gs_K E M out o pc L (gl y :: gl x :: S) σ :=
  gk_go (fun p e s m args below meth c H locs ls Q hc hl kk => lv_land hc.1 hc.2.1 d (by unfold gl gland at kk; rw [ol_toInt] at kk; exact kk)) k
theorem gk_lor {x y : Int} (d : decode (mM_cc M) pc = .ok (.lor, 1)) (k : gs_K E M out o (pc + 1) L (gl (glor x y) :: S) σ) : gs_K E M out o pc L (gl y :: gl x :: S) σ :=
  gk_go (fun p e s m args below meth c H locs ls Q hc hl kk => lv_lor hc.1 hc.2.1 d (by unfold gl glor at kk; rw [ol_toInt] at kk; exact kk)) k
theorem gk_lshl {x y : Int} (d : decode (mM_cc M) pc = .ok (.lshl, 1)) (k : gs_K E M out o (pc + 1) L (gl (glshl x y) :: S) σ) : gs_K E M out o pc L (gi y :: gl x :: S) σ :=
  gk_go (fun p e s m args below meth c H locs ls Q hc hl kk => lv_lshl hc.1 hc.2.1 d (ol_toInt _).symm kk) k
theorem gk_i2l {x : Int} (d : decode (mM_cc M) pc = .ok (.i2l, 1)) (k : gs_K E M out o (pc + 1) L (gl (gn x) :: S) σ) : gs_K E M out o pc L (gi x :: S) σ :=
  gk_go (fun p e s m args below meth c H locs ls Q hc hl kk => lv_i2l hc.1 hc.2.1 d (ol_of_i x) kk) k
theorem gk_l2i {x : Int} (d : decode (mM_cc M) pc = .ok (.l2i, 1)) (k : gs_K E M out o (pc + 1) L (gi x :: S) σ) : gs_K E M out o pc L (gl x :: S) σ :=
  gk_go (fun p e s m args below meth c H locs ls Q hc hl kk => lv_l2i hc.1 hc.2.1 d (oi_of_l x) kk) k
theorem gk_i2b {x : Int} (d : decode (mM_cc M) pc = .ok (.i2b, 1)) (k : gs_K E M out o (pc + 1) L (gi (gb x) :: S) σ) : gs_K E M out o pc L (gi x :: S) σ :=
  gk_go (fun p e s m args below meth c H locs ls Q hc hl kk => lv_i2b hc.1 hc.2.1 d (oi_toInt _).symm kk) k
theorem gk_i2s {x : Int} (d : decode (mM_cc M) pc = .ok (.i2s, 1)) (k : gs_K E M out o (pc + 1) L (gi (gsh x) :: S) σ) : gs_K E M out o pc L (gi x :: S) σ :=
  gk_go (fun p e s m args below meth c H locs ls Q hc hl kk => lv_i2s hc.1 hc.2.1 d (oi_toInt _).symm kk) k
theorem gk_lcmp {x y : Int} (d : decode (mM_cc M) pc = .ok (.lcmp, 1)) (k : gs_K E M out o (pc + 1) L (gi (gcmp x y) :: S) σ) : gs_K E M out o pc L (gl y :: gl x :: S) σ :=
  gk_go (fun p e s m args below meth c H locs ls Q hc hl kk => W.lcmp hc.1 hc.2.1 d (by rw [lg_gcmp]; exact kk)) k
theorem gk_dup {v : Value} (d : decode (mM_cc M) pc = .ok (.dup, 1)) (hv : v.category = 1) (k : gs_K E M out o (pc + 1) L (v :: v :: S) σ) : gs_K E M out o pc L (v :: S) σ :=
  gk_go (fun p e s m args below meth c H locs ls Q hc hl kk => lv_dup hc.1 hc.2.1 d hv kk) k
theorem gk_dup2 {v u : Value} (d : decode (mM_cc M) pc = .ok (.dup2, 1)) (hv : v.category = 1) (hu : u.category = 1) (k : gs_K E M out o (pc + 1) L (v :: u :: v :: u :: S) σ) : gs_K E M out o pc L (v :: u :: S) σ :=
  gk_go (fun p e s m args below meth c H locs ls Q hc hl kk => lv_dup2_11 hc.1 hc.2.1 d hv hu kk) k
theorem gk_pop {v : Value} (d : decode (mM_cc M) pc = .ok (.pop, 1)) (hv : v.category = 1) (k : gs_K E M out o (pc + 1) L S σ) : gs_K E M out o pc L (v :: S) σ :=
  gk_go (fun p e s m args below meth c H locs ls Q hc hl kk => lv_pop hc.1 hc.2.1 d hv kk) k
theorem gk_goto {off : Int} (d : decode (mM_cc M) pc = .ok (.goto off, 3)) (ht : (pc : Int) + off = (tgt : Int)) (k : gs_K E M out o tgt L S σ) : gs_K E M out o pc L S σ :=
  gk_go (fun p e s m args below meth c H locs ls Q hc hl kk => lv_goto hc.1 hc.2.1 d ht kk) k
/-- a branch: both ways -/
theorem gk_br {P : Prop} [Decidable P] {pc2 : Nat} {S0 : List Value}
    (h : ∀ (p : Program) (e : Env) (s : State) (m : MethodId) (args : Array Value) (below : List Frame) (meth : Method) (c : Code) (H : Heap) (locs : List Loc) (ls : Array Slot) (Q : State → Prop), gs_ctx M p s m args meth c →
      (P → W p (gs_l E) e (mM_R M) s m args below meth c H locs (mM_c M) (mM_s M) Q (F0 m tgt ls S)) → (¬ P → W p (gs_l E) e (mM_R M) s m args below meth c H locs (mM_c M) (mM_s M) Q (F0 m pc2 ls S)) → W p (gs_l E) e (mM_R M) s m args below meth c H locs (mM_c M) (mM_s M) Q (F0 m pc ls S0))
    (k1 : gs_K E M out o1 tgt L S σ) (k2 : gs_K E M out o2 pc2 L S σ) : gs_K E M out (if P then o1 else o2) pc L S0 σ := by
  intro a ha hE p e s m args below meth c H locs ls hc hK hP hS hl
  refine h p e s m args below meth c H locs ls _ hc (fun q => ?_) (fun q => ?_)
  · rw [if_pos q] at ha
    exact k1 a ha hE p e s m args below meth c H locs ls hc hK hP hS hl
  · rw [if_neg q] at ha
    exact k2 a ha hE p e s m args below meth c H locs ls hc hK hP hS hl
/-- a branch on 'unequal': the condition is said as 'equal' -/
theorem gk_brn {P : Prop} [Decidable P] {pc2 : Nat} {S0 : List Value}
    (h : ∀ (p : Program) (e : Env) (s : State) (m : MethodId) (args : Array Value) (below : List Frame) (meth : Method) (c : Code) (H : Heap) (locs : List Loc) (ls : Array Slot) (Q : State → Prop), gs_ctx M p s m args meth c →
      (¬ P → W p (gs_l E) e (mM_R M) s m args below meth c H locs (mM_c M) (mM_s M) Q (F0 m tgt ls S)) → (P → W p (gs_l E) e (mM_R M) s m args below meth c H locs (mM_c M) (mM_s M) Q (F0 m pc2 ls S)) → W p (gs_l E) e (mM_R M) s m args below meth c H locs (mM_c M) (mM_s M) Q (F0 m pc ls S0))
    (k1 : gs_K E M out o1 tgt L S σ) (k2 : gs_K E M out o2 pc2 L S σ) : gs_K E M out (if P then o2 else o1) pc L S0 σ := by
  intro a ha hE p e s m args below meth c H locs ls hc hK hP hS hl
  refine h p e s m args below meth c H locs ls _ hc (fun q => ?_) (fun q => ?_)
  · rw [if_neg q] at ha
    exact k1 a ha hE p e s m args below meth c H locs ls hc hK hP hS hl
  · rw [if_pos q] at ha
    exact k2 a ha hE p e s m args below meth c H locs ls hc hK hP hS hl
theorem gk_icmp_ne {off : Int} {x y x' y' : Int} (d : decode (mM_cc M) pc = .ok (.if_icmp .ne off, 3)) (ht : (pc : Int) + off = (tgt : Int)) (hx : gn x = x') (hy : gn y = y') (k1 : gs_K E M out o1 tgt L S σ) (k2 : gs_K E M out o2 (pc + 3) L S σ) : gs_K E M out (if x' = y' then o2 else o1) pc L (gi y :: gi x :: S) σ := by
  subst hx; subst hy
  exact gk_brn (fun p e s m args below meth c H locs ls Q hc kt kf => lv_icmp_ne hc.1 hc.2.1 d ht (fun q => kt (fun z => q (ci_eq.mpr z))) (fun q => kf (ci_eq.mp q))) k1 k2
theorem gk_if_ne {off : Int} {x x' : Int} (d : decode (mM_cc M) pc = .ok (.ifCond .ne off, 3)) (ht : (pc : Int) + off = (tgt : Int)) (hx : gn x = x') (k1 : gs_K E M out o1 tgt L S σ) (k2 : gs_K E M out o2 (pc + 3) L S σ) : gs_K E M out (if x' = 0 then o2 else o1) pc L (gi x :: S) σ := by
  subst hx
  exact gk_brn (fun p e s m args below meth c H locs ls Q hc kt kf => lv_if_ne hc.1 hc.2.1 d ht (fun q => kt (fun z => q (c0_eq.mpr z))) (fun q => kf (c0_eq.mp q))) k1 k2
theorem gk_icmp_eq {off : Int} {x y x' y' : Int} (d : decode (mM_cc M) pc = .ok (.if_icmp .eq off, 3)) (ht : (pc : Int) + off = (tgt : Int)) (hx : gn x = x') (hy : gn y = y') (k1 : gs_K E M out o1 tgt L S σ) (k2 : gs_K E M out o2 (pc + 3) L S σ) : gs_K E M out (if x' = y' then o1 else o2) pc L (gi y :: gi x :: S) σ := by
  subst hx; subst hy
  exact gk_br (fun p e s m args below meth c H locs ls Q hc kt kf => lv_icmp_eq hc.1 hc.2.1 d ht (fun q => kt (ci_eq.mp q)) (fun q => kf (fun z => q (ci_eq.mpr z)))) k1 k2
theorem gk_if_eq {off : Int} {x x' : Int} (d : decode (mM_cc M) pc = .ok (.ifCond .eq off, 3)) (ht : (pc : Int) + off = (tgt : Int)) (hx : gn x = x') (k1 : gs_K E M out o1 tgt L S σ) (k2 : gs_K E M out o2 (pc + 3) L S σ) : gs_K E M out (if x' = 0 then o1 else o2) pc L (gi x :: S) σ := by
  subst hx
  exact gk_br (fun p e s m args below meth c H locs ls Q hc kt kf => lv_if_eq hc.1 hc.2.1 d ht (fun q => kt (c0_eq.mp q)) (fun q => kf (fun z => q (c0_eq.mpr z)))) k1 k2
theorem gk_icmp_lt {off : Int} {x y x' y' : Int} (d : decode (mM_cc M) pc = .ok (.if_icmp .lt off, 3)) (ht : (pc : Int) + off = (tgt : Int)) (hx : gn x = x') (hy : gn y = y') (k1 : gs_K E M out o1 tgt L S σ) (k2 : gs_K E M out o2 (pc + 3) L S σ) : gs_K E M out (if x' < y' then o1 else o2) pc L (gi y :: gi x :: S) σ := by
  subst hx; subst hy
  exact gk_br (fun p e s m args below meth c H locs ls Q hc kt kf => lv_icmp_lt hc.1 hc.2.1 d ht (fun q => kt (ci_lt.mp q)) (fun q => kf (fun z => q (ci_lt.mpr z)))) k1 k2
theorem gk_if_lt {off : Int} {x x' : Int} (d : decode (mM_cc M) pc = .ok (.ifCond .lt off, 3)) (ht : (pc : Int) + off = (tgt : Int)) (hx : gn x = x') (k1 : gs_K E M out o1 tgt L S σ) (k2 : gs_K E M out o2 (pc + 3) L S σ) : gs_K E M out (if x' < 0 then o1 else o2) pc L (gi x :: S) σ := by
  subst hx
  exact gk_br (fun p e s m args below meth c H locs ls Q hc kt kf => lv_if_lt hc.1 hc.2.1 d ht (fun q => kt (c0_lt.mp q)) (fun q => kf (fun z => q (c0_lt.mpr z)))) k1 k2
theorem gk_icmp_ge {off : Int} {x y x' y' : Int} (d : decode (mM_cc M) pc = .ok (.if_icmp .ge off, 3)) (ht : (pc : Int) + off = (tgt : Int)) (hx : gn x = x') (hy : gn y = y') (k1 : gs_K E M out o1 tgt L S σ) (k2 : gs_K E M out o2 (pc + 3) L S σ) : gs_K E M out (if y' ≤ x' then o1 else o2) pc L (gi y :: gi x :: S) σ := by
  subst hx; subst hy
  exact gk_br (fun p e s m args below meth c H locs ls Q hc kt kf => lv_icmp_ge hc.1 hc.2.1 d ht (fun q => kt (ci_ge.mp q)) (fun q => kf (fun z => q (ci_ge.mpr z)))) k1 k2
theorem gk_if_ge {off : Int} {x x' : Int} (d : decode (mM_cc M) pc = .ok (.ifCond .ge off, 3)) (ht : (pc : Int) + off = (tgt : Int)) (hx : gn x = x') (k1 : gs_K E M out o1 tgt L S σ) (k2 : gs_K E M out o2 (pc + 3) L S σ) : gs_K E M out (if 0 ≤ x' then o1 else o2) pc L (gi x :: S) σ := by
  subst hx
  exact gk_br (fun p e s m args below meth c H locs ls Q hc kt kf => lv_if_ge hc.1 hc.2.1 d ht (fun q => kt (c0_ge.mp q)) (fun q => kf (fun z => q (c0_ge.mpr z)))) k1 k2
theorem gk_icmp_gt {off : Int} {x y x' y' : Int} (d : decode (mM_cc M) pc = .ok (.if_icmp .gt off, 3)) (ht : (pc : Int) + off = (tgt : Int)) (hx : gn x = x') (hy : gn y = y') (k1 : gs_K E M out o1 tgt L S σ) (k2 : gs_K E M out o2 (pc + 3) L S σ) : gs_K E M out (if y' < x' then o1 else o2) pc L (gi y :: gi x :: S) σ := by
  subst hx; subst hy
  exact gk_br (fun p e s m args below meth c H locs ls Q hc kt kf => lv_icmp_gt hc.1 hc.2.1 d ht (fun q => kt (ci_gt.mp q)) (fun q => kf (fun z => q (ci_gt.mpr z)))) k1 k2
theorem gk_if_gt {off : Int} {x x' : Int} (d : decode (mM_cc M) pc = .ok (.ifCond .gt off, 3)) (ht : (pc : Int) + off = (tgt : Int)) (hx : gn x = x') (k1 : gs_K E M out o1 tgt L S σ) (k2 : gs_K E M out o2 (pc + 3) L S σ) : gs_K E M out (if 0 < x' then o1 else o2) pc L (gi x :: S) σ := by
  subst hx
  exact gk_br (fun p e s m args below meth c H locs ls Q hc kt kf => lv_if_gt hc.1 hc.2.1 d ht (fun q => kt (c0_gt.mp q)) (fun q => kf (fun z => q (c0_gt.mpr z)))) k1 k2
theorem gk_icmp_le {off : Int} {x y x' y' : Int} (d : decode (mM_cc M) pc = .ok (.if_icmp .le off, 3)) (ht : (pc : Int) + off = (tgt : Int)) (hx : gn x = x') (hy : gn y = y') (k1 : gs_K E M out o1 tgt L S σ) (k2 : gs_K E M out o2 (pc + 3) L S σ) : gs_K E M out (if x' ≤ y' then o1 else o2) pc L (gi y :: gi x :: S) σ := by
  subst hx; subst hy
  exact gk_br (fun p e s m args below meth c H locs ls Q hc kt kf => lv_icmp_le hc.1 hc.2.1 d ht (fun q => kt (ci_le.mp q)) (fun q => kf (fun z => q (ci_le.mpr z)))) k1 k2
theorem gk_if_le {off : Int} {x x' : Int} (d : decode (mM_cc M) pc = .ok (.ifCond .le off, 3)) (ht : (pc : Int) + off = (tgt : Int)) (hx : gn x = x') (k1 : gs_K E M out o1 tgt L S σ) (k2 : gs_K E M out o2 (pc + 3) L S σ) : gs_K E M out (if x' ≤ 0 then o1 else o2) pc L (gi x :: S) σ := by
  subst hx
  exact gk_br (fun p e s m args below meth c H locs ls Q hc kt kf => lv_if_le hc.1 hc.2.1 d ht (fun q => kt (c0_le.mp q)) (fun q => kf (fun z => q (c0_le.mpr z)))) k1 k2
end GKrows
end
section
/-- a class' field tables: number, name, fields -/
def gs_cls (ci : Nat) (C : String) (T : u_T) (N : Nat) (ty : Nat → FieldType) : Prop :=
  vwCl[ci]? = some (C, T, N) ∧ (∀ w ∈ u_ws C T N, w ∈ WS) ∧ (∀ k, k < N → parseFieldDescriptor (T k).2.2.1 = some (ty k)) ∧ (∀ a, a < N → ∀ b, b < N → a ≠ b → (T a).2.1 ≠ (T b).2.1)
theorem mapIdx_get (E : gs_E) (row : Nat → Int) (fs : List (Option Nat)) {k : Nat} {f : Option Nat} (h : fs[k]? = some f) : (fs.mapIdx (gs_fv E row))[k]? = some (gs_fv E row k f) := by
  rw [List.getElem?_mapIdx, h]; rfl
theorem mapIdx_set (E : gs_E) (row : Nat → Int) (fs : List (Option Nat)) {k : Nat} (x : Int) (h : fs[k]? = some none) : fs.mapIdx (gs_fv E (fun j => if j = k then x else row j)) = (fs.mapIdx (gs_fv E row)).set k (gi x) := by
  apply List.ext_getElem?
  intro j
  by_cases e : j = k
  · subst e
    have hl : j < fs.length := (List.getElem?_eq_some_iff.mp h).1
    rw [List.getElem?_set_self (by rw [List.length_mapIdx]; exact hl), List.getElem?_mapIdx, h]
    simp [gs_fv]
  · rw [List.getElem?_set_ne (Ne.symm e), List.getElem?_mapIdx, List.getElem?_mapIdx]
    cases fs[j]? with
    | none => rfl
    | some f => cases f with
      | none => simp [gs_fv, e]
      | some q => rfl
theorem ai_nn {x : Int} (h0 : 0 ≤ gn x) : (Int32.ofInt x).toNatClampNeg = (gn x).toNat := rfl
theorem ai_in {x : Int} {n : Nat} (h : 0 ≤ gn x ∧ gn x < n) : vp_in (Int32.ofInt x) n := vp_in_iff.mpr h
theorem upd_i (σ : gs_Mem) (r k : Nat) (x : Int) : upd (fun j => Int32.ofInt (σ r j)) k (Int32.ofInt x) = fun j => Int32.ofInt (gs_st σ r k x r j) := by
  funext j
  unfold upd
  rw [gs_st_s]
  by_cases h : j = k
  · rw [if_pos h, if_pos h]
  · rw [if_neg h, if_neg h]
theorem upd_l (σ : gs_Mem) (r k : Nat) (x : Int) : vp_updL (fun j => Int64.ofInt (σ r j)) k (Int64.ofInt x) = fun j => Int64.ofInt (gs_st σ r k x r j) := by
  funext j
  unfold vp_updL
  rw [gs_st_s]
  by_cases h : j = k
  · rw [if_pos h, if_pos h]
  · rw [if_neg h, if_neg h]
theorem nar_b (x : Int) : vp_nar .byte (Int32.ofInt x) = Int32.ofInt (gb x) := (vp_nar_byte _).trans (oi_toInt _).symm
theorem cpy_i (σ : gs_Mem) (r1 sp r2 dp n : Nat) : va_cpy (fun j => Int32.ofInt (σ r1 j)) (fun j => Int32.ofInt (σ r2 j)) sp dp n = fun j => Int32.ofInt (gs_cp σ r1 sp r2 dp n r2 j) := by
  funext j
  unfold va_cpy gs_cp
  by_cases h : dp ≤ j ∧ j < dp + n
  · rw [if_pos h, if_pos ⟨rfl, h⟩]
  · rw [if_neg h, if_neg (fun q => h q.2)]
theorem cpy_l (σ : gs_Mem) (r1 sp r2 dp n : Nat) : va_cpy (fun j => Int64.ofInt (σ r1 j)) (fun j => Int64.ofInt (σ r2 j)) sp dp n = fun j => Int64.ofInt (gs_cp σ r1 sp r2 dp n r2 j) := by
  funext j
  unfold va_cpy gs_cp
  by_cases h : dp ≤ j ∧ j < dp + n
  · rw [if_pos h, if_pos ⟨rfl, h⟩]
  · rw [if_neg h, if_neg (fun q => h q.2)]
section GKmem
variable {α β : Type} {E : gs_E} {M : gs_M} {out : α → Int × gs_Mem} {o o1 o2 o' : Option α} {pc tgt : Nat} {L L' : List (Nat × Value)} {S S' : List Value} {σ : gs_Mem}
theorem gs_get_o {r ci : Nat} {fs : List (Option Nat)} (hr : r < 79) (hsh : SH r = sp_o ci fs) : (gs_ws E σ)[r]? = some (gs_ad E r, .inr (ci, fs.mapIdx (gs_fv E (σ r)))) := by
  rw [gs_ws_get E σ hr, hsh]; rfl
theorem gs_get_i {r n : Nat} (hr : r < 79) (hsh : SH r = sp_i n) : (gs_ws E σ)[r]? = some (gs_ad E r, .inl (gs_cA E .int, n, .inl fun j => Int32.ofInt (σ r j))) := by
  rw [gs_ws_get E σ hr, hsh]; rfl
theorem gs_get_b {r n : Nat} (hr : r < 79) (hsh : SH r = .inl (.byte, n)) : (gs_ws E σ)[r]? = some (gs_ad E r, .inl (gs_cA E .byte, n, .inl fun j => Int32.ofInt (σ r j))) := by
  rw [gs_ws_get E σ hr, hsh]; rfl
theorem gs_get_z {r n : Nat} (hr : r < 79) (hsh : SH r = .inl (.boolean, n)) : (gs_ws E σ)[r]? = some (gs_ad E r, .inl (gs_cA E .boolean, n, .inl fun j => Int32.ofInt (σ r j))) := by
  rw [gs_ws_get E σ hr, hsh]; rfl
theorem gs_get_l {r n : Nat} (hr : r < 79) (hsh : SH r = sp_l n) : (gs_ws E σ)[r]? = some (gs_ad E r, .inl (gs_cA E .long, n, .inr (.inl fun j => Int64.ofInt (σ r j)))) := by
  rw [gs_ws_get E σ hr, hsh]; rfl
theorem gs_get_q {r n : Nat} {q : Nat → Nat} (hr : r < 79) (hsh : SH r = .inr (.inr (n, q))) : (gs_ws E σ)[r]? = some (gs_ad E r, .inl (gs_cA E gs_tT, n, .inr (.inr (.inr (.inr fun j => if j < n then some (gs_ad E (q j)) else none))))) := by
  rw [gs_ws_get E σ hr, hsh]; rfl
/-! fields -/
theorem gk_getF {own C : String} {T : u_T} {N ci index r : Nat} {ty : Nat → FieldType} {fs : List (Option Nat)} {f : Option Nat} (ho : mM_own M = own) (hcl : gs_cls ci C T N ty) (hr : r < 79) (hsh : SH r = sp_o ci fs) (k : Nat) (hk : k < N) (hf : fs[k]? = some f) (hlink : Cond.fieldLink own index (T k).1 (T k).2.1 (T k).2.2.1 ∈ WS) (d : decode (mM_cc M) pc = .ok (.getfield index, 3))
    (kk : gs_K E M out o (pc + 3) L (gs_fv E (σ r) k f :: S) σ) : gs_K E M out o pc L (gr E r :: S) σ :=
  gk_goR (fun p e s m args below meth c H locs ls Q hc hK hP kk => by
    subst ho
    exact va_get (D := gs_D E) hc.1 hc.2.1 hc.2.2.2.2.2.2.1 hcl.2.1 hc.2.2.2.2.2.1 hK hP r (gs_get_o hr hsh) hcl.1 k hk (hc.2.2.2.2.2.2.1 _ hlink) (fun _ h => h) (mapIdx_get E (σ r) fs hf) d kk) kk
theorem gk_getFN {own C host : String} {T : u_T} {N ci index r : Nat} {ty : Nat → FieldType} {fs : List (Option Nat)} {f : Option Nat} (ho : mM_own M = own) (hcl : gs_cls ci C T N ty) (hr : r < 79) (hsh : SH r = sp_o ci fs) (k : Nat) (hk : k < N) (hf : fs[k]? = some f) (hlink : Cond.fieldLinkNest own index (T k).1 (T k).2.1 (T k).2.2.1 host ∈ WN) (d : decode (mM_cc M) pc = .ok (.getfield index, 3))
    (kk : gs_K E M out o (pc + 3) L (gs_fv E (σ r) k f :: S) σ) : gs_K E M out o pc L (gr E r :: S) σ :=
  gk_goR (fun p e s m args below meth c H locs ls Q hc hK hP kk => by
    subst ho
    exact va_getN (D := gs_D E) hc.1 hc.2.1 hc.2.2.2.2.2.2.1 hcl.2.1 hc.2.2.2.2.2.1 hK hP r (gs_get_o hr hsh) hcl.1 k hk (hc.2.2.2.2.2.2.2.1.use hlink) (fun _ h => h) (mapIdx_get E (σ r) fs hf) d kk) kk
theorem gk_putF {own C : String} {T : u_T} {N ci index r : Nat} {ty : Nat → FieldType} {fs : List (Option Nat)} {x : Int} (ho : mM_own M = own) (hcl : gs_cls ci C T N ty) (hr : r < 79) (hsh : SH r = sp_o ci fs) (k : Nat) (hk : k < N) (hf : fs[k]? = some none) (hfin : (T k).2.2.2 = false) (hn : narrow (ty k) (gi x) = gi x) (hfit : fits (ty k) (gi x) = true) (hlink : Cond.fieldLink own index (T k).1 (T k).2.1 (T k).2.2.1 ∈ WS) (d : decode (mM_cc M) pc = .ok (.putfield index, 3))
    (kk : gs_K E M out o (pc + 3) L S (gs_st σ r k x)) : gs_K E M out o pc L (gi x :: gr E r :: S) σ :=
  gk_goW (fun p e s m args below meth c H locs ls Q hc hK hP hD hS hl kk => by
    subst ho
    have e1 : gs_ent E (gs_st σ r k x r) (SH r) = .inr (ci, (fs.mapIdx (gs_fv E (σ r))).set k (gi x)) := by
      rw [hsh, ← mapIdx_set E (σ r) fs x hf, ← funext (gs_st_s σ r k x)]
      rfl
    exact va_put (D := gs_D E) hc.1 hc.2.1 hc.2.2.2.2.2.2.1 hcl.2.1 ty hcl.2.2.1 hcl.2.2.2 hc.2.2.2.2.2.1 hK hP hD hS r (gs_get_o hr hsh) hcl.1 k hk (hc.2.2.2.2.2.2.1 _ hlink) (fun _ h => h) hfin (hcl.2.2.1 k hk) hn hfit (by rw [List.length_mapIdx]; exact (List.getElem?_eq_some_iff.mp hf).1) d
      (fun H1 locs1 hP1 hD1 hS1 => kk H1 locs1 (by rw [gs_ws_set hr (gs_st_o σ r k x) e1] at hP1; exact hP1) hS1)) kk
/-! arrays -/
theorem gk_iald {r n : Nat} {i i' : Int} (hr : r < 79) (hsh : SH r = sp_i n) (hi : gn i = i') (d : decode (mM_cc M) pc = .ok (.iaload, 1))
    (kk : gs_K E M out o (pc + 1) L (gi (σ r i'.toNat) :: S) σ) : gs_K E M out (if 0 ≤ i' ∧ i' < (n : Int) then o else none) pc L (gi i :: gr E r :: S) σ :=
  gk_guard fun hin => gk_goR (fun p e s m args below meth c H locs ls Q hc hK hP kk => by
    subst hi
    exact va_iald hc.1 hc.2.1 hK hP r 0 (gs_get_i hr hsh) rfl (ai_in hin) d kk) kk
theorem gk_bald {r n : Nat} {i i' : Int} (hr : r < 79) (hsh : SH r = .inl (.byte, n)) (hi : gn i = i') (d : decode (mM_cc M) pc = .ok (.baload, 1))
    (kk : gs_K E M out o (pc + 1) L (gi (σ r i'.toNat) :: S) σ) : gs_K E M out (if 0 ≤ i' ∧ i' < (n : Int) then o else none) pc L (gi i :: gr E r :: S) σ :=
  gk_guard fun hin => gk_goR (fun p e s m args below meth c H locs ls Q hc hK hP kk => by
    subst hi
    exact va_bald hc.1 hc.2.1 hK hP r 1 (gs_get_b hr hsh) rfl (ai_in hin) d kk) kk
theorem gk_zald {r n : Nat} {i i' : Int} (hr : r < 79) (hsh : SH r = .inl (.boolean, n)) (hi : gn i = i') (d : decode (mM_cc M) pc = .ok (.baload, 1))
    (kk : gs_K E M out o (pc + 1) L (gi (σ r i'.toNat) :: S) σ) : gs_K E M out (if 0 ≤ i' ∧ i' < (n : Int) then o else none) pc L (gi i :: gr E r :: S) σ :=
  gk_guard fun hin => gk_goR (fun p e s m args below meth c H locs ls Q hc hK hP kk => by
    subst hi
    exact va_zald hc.1 hc.2.1 hK hP r 2 (gs_get_z hr hsh) rfl (ai_in hin) d kk) kk
theorem gk_lald {r n : Nat} {i i' : Int} (hr : r < 79) (hsh : SH r = sp_l n) (hi : gn i = i') (d : decode (mM_cc M) pc = .ok (.laload, 1))
    (kk : gs_K E M out o (pc + 1) L (gl (σ r i'.toNat) :: S) σ) : gs_K E M out (if 0 ≤ i' ∧ i' < (n : Int) then o else none) pc L (gi i :: gr E r :: S) σ :=
  gk_guard fun hin => gk_goR (fun p e s m args below meth c H locs ls Q hc hK hP kk => by
    subst hi
    exact va_lald hc.1 hc.2.1 hK hP r 3 (gs_get_l hr hsh) rfl (ai_in hin) d kk) kk
theorem gk_aald {r n : Nat} {q : Nat → Nat} {i i' : Int} (hr : r < 79) (hsh : SH r = .inr (.inr (n, q))) (hi : gn i = i') (d : decode (mM_cc M) pc = .ok (.aaload, 1))
    (kk : 0 ≤ i' ∧ i' < (n : Int) → gs_K E M out o (pc + 1) L (gr E (q i'.toNat) :: S) σ) : gs_K E M out (if 0 ≤ i' ∧ i' < (n : Int) then o else none) pc L (gi i :: gr E r :: S) σ :=
  gk_guard fun hin => gk_goR (fun p e s m args below meth c H locs ls Q hc hK hP kk => by
    subst hi
    have e : va_rf (if (Int32.ofInt i).toNatClampNeg < n then some (gs_ad E (q (Int32.ofInt i).toNatClampNeg)) else none) = gr E (q (gn i).toNat) := by
      rw [ai_nn hin.1, if_pos (by omega)]; rfl
    rw [← e] at kk
    exact va_aldq (C := "GapStations$Tape") hc.1 hc.2.1 hK hP r 4 (gs_get_q hr hsh) rfl (ai_in hin) d kk) (kk hin)
theorem gk_iast {r n : Nat} {i i' x : Int} (hr : r < 79) (hsh : SH r = sp_i n) (hi : gn i = i') (d : decode (mM_cc M) pc = .ok (.iastore, 1))
    (kk : gs_K E M out o (pc + 1) L S (gs_st σ r i'.toNat x)) : gs_K E M out (if 0 ≤ i' ∧ i' < (n : Int) then o else none) pc L (gi x :: gi i :: gr E r :: S) σ :=
  gk_guard fun hin => gk_goW (fun p e s m args below meth c H locs ls Q hc hK hP hD hS hl kk => by
    subst hi
    have e1 : gs_ent E (gs_st σ r (gn i).toNat x r) (SH r) = .inl (gs_cA E .int, n, .inl (upd (fun j => Int32.ofInt (σ r j)) (Int32.ofInt i).toNatClampNeg (Int32.ofInt x))) := by
      rw [hsh, ai_nn hin.1, upd_i]; rfl
    exact va_iast hc.1 hc.2.1 hK hP hD hS r 0 (gs_get_i hr hsh) rfl (ai_in hin) d
      (fun H1 locs1 hP1 hD1 hS1 => kk H1 locs1 (by rw [gs_ws_set hr (gs_st_o σ r _ x) e1] at hP1; exact hP1) hS1)) kk
theorem gk_bast {r n : Nat} {i i' x : Int} (hr : r < 79) (hsh : SH r = .inl (.byte, n)) (hi : gn i = i') (d : decode (mM_cc M) pc = .ok (.bastore, 1))
    (kk : gs_K E M out o (pc + 1) L S (gs_st σ r i'.toNat (gb x))) : gs_K E M out (if 0 ≤ i' ∧ i' < (n : Int) then o else none) pc L (gi x :: gi i :: gr E r :: S) σ :=
  gk_guard fun hin => gk_goW (fun p e s m args below meth c H locs ls Q hc hK hP hD hS hl kk => by
    subst hi
    have e1 : gs_ent E (gs_st σ r (gn i).toNat (gb x) r) (SH r) = .inl (gs_cA E .byte, n, .inl (upd (fun j => Int32.ofInt (σ r j)) (Int32.ofInt i).toNatClampNeg (vp_nar .byte (Int32.ofInt x)))) := by
      rw [hsh, ai_nn hin.1, nar_b, upd_i]; rfl
    exact va_bast hc.1 hc.2.1 hK hP hD hS r 1 (gs_get_b hr hsh) rfl (ai_in hin) d
      (fun H1 locs1 hP1 hD1 hS1 => kk H1 locs1 (by rw [gs_ws_set hr (gs_st_o σ r _ _) e1] at hP1; exact hP1) hS1)) kk
theorem gk_zast {r n : Nat} {i i' x : Int} (hr : r < 79) (hsh : SH r = .inl (.boolean, n)) (hi : gn i = i') (hx : vp_nar .boolean (Int32.ofInt x) = Int32.ofInt x) (d : decode (mM_cc M) pc = .ok (.bastore, 1))
    (kk : gs_K E M out o (pc + 1) L S (gs_st σ r i'.toNat x)) : gs_K E M out (if 0 ≤ i' ∧ i' < (n : Int) then o else none) pc L (gi x :: gi i :: gr E r :: S) σ :=
  gk_guard fun hin => gk_goW (fun p e s m args below meth c H locs ls Q hc hK hP hD hS hl kk => by
    subst hi
    have e1 : gs_ent E (gs_st σ r (gn i).toNat x r) (SH r) = .inl (gs_cA E .boolean, n, .inl (upd (fun j => Int32.ofInt (σ r j)) (Int32.ofInt i).toNatClampNeg (vp_nar .boolean (Int32.ofInt x)))) := by
      rw [hsh, ai_nn hin.1, hx, upd_i]; rfl
    exact va_zast hc.1 hc.2.1 hK hP hD hS r 2 (gs_get_z hr hsh) rfl (ai_in hin) d
      (fun H1 locs1 hP1 hD1 hS1 => kk H1 locs1 (by rw [gs_ws_set hr (gs_st_o σ r _ _) e1] at hP1; exact hP1) hS1)) kk
theorem gk_last {r n : Nat} {i i' x : Int} (hr : r < 79) (hsh : SH r = sp_l n) (hi : gn i = i') (d : decode (mM_cc M) pc = .ok (.lastore, 1))
    (kk : gs_K E M out o (pc + 1) L S (gs_st σ r i'.toNat x)) : gs_K E M out (if 0 ≤ i' ∧ i' < (n : Int) then o else none) pc L (gl x :: gi i :: gr E r :: S) σ :=
  gk_guard fun hin => gk_goW (fun p e s m args below meth c H locs ls Q hc hK hP hD hS hl kk => by
    subst hi
    have e1 : gs_ent E (gs_st σ r (gn i).toNat x r) (SH r) = .inl (gs_cA E .long, n, .inr (.inl (vp_updL (fun j => Int64.ofInt (σ r j)) (Int32.ofInt i).toNatClampNeg (Int64.ofInt x)))) := by
      rw [hsh, ai_nn hin.1, upd_l]; rfl
    exact va_last hc.1 hc.2.1 hK hP hD hS r 3 (gs_get_l hr hsh) rfl (ai_in hin) d
      (fun H1 locs1 hP1 hD1 hS1 => kk H1 locs1 (by rw [gs_ws_set hr (gs_st_o σ r _ _) e1] at hP1; exact hP1) hS1)) kk
theorem gk_alen_i {r n : Nat} {x : Int} (hr : r < 79) (hsh : SH r = sp_i n) (hx : Int32.ofNat n = Int32.ofInt x) (d : decode (mM_cc M) pc = .ok (.arraylength, 1))
    (kk : gs_K E M out o (pc + 1) L (gi x :: S) σ) : gs_K E M out o pc L (gr E r :: S) σ :=
  gk_goR (fun p e s m args below meth c H locs ls Q hc hK hP kk => va_alen hc.1 hc.2.1 hK hP r 0 (gs_get_i hr hsh) rfl hx d kk) kk
end GKmem
end
section
section GKcalls
variable {α β : Type} {E : gs_E} {M : gs_M} {out : α → Int × gs_Mem} {o : Option α} {pc tgt : Nat} {L L' : List (Nat × Value)} {S S' S0 rest : List Value} {σ : gs_Mem}
/-! ends -/
theorem gs_end_Q {κ : Nat} {x : Int} {s t : State} {H : Heap} {locs : List Loc} {args : Array Value} (hN : gs_NW s) (hK : va_K (gs_D E) vwCl (gs_tys E) s) (hP : va_P (gs_D E) vwCl (gs_ws E σ) H) (hS : va_S (gs_A E) s.heap H locs) (ht : t.heap = H) (hW : s.WarmedH t.vm) : gs_Q E κ x σ args s (.returned (gs_rv κ x)) t :=
  ⟨rfl, ⟨by rw [ht]; exact hP, va_K.moved hW.alike hK, hN.warm hW⟩, hS.F ht⟩
theorem gk_iret {y : MethodName} {bytes : ByteArray} {maxL : Nat} {rm : Room} {a : α} {x : Int} (hout : out a = (x, σ)) (d : decode bytes pc = .ok (.ireturn, 1)) : gs_K E (gs_MC E y bytes maxL (some .int) 0 rm) out (some a) pc L [gi x] σ := by
  intro a2 ha hE p e s m args below meth c H locs ls hc hK hP hS hl
  cases ha
  rw [hout]
  exact W.iret hc.1 hc.2.1 hc.2.2.2.1 (fun t ht hW => gs_end_Q (κ := 0) hc.2.2.2.2.2.2.2.1 hK hP hS ht hW) hS.2.2 d hc.2.2.2.2.1
theorem nar_z {x : Int} (h : gn x = 0 ∨ gn x = 1) : narrow .boolean (.int (Int32.ofInt x)) = .int (Int32.ofInt x) := by
  rcases h with h | h
  · have e : Int32.ofInt x = Int32.ofInt 0 := oi_inj.mpr (by rw [h]; decide +kernel)
    rw [e]; decide +kernel
  · have e : Int32.ofInt x = Int32.ofInt 1 := oi_inj.mpr (by rw [h]; decide +kernel)
    rw [e]; decide +kernel
theorem gk_zret {y : MethodName} {bytes : ByteArray} {maxL : Nat} {rm : Room} {a : α} {x : Int} (hz : gn x = 0 ∨ gn x = 1) (hout : out a = (x, σ)) (d : decode bytes pc = .ok (.ireturn, 1)) : gs_K E (gs_MC E y bytes maxL (some .boolean) 0 rm) out (some a) pc L [gi x] σ := by
  intro a2 ha hE p e s m args below meth c H locs ls hc hK hP hS hl
  cases ha
  rw [hout]
  exact W.zret (ty := .boolean) hc.1 hc.2.1 hc.2.2.2.1 (nar_z hz) (fun t ht hW => gs_end_Q (κ := 0) hc.2.2.2.2.2.2.2.1 hK hP hS ht hW) hS.2.2 d hc.2.2.2.2.1
theorem gk_zretG {y : MethodName} {bytes : ByteArray} {maxL : Nat} {rm : Room} {a : α} {x x' : Int} (hx : gn x = x') (hout : out a = (x, σ)) (d : decode bytes pc = .ok (.ireturn, 1)) : gs_K E (gs_MC E y bytes maxL (some .boolean) 0 rm) out (if x' = 0 ∨ x' = 1 then some a else none) pc L [gi x] σ :=
  gk_guard fun h => gk_zret (by rw [hx]; exact h) hout d
theorem gk_lret {y : MethodName} {bytes : ByteArray} {maxL : Nat} {rm : Room} {a : α} {x : Int} (hout : out a = (x, σ)) (d : decode bytes pc = .ok (.lreturn, 1)) : gs_K E (gs_MC E y bytes maxL (some .long) 1 rm) out (some a) pc L [gl x] σ := by
  intro a2 ha hE p e s m args below meth c H locs ls hc hK hP hS hl
  cases ha
  rw [hout]
  exact W.lret hc.1 hc.2.1 hc.2.2.2.1 (fun t ht hW => gs_end_Q (κ := 1) hc.2.2.2.2.2.2.2.1 hK hP hS ht hW) hS.2.2 d hc.2.2.2.2.1
theorem gk_vret {y : MethodName} {bytes : ByteArray} {maxL : Nat} {rm : Room} {a : α} {x : Int} (hout : out a = (x, σ)) (d : decode bytes pc = .ok (.return_, 1)) : gs_K E (gs_MC E y bytes maxL none 2 rm) out (some a) pc L [] σ := by
  intro a2 ha hE p e s m args below meth c H locs ls hc hK hP hS hl
  cases ha
  rw [hout]
  exact W.vret hc.1 hc.2.1 hc.2.2.2.1 (fun t ht hW => gs_end_Q (κ := 2) (x := x) hc.2.2.2.2.2.2.2.1 hK hP hS ht hW) hS.2.2 d hc.2.2.2.2.1
/-! calls -/
theorem gs_blind {av : List Value} : FrameBlind (va_Pc av (gs_B E σ)) := fun a U g mk q => ⟨q.1, q.2.1, va_K.moved (u := U) (U := U.calling g mk a) (Vm.Alike.refl U.vm) q.2.2.1, gs_NW.same (u := U) (U := U.calling g mk a) rfl q.2.2.2⟩
/-- a call's run, and what goes on behind it -/
theorem gk_run {κ : Nat} {oc : Option β} {outc : β → Int × gs_Mem} {X : β → Option α} {av : List Value}
    (hrun : gs_Ap E → ∀ b, oc = some b → ∀ (p : Program) (e : Env) (s : State) (m : MethodId) (args : Array Value) (below : List Frame) (meth : Method) (c : Code) (H : Heap) (locs : List Loc) (ls : Array Slot), gs_ctx M p s m args meth c → va_K (gs_D E) vwCl (gs_tys E) s → va_P (gs_D E) vwCl (gs_ws E σ) H → lv_has ls (mM_nL M) L →
      va_Run p (gs_l E) e (mM_R M) s m args below meth c H locs (mM_c M) (mM_s M) 0 0 (F0 m pc ls S0) rest (gs_Q E κ (outc b).1 (outc b).2 av.toArray) (gs_A E))
    (k : ∀ b, gs_K E M out (X b) (pc + 3) L ((gs_rv κ (outc b).1).toList ++ rest) (outc b).2) : gs_K E M out (oc.bind X) pc L S0 σ := by
  intro a ha hE p e s m args below meth c H locs ls hc hK hP hS hl
  cases hoc : oc with
  | none => rw [hoc] at ha; cases ha
  | some b =>
    rw [hoc] at ha
    have ha : X b = some a := ha
    intro T hT X0
    obtain ⟨v, st₀, t, T', L1, h0, X', hL, e1, e2, ⟨hv, hB, hF⟩, st⟩ := hrun hE b hoc p e s m args below meth c H locs ls hc hK hP hl T hT X0
    cases hv
    have hS1 : va_S (gs_A E) s.heap t.heap (locs ++ L1) := by
      refine ⟨Nat.le_trans hS.1 (by rw [← h0]; exact hF.1), fun q h1 h2 => ?_, fun q hq => ?_⟩
      · rw [hF.2 q (by rw [h0]; exact Nat.lt_of_lt_of_le h1 hS.1) h2, h0]
        exact hS.2.1 q h1 h2
      · rcases List.mem_append.mp hq with h | h
        · exact hS.2.2 q h
        · exact hL q h
    obtain ⟨t2, a1, b1⟩ := k b a ha hE p e s m args below meth c t.heap (locs ++ L1) ls hc hK hB.1 hS1 hl T' e1 X'
    exact ⟨t2, st t2 a1, b1⟩
/-- what is said of a method once: its words -/
def gs_mV (y : MethodName) (bytes : ByteArray) (maxL : Nat) (ret : Option FieldType) (n : Nat) : Prop :=
  Cond.code y bytes maxL ret ∈ WS ∧ Cond.instanceMethod y ∈ WS ∧ Cond.selects y.cls y y ∈ WS ∧ Cond.initialized y.cls ∈ WS ∧ y.cls ≠ "java/lang/invoke/MethodHandle" ∧ y.cls ≠ "java/lang/invoke/VarHandle" ∧ (parseMethodDescriptor y.desc).map (fun d => d.parameters.length) = some n
def gs_mS (y : MethodName) (bytes : ByteArray) (maxL : Nat) (ret : Option FieldType) (n : Nat) : Prop :=
  Cond.code y bytes maxL ret ∈ WS ∧ Cond.static y ∈ WS ∧ Cond.initialized y.cls ∈ WS ∧ y.cls ≠ "java/lang/invoke/MethodHandle" ∧ y.cls ≠ "java/lang/invoke/VarHandle" ∧ (parseMethodDescriptor y.desc).map (fun d => d.parameters.length) = some n
theorem gs_goodc {y : MethodName} {bytes : ByteArray} {maxL : Nat} {ret : Option FieldType} (h : Cond.code y bytes maxL ret ∈ WS) : GoodIn WS (Cond.code y bytes maxL ret :: WS) := by
  intro w hw
  rcases List.mem_cons.mp hw with rfl | hw
  · exact WS_good _ h
  · exact WS_good _ hw
theorem some_len {y : MethodName} {n : Nat} (h : (parseMethodDescriptor y.desc).map (fun d => d.parameters.length) = some n) : ∀ sig, parseMethodDescriptor y.desc = some sig → n = sig.parameters.length := by
  intro sig hs
  rw [hs] at h
  exact (Option.some.inj h).symm
/-- how much of the room a call takes -/
def gs_fit (M : gs_M) (rm : Room) (maxL : Nat) : Prop := rm.cells = 0 ∧ rm.slots = 0 ∧ rm.frames + 1 ≤ (mM_R M).frames ∧ 8 + (maxL + 11) + rm.locals ≤ (mM_R M).locals ∧ mM_c M ≤ (mM_R M).cells ∧ mM_s M ≤ (mM_R M).slots
theorem gk_callV {κ r ci n index maxL : Nat} {own : String} {y : MethodName} {bytes : ByteArray} {ret : Option FieldType} {rm : Room} {As : List Value} {C : String} {T : u_T} {N : Nat} {ty : Nat → FieldType} {fs : List (Option Nat)} {oc : Option β} {outc : β → Int × gs_Mem} {X : β → Option α}
    (hC : gs_C E y bytes maxL ret κ rm (gr E r :: As) σ oc outc) (ho : mM_own M = own) (hm : gs_mV y bytes maxL ret n) (hlink : Cond.methodLink own index y ∈ WS) (hcl : gs_cls ci C T N ty) (hyC : y.cls = C) (hr : r < 79) (hsh : SH r = sp_o ci fs) (hfit : gs_fit M rm maxL)
    (hn : As.length = n) (hst : As.reverse ++ gr E r :: rest = S0) (hrest : (rest.map fun v => v.category).sum ≤ 8) (d : decode (mM_cc M) pc = .ok (.invokevirtual index, 3))
    (k : ∀ b, gs_K E M out (X b) (pc + 3) L ((gs_rv κ (outc b).1).toList ++ rest) (outc b).2) : gs_K E M out (oc.bind X) pc L S0 σ := by
  subst ho; subst hst; subst hyC
  refine gk_run (κ := κ) (av := gr E r :: As) (fun hE b hb p e s m args below meth c H locs ls hc hK hP hl => ?_) k
  obtain ⟨hx, hbc, hml, hr0, hlk, hown, hts, hX⟩ := hc
  obtain ⟨m1, m2, m3, m4, m5, m6, m7⟩ := hm
  obtain ⟨f1, f2, f3, f4, f5, f6⟩ := hfit
  exact va_runV (As := As) (rest := rest) ⟨hx, hbc, hml, hown, hts⟩ (hC hE b hb)
    ⟨⟨f1, f2, f3, f4, pay_in hts (gs_goodc m1), List.mem_cons_self, hts _ m1, hts _ m4, ⟨m5, m6⟩, some_len m7, hts _ hlink⟩, hts _ m2, hts _ m3⟩
    ⟨gs_blind, va_recv hK hP hcl.1 (gs_get_o hr hsh), fun U hU hW => ⟨rfl, by rw [hU]; exact hP, va_K.moved hW.alike hK, hX.1.warm hW⟩⟩
    rfl hn hl.1 rfl (lv_room hrest) d ⟨f5, f6⟩
theorem gk_callVN {κ r ci n index maxL : Nat} {own host : String} {y : MethodName} {bytes : ByteArray} {ret : Option FieldType} {rm : Room} {As : List Value} {C : String} {T : u_T} {N : Nat} {ty : Nat → FieldType} {fs : List (Option Nat)} {oc : Option β} {outc : β → Int × gs_Mem} {X : β → Option α}
    (hC : gs_C E y bytes maxL ret κ rm (gr E r :: As) σ oc outc) (ho : mM_own M = own) (hm : gs_mV y bytes maxL ret n) (hlink : Cond.methodLinkNest own index y host ∈ WN) (hcl : gs_cls ci C T N ty) (hyC : y.cls = C) (hr : r < 79) (hsh : SH r = sp_o ci fs) (hfit : gs_fit M rm maxL)
    (hn : As.length = n) (hst : As.reverse ++ gr E r :: rest = S0) (hrest : (rest.map fun v => v.category).sum ≤ 8) (d : decode (mM_cc M) pc = .ok (.invokevirtual index, 3))
    (k : ∀ b, gs_K E M out (X b) (pc + 3) L ((gs_rv κ (outc b).1).toList ++ rest) (outc b).2) : gs_K E M out (oc.bind X) pc L S0 σ := by
  subst ho; subst hst; subst hyC
  refine gk_run (κ := κ) (av := gr E r :: As) (fun hE b hb p e s m args below meth c H locs ls hc hK hP hl => ?_) k
  obtain ⟨hx, hbc, hml, hr0, hlk, hown, hts, hX⟩ := hc
  obtain ⟨m1, m2, m3, m4, m5, m6, m7⟩ := hm
  obtain ⟨f1, f2, f3, f4, f5, f6⟩ := hfit
  exact va_runVN (As := As) (rest := rest) ⟨hx, hbc, hml, hown, hts⟩ (hC hE b hb)
    ⟨⟨⟨f1, f2, f3, f4, pay_in hts (gs_goodc m1), List.mem_cons_self⟩, hts _ m1, hts _ m4, ⟨m5, m6⟩, some_len m7, hX.1.use hlink⟩, hts _ m2, hts _ m3⟩
    ⟨gs_blind, va_recv hK hP hcl.1 (gs_get_o hr hsh), fun U hU hW => ⟨rfl, by rw [hU]; exact hP, va_K.moved hW.alike hK, hX.1.warm hW⟩⟩
    rfl hn hl.1 rfl (lv_room hrest) d ⟨f5, f6⟩
theorem gk_callS {κ n index maxL : Nat} {own : String} {y : MethodName} {bytes : ByteArray} {ret : Option FieldType} {rm : Room} {As : List Value} {oc : Option β} {outc : β → Int × gs_Mem} {X : β → Option α}
    (hC : gs_C E y bytes maxL ret κ rm As σ oc outc) (ho : mM_own M = own) (hm : gs_mS y bytes maxL ret n) (hlink : Cond.methodLink own index y ∈ WS) (hfit : gs_fit M rm maxL)
    (hn : As.length = n) (hst : As.reverse ++ rest = S0) (hrest : (rest.map fun v => v.category).sum ≤ 8) (d : decode (mM_cc M) pc = .ok (.invokestatic index, 3))
    (k : ∀ b, gs_K E M out (X b) (pc + 3) L ((gs_rv κ (outc b).1).toList ++ rest) (outc b).2) : gs_K E M out (oc.bind X) pc L S0 σ := by
  subst ho; subst hst
  refine gk_run (κ := κ) (av := As) (fun hE b hb p e s m args below meth c H locs ls hc hK hP hl => ?_) k
  obtain ⟨hx, hbc, hml, hr0, hlk, hown, hts, hX⟩ := hc
  obtain ⟨m1, m2, m4, m5, m6, m7⟩ := hm
  obtain ⟨f1, f2, f3, f4, f5, f6⟩ := hfit
  exact va_runS (As := As) (rest := rest) ⟨hx, hbc, hml, hown, hts⟩ (hC hE b hb)
    ⟨⟨f1, f2, f3, f4, pay_in hts (gs_goodc m1), List.mem_cons_self, hts _ m1, hts _ m4, ⟨m5, m6⟩, some_len m7, hts _ hlink⟩, hts _ m2⟩
    ⟨gs_blind, fun U hU hW => ⟨rfl, by rw [hU]; exact hP, va_K.moved hW.alike hK, hX.1.warm hW⟩⟩
    rfl hn hl.1 rfl (lv_room hrest) d ⟨f5, f6⟩
theorem gk_callSN {κ n index maxL : Nat} {own host : String} {y : MethodName} {bytes : ByteArray} {ret : Option FieldType} {rm : Room} {As : List Value} {oc : Option β} {outc : β → Int × gs_Mem} {X : β → Option α}
    (hC : gs_C E y bytes maxL ret κ rm As σ oc outc) (ho : mM_own M = own) (hm : gs_mS y bytes maxL ret n) (hlink : Cond.methodLinkNest own index y host ∈ WN) (hfit : gs_fit M rm maxL)
    (hn : As.length = n) (hst : As.reverse ++ rest = S0) (hrest : (rest.map fun v => v.category).sum ≤ 8) (d : decode (mM_cc M) pc = .ok (.invokestatic index, 3))
    (k : ∀ b, gs_K E M out (X b) (pc + 3) L ((gs_rv κ (outc b).1).toList ++ rest) (outc b).2) : gs_K E M out (oc.bind X) pc L S0 σ := by
  subst ho; subst hst
  refine gk_run (κ := κ) (av := As) (fun hE b hb p e s m args below meth c H locs ls hc hK hP hl => ?_) k
  obtain ⟨hx, hbc, hml, hr0, hlk, hown, hts, hX⟩ := hc
  obtain ⟨m1, m2, m4, m5, m6, m7⟩ := hm
  obtain ⟨f1, f2, f3, f4, f5, f6⟩ := hfit
  exact va_runSN (As := As) (rest := rest) ⟨hx, hbc, hml, hown, hts⟩ (hC hE b hb)
    ⟨⟨⟨f1, f2, f3, f4, pay_in hts (gs_goodc m1), List.mem_cons_self⟩, hts _ m1, hts _ m4, ⟨m5, m6⟩, some_len m7, hX.1.use hlink⟩, hts _ m2, trivial⟩
    ⟨gs_blind, fun U hU hW => ⟨rfl, by rw [hU]; exact hP, va_K.moved hW.alike hK, hX.1.warm hW⟩⟩
    rfl hn hl.1 rfl (lv_room hrest) d ⟨f5, f6⟩
/-! System.arraycopy -/
def gs_acW (own : String) (index : Nat) : Prop := Cond.methodLink own index arraycopyName ∈ WS ∧ Cond.native arraycopyName ∈ WS ∧ Cond.static arraycopyName ∈ WS ∧ Cond.initialized "java/lang/System" ∈ WS
theorem gk_copy_i {own : String} {index r1 r2 n1 n2 : Nat} {sp sp' dp dp' n n' : Int} (ho : mM_own M = own) (hw : gs_acW own index) (hr1 : r1 < 79) (hs1 : SH r1 = sp_i n1) (hr2 : r2 < 79) (hs2 : SH r2 = sp_i n2) (hsp : gn sp = sp') (hdp : gn dp = dp') (hn : gn n = n') (hfr : 1 ≤ (mM_R M).frames) (hlo : (S.map fun v => v.category).sum + (nativeFrameWords "java/lang/System" "arraycopy" 5 + 11) ≤ (mM_R M).locals) (d : decode (mM_cc M) pc = .ok (.invokestatic index, 3))
    (kk : gs_K E M out o (pc + 3) L S (gs_cp σ r1 sp'.toNat r2 dp'.toNat n'.toNat)) : gs_K E M out (if 0 ≤ sp' ∧ 0 ≤ dp' ∧ 0 ≤ n' ∧ sp' + n' ≤ (n1 : Int) ∧ dp' + n' ≤ (n2 : Int) then o else none) pc L (gi n :: gi dp :: gr E r2 :: gi sp :: gr E r1 :: S) σ :=
  gk_guard fun hin => gk_goW (fun p e s m args below meth c H locs ls Q hc hK hP hD hS hl kk => by
    subst ho; subst hsp; subst hdp; subst hn
    obtain ⟨w1, w2, w3, w4⟩ := hw
    obtain ⟨hx, hbc, hml, hr0, hlk, hown, hts, hX⟩ := hc
    obtain ⟨g1, g2, g3, g4, g5⟩ := hin
    have nn : ∀ z : Int, 0 ≤ gn z → ¬ Int32.ofInt z < 0 := fun z hz q => by have := c0_lt.mp q; omega
    have e1 : gs_ent E (gs_cp σ r1 (gn sp).toNat r2 (gn dp).toNat (gn n).toNat r2) (SH r2) = .inl (gs_cA E .int, n2, .inl (va_cpy (fun j => Int32.ofInt (σ r1 j)) (fun j => Int32.ofInt (σ r2 j)) (Int32.ofInt sp).toNatClampNeg (Int32.ofInt dp).toNatClampNeg (Int32.ofInt n).toNatClampNeg)) := by
      rw [hs2, ai_nn g1, ai_nn g2, ai_nn g3, cpy_i]; rfl
    exact va_copyi (D := gs_D E) (ty := .int) hx hbc (hml.trans hl.1.symm) hown (hts _ w1) (hts _ w2) (hts _ w3) (hts _ w4) hK hP hD hS r1 r2 0 0 (gs_get_i hr1 hs1) (gs_get_i hr2 hs2) rfl rfl rfl (nn _ g1) (nn _ g2) (nn _ g3)
      (by rw [ai_nn g1, ai_nn g3]; omega) (by rw [ai_nn g2, ai_nn g3]; omega) (fun i _ => rfl) hfr hlo d
      (fun H1 locs1 hP1 hD1 hS1 => kk H1 locs1 (by rw [gs_ws_set hr2 (gs_cp_o σ r1 _ r2 _ _) e1] at hP1; exact hP1) hS1)) kk
theorem gk_copy_l {own : String} {index r1 r2 n1 n2 : Nat} {sp sp' dp dp' n n' : Int} (ho : mM_own M = own) (hw : gs_acW own index) (hr1 : r1 < 79) (hs1 : SH r1 = sp_l n1) (hr2 : r2 < 79) (hs2 : SH r2 = sp_l n2) (hsp : gn sp = sp') (hdp : gn dp = dp') (hn : gn n = n') (hfr : 1 ≤ (mM_R M).frames) (hlo : (S.map fun v => v.category).sum + (nativeFrameWords "java/lang/System" "arraycopy" 5 + 11) ≤ (mM_R M).locals) (d : decode (mM_cc M) pc = .ok (.invokestatic index, 3))
    (kk : gs_K E M out o (pc + 3) L S (gs_cp σ r1 sp'.toNat r2 dp'.toNat n'.toNat)) : gs_K E M out (if 0 ≤ sp' ∧ 0 ≤ dp' ∧ 0 ≤ n' ∧ sp' + n' ≤ (n1 : Int) ∧ dp' + n' ≤ (n2 : Int) then o else none) pc L (gi n :: gi dp :: gr E r2 :: gi sp :: gr E r1 :: S) σ :=
  gk_guard fun hin => gk_goW (fun p e s m args below meth c H locs ls Q hc hK hP hD hS hl kk => by
    subst ho; subst hsp; subst hdp; subst hn
    obtain ⟨w1, w2, w3, w4⟩ := hw
    obtain ⟨hx, hbc, hml, hr0, hlk, hown, hts, hX⟩ := hc
    obtain ⟨g1, g2, g3, g4, g5⟩ := hin
    have nn : ∀ z : Int, 0 ≤ gn z → ¬ Int32.ofInt z < 0 := fun z hz q => by have := c0_lt.mp q; omega
    have e1 : gs_ent E (gs_cp σ r1 (gn sp).toNat r2 (gn dp).toNat (gn n).toNat r2) (SH r2) = .inl (gs_cA E .long, n2, .inr (.inl (va_cpy (fun j => Int64.ofInt (σ r1 j)) (fun j => Int64.ofInt (σ r2 j)) (Int32.ofInt sp).toNatClampNeg (Int32.ofInt dp).toNatClampNeg (Int32.ofInt n).toNatClampNeg))) := by
      rw [hs2, ai_nn g1, ai_nn g2, ai_nn g3, cpy_l]; rfl
    exact va_copyl (D := gs_D E) (ty := .long) hx hbc (hml.trans hl.1.symm) hown (hts _ w1) (hts _ w2) (hts _ w3) (hts _ w4) hK hP hD hS r1 r2 3 3 (gs_get_l hr1 hs1) (gs_get_l hr2 hs2) rfl rfl rfl (nn _ g1) (nn _ g2) (nn _ g3)
      (by rw [ai_nn g1, ai_nn g3]; omega) (by rw [ai_nn g2, ai_nn g3]; omega) (fun i _ => rfl) hfr hlo d
      (fun H1 locs1 hP1 hD1 hS1 => kk H1 locs1 (by rw [gs_ws_set hr2 (gs_cp_o σ r1 _ r2 _ _) e1] at hP1; exact hP1) hS1)) kk
/-! tableswitch: a case a row, then what is left -/
theorem gk_sw {dflt lo hi : Int} {offs : Array Int} {len : Nat} {x : Int} {off : Int} {o1 o2 : Option α} (c : Int) (d : decode (mM_cc M) pc = .ok (.tableswitch dflt lo hi offs, len)) (h1 : lo ≤ c ∧ c ≤ hi) (hoff : offs[(c - lo).toNat]? = some off) (ht : (pc : Int) + off = (tgt : Int))
    (k1 : gs_K E M out o1 tgt L S σ) (k2 : gn x ≠ c → gs_K E M out o2 pc L (gi x :: S) σ) : gs_K E M out (if gn x = c then o1 else o2) pc L (gi x :: S) σ := by
  refine gk_ite (fun h => ?_) k2
  refine gk_go (fun p e s m args below meth c' H locs ls Q hc hl kk => ?_) k1
  have e : (Int32.ofInt x).toInt = c := h
  exact lv_tableIn hc.1 hc.2.1 d (by rw [e]; omega) (by rw [e]; omega) (by rw [e]; exact hoff) ht kk
theorem gk_swD {dflt lo hi : Int} {offs : Array Int} {len : Nat} {x : Int} (d : decode (mM_cc M) pc = .ok (.tableswitch dflt lo hi offs, len)) (h : gn x < lo ∨ hi < gn x) (ht : (pc : Int) + dflt = (tgt : Int))
    (k : gs_K E M out o tgt L S σ) : gs_K E M out o pc L (gi x :: S) σ :=
  gk_go (fun p e s m args below meth c H locs ls Q hc hl kk => lv_tableOut hc.1 hc.2.1 d h ht kk) k
end GKcalls
end
section
def gs_fuel : Nat := 1000000
theorem gs_fuel_big : 100000 ≤ gs_fuel := by decide +kernel
theorem gn_ti (z : Int32) : gn z.toInt = z.toInt := by unfold gn; rw [oi_toInt]
def gs_chk {α : Type} (i : Int) (n : Nat) (o : Option α) : Option α := if 0 ≤ i ∧ i < (n : Int) then o else none
def gs_chk0 {α : Type} (i : Int) (o : Option α) : Option α := if i = 0 then none else o
def gs_chkz {α : Type} (i : Int) (o : Option α) : Option α := if i = 0 ∨ i = 1 then o else none
def gs_chkc {α : Type} (sp dp n : Int) (n1 n2 : Nat) (o : Option α) : Option α := if 0 ≤ sp ∧ 0 ≤ dp ∧ 0 ≤ n ∧ sp + n ≤ (n1 : Int) ∧ dp + n ≤ (n2 : Int) then o else none
theorem gs_chk_t {α : Type} {i : Int} {n : Nat} {o : Option α} (h1 : 0 ≤ i) (h2 : i < (n : Int)) : gs_chk i n o = o := if_pos ⟨h1, h2⟩
theorem gs_chk0_t {α : Type} {i : Int} {o : Option α} (h : i ≠ 0) : gs_chk0 i o = o := if_neg h
theorem gs_chkz_t {α : Type} {i : Int} {o : Option α} (h : i = 0 ∨ i = 1) : gs_chkz i o = o := if_pos h
theorem gs_chkc_t {α : Type} {sp dp n : Int} {n1 n2 : Nat} {o : Option α} (h : 0 ≤ sp ∧ 0 ≤ dp ∧ 0 ≤ n ∧ sp + n ≤ (n1 : Int) ∧ dp + n ≤ (n2 : Int)) : gs_chkc sp dp n n1 n2 o = o := if_pos h
theorem cll_0 : 0 < 79 := by decide
theorem sh_0 : SH 0 = sp_o 6 fs_gs := rfl
theorem cll_1 : 1 < 79 := by decide
theorem sh_1 : SH 1 = sp_o 2 (fs_st 1) := rfl
theorem cll_2 : 2 < 79 := by decide
theorem sh_2 : SH 2 = sp_o 0 (fs_pl 2) := rfl
theorem cll_3 : 3 < 79 := by decide
theorem sh_3 : SH 3 = sp_i 8 := rfl
theorem cll_4 : 4 < 79 := by decide
theorem sh_4 : SH 4 = sp_i 8 := rfl
theorem cll_5 : 5 < 79 := by decide
theorem sh_5 : SH 5 = sp_i 8 := rfl
theorem cll_6 : 6 < 79 := by decide
theorem sh_6 : SH 6 = sp_i 3 := rfl
theorem cll_7 : 7 < 79 := by decide
theorem sh_7 : SH 7 = sp_i 3 := rfl
theorem cll_8 : 8 < 79 := by decide
theorem sh_8 : SH 8 = sp_i 64 := rfl
theorem cll_9 : 9 < 79 := by decide
theorem sh_9 : SH 9 = sp_i 8 := rfl
theorem cll_10 : 10 < 79 := by decide
theorem sh_10 : SH 10 = sp_i 8 := rfl
theorem cll_11 : 11 < 79 := by decide
theorem sh_11 : SH 11 = sp_o 1 (fs_rw 11) := rfl
theorem cll_12 : 12 < 79 := by decide
theorem sh_12 : SH 12 = sp_i 8 := rfl
theorem cll_13 : 13 < 79 := by decide
theorem sh_13 : SH 13 = sp_i 8 := rfl
theorem cll_14 : 14 < 79 := by decide
theorem sh_14 : SH 14 = sp_o 1 (fs_rw 14) := rfl
theorem cll_15 : 15 < 79 := by decide
theorem sh_15 : SH 15 = sp_i 8 := rfl
theorem cll_16 : 16 < 79 := by decide
theorem sh_16 : SH 16 = sp_i 8 := rfl
theorem cll_17 : 17 < 79 := by decide
theorem sh_17 : SH 17 = sp_o 1 (fs_rw 17) := rfl
theorem cll_18 : 18 < 79 := by decide
theorem sh_18 : SH 18 = sp_i 8 := rfl
theorem cll_19 : 19 < 79 := by decide
theorem sh_19 : SH 19 = sp_i 8 := rfl
theorem cll_20 : 20 < 79 := by decide
theorem sh_20 : SH 20 = sp_o 2 (fs_st 20) := rfl
theorem cll_21 : 21 < 79 := by decide
theorem sh_21 : SH 21 = sp_o 0 (fs_pl 21) := rfl
theorem cll_22 : 22 < 79 := by decide
theorem sh_22 : SH 22 = sp_i 8 := rfl
theorem cll_23 : 23 < 79 := by decide
theorem sh_23 : SH 23 = sp_i 8 := rfl
theorem cll_24 : 24 < 79 := by decide
theorem sh_24 : SH 24 = sp_i 8 := rfl
theorem cll_25 : 25 < 79 := by decide
theorem sh_25 : SH 25 = sp_i 3 := rfl
theorem cll_26 : 26 < 79 := by decide
theorem sh_26 : SH 26 = sp_i 3 := rfl
theorem cll_27 : 27 < 79 := by decide
theorem sh_27 : SH 27 = sp_i 64 := rfl
theorem cll_28 : 28 < 79 := by decide
theorem sh_28 : SH 28 = sp_i 8 := rfl
theorem cll_29 : 29 < 79 := by decide
theorem sh_29 : SH 29 = sp_i 8 := rfl
theorem cll_30 : 30 < 79 := by decide
theorem sh_30 : SH 30 = sp_o 1 (fs_rw 30) := rfl
theorem cll_31 : 31 < 79 := by decide
theorem sh_31 : SH 31 = sp_i 8 := rfl
theorem cll_32 : 32 < 79 := by decide
theorem sh_32 : SH 32 = sp_i 8 := rfl
theorem cll_33 : 33 < 79 := by decide
theorem sh_33 : SH 33 = sp_o 1 (fs_rw 33) := rfl
theorem cll_34 : 34 < 79 := by decide
theorem sh_34 : SH 34 = sp_i 8 := rfl
theorem cll_35 : 35 < 79 := by decide
theorem sh_35 : SH 35 = sp_i 8 := rfl
theorem cll_36 : 36 < 79 := by decide
theorem sh_36 : SH 36 = sp_o 1 (fs_rw 36) := rfl
theorem cll_37 : 37 < 79 := by decide
theorem sh_37 : SH 37 = sp_i 8 := rfl
theorem cll_38 : 38 < 79 := by decide
theorem sh_38 : SH 38 = sp_i 8 := rfl
theorem cll_39 : 39 < 79 := by decide
theorem sh_39 : SH 39 = sp_o 0 (fs_pl 39) := rfl
theorem cll_40 : 40 < 79 := by decide
theorem sh_40 : SH 40 = sp_i 8 := rfl
theorem cll_41 : 41 < 79 := by decide
theorem sh_41 : SH 41 = sp_i 8 := rfl
theorem cll_42 : 42 < 79 := by decide
theorem sh_42 : SH 42 = sp_i 8 := rfl
theorem cll_43 : 43 < 79 := by decide
theorem sh_43 : SH 43 = sp_i 3 := rfl
theorem cll_44 : 44 < 79 := by decide
theorem sh_44 : SH 44 = sp_i 3 := rfl
theorem cll_45 : 45 < 79 := by decide
theorem sh_45 : SH 45 = sp_i 64 := rfl
theorem cll_46 : 46 < 79 := by decide
theorem sh_46 : SH 46 = sp_i 8 := rfl
theorem cll_47 : 47 < 79 := by decide
theorem sh_47 : SH 47 = sp_i 8 := rfl
theorem cll_48 : 48 < 79 := by decide
theorem sh_48 : SH 48 = sp_o 5 fs_wd := rfl
theorem cll_49 : 49 < 79 := by decide
theorem sh_49 : SH 49 = sp_i 8 := rfl
theorem cll_50 : 50 < 79 := by decide
theorem sh_50 : SH 50 = sp_i 72 := rfl
theorem cll_51 : 51 < 79 := by decide
theorem sh_51 : SH 51 = sp_o 4 fs_tx := rfl
theorem cll_52 : 52 < 79 := by decide
theorem sh_52 : SH 52 = .inl (.byte, 100) := rfl
theorem cll_53 : 53 < 79 := by decide
theorem sh_53 : SH 53 = sp_i 8 := rfl
theorem cll_54 : 54 < 79 := by decide
theorem sh_54 : SH 54 = sp_i 8 := rfl
theorem cll_55 : 55 < 79 := by decide
theorem sh_55 : SH 55 = sp_i 8 := rfl
theorem cll_56 : 56 < 79 := by decide
theorem sh_56 : SH 56 = .inl (.boolean, 8) := rfl
theorem cll_57 : 57 < 79 := by decide
theorem sh_57 : SH 57 = .inr (.inr (6, fun k => 58 + 2 * k)) := rfl
theorem cll_58 : 58 < 79 := by decide
theorem sh_58 : SH 58 = sp_o 3 (fs_tp 58) := rfl
theorem cll_59 : 59 < 79 := by decide
theorem sh_59 : SH 59 = sp_l 60 := rfl
theorem cll_60 : 60 < 79 := by decide
theorem sh_60 : SH 60 = sp_o 3 (fs_tp 60) := rfl
theorem cll_61 : 61 < 79 := by decide
theorem sh_61 : SH 61 = sp_l 60 := rfl
theorem cll_62 : 62 < 79 := by decide
theorem sh_62 : SH 62 = sp_o 3 (fs_tp 62) := rfl
theorem cll_63 : 63 < 79 := by decide
theorem sh_63 : SH 63 = sp_l 60 := rfl
theorem cll_64 : 64 < 79 := by decide
theorem sh_64 : SH 64 = sp_o 3 (fs_tp 64) := rfl
theorem cll_65 : 65 < 79 := by decide
theorem sh_65 : SH 65 = sp_l 60 := rfl
theorem cll_66 : 66 < 79 := by decide
theorem sh_66 : SH 66 = sp_o 3 (fs_tp 66) := rfl
theorem cll_67 : 67 < 79 := by decide
theorem sh_67 : SH 67 = sp_l 60 := rfl
theorem cll_68 : 68 < 79 := by decide
theorem sh_68 : SH 68 = sp_o 3 (fs_tp 68) := rfl
theorem cll_69 : 69 < 79 := by decide
theorem sh_69 : SH 69 = sp_l 60 := rfl
theorem cll_70 : 70 < 79 := by decide
theorem sh_70 : SH 70 = sp_o 7 fs_md := rfl
theorem cll_71 : 71 < 79 := by decide
theorem sh_71 : SH 71 = sp_i 84 := rfl
theorem cll_72 : 72 < 79 := by decide
theorem sh_72 : SH 72 = sp_i 84 := rfl
theorem cll_73 : 73 < 79 := by decide
theorem sh_73 : SH 73 = sp_i 84 := rfl
theorem cll_74 : 74 < 79 := by decide
theorem sh_74 : SH 74 = sp_i 100 := rfl
theorem cll_75 : 75 < 79 := by decide
theorem sh_75 : SH 75 = sp_i 32 := rfl
theorem cll_76 : 76 < 79 := by decide
theorem sh_76 : SH 76 = sp_i 6 := rfl
theorem cll_77 : 77 < 79 := by decide
theorem sh_77 : SH 77 = sp_i 6 := rfl
theorem cll_78 : 78 < 79 := by decide
theorem sh_78 : SH 78 = sp_l 360 := rfl
def isPl (r : Nat) : Prop := r = 2 ∨ r = 21 ∨ r = 39
theorem isPl_2 : isPl 2 := by unfold isPl; decide
theorem isPl_21 : isPl 21 := by unfold isPl; decide
theorem isPl_39 : isPl 39 := by unfold isPl; decide
theorem pl_lt0 {r : Nat} (h : isPl r) : r < 79 := by unfold isPl at h; omega
theorem pl_sh {r : Nat} (h : isPl r) : SH r = sp_o 0 (fs_pl r) := by
  unfold isPl at h
  rcases h with rfl|rfl|rfl <;> rfl
theorem pl_lt1 {r : Nat} (h : isPl r) : r + 1 < 79 := by unfold isPl at h; omega
theorem pl_s1 {r : Nat} (h : isPl r) : SH (r + 1) = sp_i 8 := by
  unfold isPl at h
  rcases h with rfl|rfl|rfl <;> rfl
theorem pl_lt2 {r : Nat} (h : isPl r) : r + 2 < 79 := by unfold isPl at h; omega
theorem pl_s2 {r : Nat} (h : isPl r) : SH (r + 2) = sp_i 8 := by
  unfold isPl at h
  rcases h with rfl|rfl|rfl <;> rfl
theorem pl_lt3 {r : Nat} (h : isPl r) : r + 3 < 79 := by unfold isPl at h; omega
theorem pl_s3 {r : Nat} (h : isPl r) : SH (r + 3) = sp_i 8 := by
  unfold isPl at h
  rcases h with rfl|rfl|rfl <;> rfl
theorem pl_lt4 {r : Nat} (h : isPl r) : r + 4 < 79 := by unfold isPl at h; omega
theorem pl_s4 {r : Nat} (h : isPl r) : SH (r + 4) = sp_i 3 := by
  unfold isPl at h
  rcases h with rfl|rfl|rfl <;> rfl
theorem pl_lt5 {r : Nat} (h : isPl r) : r + 5 < 79 := by unfold isPl at h; omega
theorem pl_s5 {r : Nat} (h : isPl r) : SH (r + 5) = sp_i 3 := by
  unfold isPl at h
  rcases h with rfl|rfl|rfl <;> rfl
theorem pl_lt6 {r : Nat} (h : isPl r) : r + 6 < 79 := by unfold isPl at h; omega
theorem pl_s6 {r : Nat} (h : isPl r) : SH (r + 6) = sp_i 64 := by
  unfold isPl at h
  rcases h with rfl|rfl|rfl <;> rfl
theorem pl_lt7 {r : Nat} (h : isPl r) : r + 7 < 79 := by unfold isPl at h; omega
theorem pl_s7 {r : Nat} (h : isPl r) : SH (r + 7) = sp_i 8 := by
  unfold isPl at h
  rcases h with rfl|rfl|rfl <;> rfl
theorem pl_lt8 {r : Nat} (h : isPl r) : r + 8 < 79 := by unfold isPl at h; omega
theorem pl_s8 {r : Nat} (h : isPl r) : SH (r + 8) = sp_i 8 := by
  unfold isPl at h
  rcases h with rfl|rfl|rfl <;> rfl
def isRw (r : Nat) : Prop := r = 11 ∨ r = 14 ∨ r = 17 ∨ r = 30 ∨ r = 33 ∨ r = 36
theorem isRw_11 : isRw 11 := by unfold isRw; decide
theorem isRw_14 : isRw 14 := by unfold isRw; decide
theorem isRw_17 : isRw 17 := by unfold isRw; decide
theorem isRw_30 : isRw 30 := by unfold isRw; decide
theorem isRw_33 : isRw 33 := by unfold isRw; decide
theorem isRw_36 : isRw 36 := by unfold isRw; decide
theorem rw_lt0 {r : Nat} (h : isRw r) : r < 79 := by unfold isRw at h; omega
theorem rw_sh {r : Nat} (h : isRw r) : SH r = sp_o 1 (fs_rw r) := by
  unfold isRw at h
  rcases h with rfl|rfl|rfl|rfl|rfl|rfl <;> rfl
theorem rw_lt1 {r : Nat} (h : isRw r) : r + 1 < 79 := by unfold isRw at h; omega
theorem rw_s1 {r : Nat} (h : isRw r) : SH (r + 1) = sp_i 8 := by
  unfold isRw at h
  rcases h with rfl|rfl|rfl|rfl|rfl|rfl <;> rfl
theorem rw_lt2 {r : Nat} (h : isRw r) : r + 2 < 79 := by unfold isRw at h; omega
theorem rw_s2 {r : Nat} (h : isRw r) : SH (r + 2) = sp_i 8 := by
  unfold isRw at h
  rcases h with rfl|rfl|rfl|rfl|rfl|rfl <;> rfl
def isSt (r : Nat) : Prop := r = 1 ∨ r = 20
theorem isSt_1 : isSt 1 := by unfold isSt; decide
theorem isSt_20 : isSt 20 := by unfold isSt; decide
theorem st_lt0 {r : Nat} (h : isSt r) : r < 79 := by unfold isSt at h; omega
theorem st_sh {r : Nat} (h : isSt r) : SH r = sp_o 2 (fs_st r) := by
  unfold isSt at h
  rcases h with rfl|rfl <;> rfl
def isTp (r : Nat) : Prop := r = 58 ∨ r = 60 ∨ r = 62 ∨ r = 64 ∨ r = 66 ∨ r = 68
theorem isTp_58 : isTp 58 := by unfold isTp; decide
theorem isTp_60 : isTp 60 := by unfold isTp; decide
theorem isTp_62 : isTp 62 := by unfold isTp; decide
theorem isTp_64 : isTp 64 := by unfold isTp; decide
theorem isTp_66 : isTp 66 := by unfold isTp; decide
theorem isTp_68 : isTp 68 := by unfold isTp; decide
theorem tp_lt0 {r : Nat} (h : isTp r) : r < 79 := by unfold isTp at h; omega
theorem tp_sh {r : Nat} (h : isTp r) : SH r = sp_o 3 (fs_tp r) := by
  unfold isTp at h
  rcases h with rfl|rfl|rfl|rfl|rfl|rfl <;> rfl
theorem tp_lt1 {r : Nat} (h : isTp r) : r + 1 < 79 := by unfold isTp at h; omega
theorem tp_s1 {r : Nat} (h : isTp r) : SH (r + 1) = sp_l 60 := by
  unfold isTp at h
  rcases h with rfl|rfl|rfl|rfl|rfl|rfl <;> rfl
def isMa (r : Nat) : Prop := r = 71 ∨ r = 72 ∨ r = 73
theorem isMa_71 : isMa 71 := by unfold isMa; decide
theorem isMa_72 : isMa 72 := by unfold isMa; decide
theorem isMa_73 : isMa 73 := by unfold isMa; decide
theorem ma_lt0 {r : Nat} (h : isMa r) : r < 79 := by unfold isMa at h; omega
theorem ma_sh {r : Nat} (h : isMa r) : SH r = sp_i 84 := by
  unfold isMa at h
  rcases h with rfl|rfl|rfl <;> rfl
theorem st_pl1 {r : Nat} (h : isSt r) : isPl (r + 1) := by unfold isSt at h; unfold isPl; omega
theorem st_rw10 {r : Nat} (h : isSt r) : isRw (r + 10) := by unfold isSt at h; unfold isRw; omega
theorem st_rw13 {r : Nat} (h : isSt r) : isRw (r + 13) := by unfold isSt at h; unfold isRw; omega
theorem st_rw16 {r : Nat} (h : isSt r) : isRw (r + 16) := by unfold isSt at h; unfold isRw; omega
theorem tp_of {i : Int} (h : 0 ≤ i ∧ i < ((6 : Nat) : Int)) : isTp (58 + 2 * i.toNat) := by unfold isTp; omega
theorem gs_fit_of {E : gs_E} {y : MethodName} {b : ByteArray} {n : Nat} {ret : Option FieldType} {κ f l f2 l2 maxL : Nat} (h1 : f + 1 ≤ f2) (h2 : 8 + (maxL + 11) + l ≤ l2) : gs_fit (gs_MC E y b n ret κ { frames := f2, cells := 0, slots := 0, locals := l2 }) { frames := f, cells := 0, slots := 0, locals := l } maxL := ⟨rfl, rfl, h1, h2, Nat.le_refl 0, Nat.le_refl 0⟩
section GKmore
variable {α β : Type} {E : gs_E} {M : gs_M} {out : α → Int × gs_Mem} {o o1 o2 o' : Option α} {pc tgt : Nat} {L L' : List (Nat × Value)} {S S' S0 rest : List Value} {σ : gs_Mem}
theorem gk_getI {own C : String} {T : u_T} {N ci index r : Nat} {ty : Nat → FieldType} {fs : List (Option Nat)} (ho : mM_own M = own) (hcl : gs_cls ci C T N ty) (hr : r < 79) (hsh : SH r = sp_o ci fs) (k : Nat) (hk : k < N) (hf : fs[k]? = some (none)) (hlink : Cond.fieldLink own index (T k).1 (T k).2.1 (T k).2.2.1 ∈ WS) (d : decode (mM_cc M) pc = .ok (.getfield index, 3))
    (kk : gs_K E M out o (pc + 3) L (gi (σ r k) :: S) σ) : gs_K E M out o pc L (gr E r :: S) σ := gk_getF ho hcl hr hsh k hk hf hlink d kk
theorem gk_getR {own C : String} {T : u_T} {N ci index r : Nat} {ty : Nat → FieldType} {fs : List (Option Nat)} {q : Nat} (ho : mM_own M = own) (hcl : gs_cls ci C T N ty) (hr : r < 79) (hsh : SH r = sp_o ci fs) (k : Nat) (hk : k < N) (hf : fs[k]? = some (some q)) (hlink : Cond.fieldLink own index (T k).1 (T k).2.1 (T k).2.2.1 ∈ WS) (d : decode (mM_cc M) pc = .ok (.getfield index, 3))
    (kk : gs_K E M out o (pc + 3) L (gr E q :: S) σ) : gs_K E M out o pc L (gr E r :: S) σ := gk_getF ho hcl hr hsh k hk hf hlink d kk
theorem gk_getIN {own C : String} {T : u_T} {N ci index r : Nat} {ty : Nat → FieldType} {fs : List (Option Nat)} {host : String} (ho : mM_own M = own) (hcl : gs_cls ci C T N ty) (hr : r < 79) (hsh : SH r = sp_o ci fs) (k : Nat) (hk : k < N) (hf : fs[k]? = some (none)) (hlink : Cond.fieldLinkNest own index (T k).1 (T k).2.1 (T k).2.2.1 host ∈ WN) (d : decode (mM_cc M) pc = .ok (.getfield index, 3))
    (kk : gs_K E M out o (pc + 3) L (gi (σ r k) :: S) σ) : gs_K E M out o pc L (gr E r :: S) σ := gk_getFN ho hcl hr hsh k hk hf hlink d kk
theorem gk_getRN {own C : String} {T : u_T} {N ci index r : Nat} {ty : Nat → FieldType} {fs : List (Option Nat)} {host : String} {q : Nat} (ho : mM_own M = own) (hcl : gs_cls ci C T N ty) (hr : r < 79) (hsh : SH r = sp_o ci fs) (k : Nat) (hk : k < N) (hf : fs[k]? = some (some q)) (hlink : Cond.fieldLinkNest own index (T k).1 (T k).2.1 (T k).2.2.1 host ∈ WN) (d : decode (mM_cc M) pc = .ok (.getfield index, 3))
    (kk : gs_K E M out o (pc + 3) L (gr E q :: S) σ) : gs_K E M out o pc L (gr E r :: S) σ := gk_getFN ho hcl hr hsh k hk hf hlink d kk
theorem gk_iald_c {r n : Nat} {i i' : Int} (hr : r < 79) (hsh : SH r = sp_i n) (hi : gn i = i') (d : decode (mM_cc M) pc = .ok (.iaload, 1))
    (kk : gs_K E M out o (pc + 1) L (gi (σ r i'.toNat) :: S) σ) : gs_K E M out (gs_chk i' n o) pc L (gi i :: gr E r :: S) σ := gk_iald hr hsh hi d kk
theorem gk_iast_c {r n : Nat} {i i' x : Int} (hr : r < 79) (hsh : SH r = sp_i n) (hi : gn i = i') (d : decode (mM_cc M) pc = .ok (.iastore, 1))
    (kk : gs_K E M out o (pc + 1) L S (gs_st σ r i'.toNat x)) : gs_K E M out (gs_chk i' n o) pc L (gi x :: gi i :: gr E r :: S) σ := gk_iast hr hsh hi d kk
theorem gk_bald_c {r n : Nat} {i i' : Int} (hr : r < 79) (hsh : SH r = .inl (.byte, n)) (hi : gn i = i') (d : decode (mM_cc M) pc = .ok (.baload, 1))
    (kk : gs_K E M out o (pc + 1) L (gi (σ r i'.toNat) :: S) σ) : gs_K E M out (gs_chk i' n o) pc L (gi i :: gr E r :: S) σ := gk_bald hr hsh hi d kk
theorem gk_bast_c {r n : Nat} {i i' x : Int} (hr : r < 79) (hsh : SH r = .inl (.byte, n)) (hi : gn i = i') (d : decode (mM_cc M) pc = .ok (.bastore, 1))
    (kk : gs_K E M out o (pc + 1) L S (gs_st σ r i'.toNat (gb x))) : gs_K E M out (gs_chk i' n o) pc L (gi x :: gi i :: gr E r :: S) σ := gk_bast hr hsh hi d kk
theorem gk_zald_c {r n : Nat} {i i' : Int} (hr : r < 79) (hsh : SH r = .inl (.boolean, n)) (hi : gn i = i') (d : decode (mM_cc M) pc = .ok (.baload, 1))
    (kk : gs_K E M out o (pc + 1) L (gi (σ r i'.toNat) :: S) σ) : gs_K E M out (gs_chk i' n o) pc L (gi i :: gr E r :: S) σ := gk_zald hr hsh hi d kk
theorem gk_zast_c {r n : Nat} {i i' x : Int} (hr : r < 79) (hsh : SH r = .inl (.boolean, n)) (hi : gn i = i') (hx : vp_nar .boolean (Int32.ofInt x) = Int32.ofInt x) (d : decode (mM_cc M) pc = .ok (.bastore, 1))
    (kk : gs_K E M out o (pc + 1) L S (gs_st σ r i'.toNat x)) : gs_K E M out (gs_chk i' n o) pc L (gi x :: gi i :: gr E r :: S) σ := gk_zast hr hsh hi hx d kk
theorem gk_lald_c {r n : Nat} {i i' : Int} (hr : r < 79) (hsh : SH r = sp_l n) (hi : gn i = i') (d : decode (mM_cc M) pc = .ok (.laload, 1))
    (kk : gs_K E M out o (pc + 1) L (gl (σ r i'.toNat) :: S) σ) : gs_K E M out (gs_chk i' n o) pc L (gi i :: gr E r :: S) σ := gk_lald hr hsh hi d kk
theorem gk_last_c {r n : Nat} {i i' x : Int} (hr : r < 79) (hsh : SH r = sp_l n) (hi : gn i = i') (d : decode (mM_cc M) pc = .ok (.lastore, 1))
    (kk : gs_K E M out o (pc + 1) L S (gs_st σ r i'.toNat x)) : gs_K E M out (gs_chk i' n o) pc L (gl x :: gi i :: gr E r :: S) σ := gk_last hr hsh hi d kk
theorem gk_aald_c {r n : Nat} {q : Nat → Nat} {i i' : Int} (hr : r < 79) (hsh : SH r = .inr (.inr (n, q))) (hi : gn i = i') (d : decode (mM_cc M) pc = .ok (.aaload, 1))
    (kk : 0 ≤ i' ∧ i' < (n : Int) → gs_K E M out o (pc + 1) L (gr E (q i'.toNat) :: S) σ) : gs_K E M out (gs_chk i' n o) pc L (gi i :: gr E r :: S) σ := gk_aald hr hsh hi d kk
theorem gk_copy_i_c {own : String} {index r1 r2 n1 n2 : Nat} {sp sp' dp dp' n n' : Int} (ho : mM_own M = own) (hw : gs_acW own index) (hr1 : r1 < 79) (hs1 : SH r1 = sp_i n1) (hr2 : r2 < 79) (hs2 : SH r2 = sp_i n2) (hsp : gn sp = sp') (hdp : gn dp = dp') (hn : gn n = n') (hfr : 1 ≤ (mM_R M).frames) (hlo : (S.map fun v => v.category).sum + (nativeFrameWords "java/lang/System" "arraycopy" 5 + 11) ≤ (mM_R M).locals) (d : decode (mM_cc M) pc = .ok (.invokestatic index, 3))
    (kk : gs_K E M out o (pc + 3) L S (gs_cp σ r1 sp'.toNat r2 dp'.toNat n'.toNat)) : gs_K E M out (gs_chkc sp' dp' n' n1 n2 o) pc L (gi n :: gi dp :: gr E r2 :: gi sp :: gr E r1 :: S) σ := gk_copy_i ho hw hr1 hs1 hr2 hs2 hsp hdp hn hfr hlo d kk
theorem gk_copy_l_c {own : String} {index r1 r2 n1 n2 : Nat} {sp sp' dp dp' n n' : Int} (ho : mM_own M = own) (hw : gs_acW own index) (hr1 : r1 < 79) (hs1 : SH r1 = sp_l n1) (hr2 : r2 < 79) (hs2 : SH r2 = sp_l n2) (hsp : gn sp = sp') (hdp : gn dp = dp') (hn : gn n = n') (hfr : 1 ≤ (mM_R M).frames) (hlo : (S.map fun v => v.category).sum + (nativeFrameWords "java/lang/System" "arraycopy" 5 + 11) ≤ (mM_R M).locals) (d : decode (mM_cc M) pc = .ok (.invokestatic index, 3))
    (kk : gs_K E M out o (pc + 3) L S (gs_cp σ r1 sp'.toNat r2 dp'.toNat n'.toNat)) : gs_K E M out (gs_chkc sp' dp' n' n1 n2 o) pc L (gi n :: gi dp :: gr E r2 :: gi sp :: gr E r1 :: S) σ := gk_copy_l ho hw hr1 hs1 hr2 hs2 hsp hdp hn hfr hlo d kk
theorem gk_zretG_c {y : MethodName} {bytes : ByteArray} {maxL : Nat} {rm : Room} {a : α} {x x' : Int} (hx : gn x = x') (hout : out a = (x, σ)) (d : decode bytes pc = .ok (.ireturn, 1)) : gs_K E (gs_MC E y bytes maxL (some .boolean) 0 rm) out (gs_chkz x' (some a)) pc L [gi x] σ := gk_zretG hx hout d
theorem gk_idiv_g {x y y' : Int} (d : decode (mM_cc M) pc = .ok (.idiv, 1)) (hy : gn y = y') (k : gs_K E M out o (pc + 1) L (gi (gdiv x y) :: S) σ) : gs_K E M out (gs_chk0 y' o) pc L (gi y :: gi x :: S) σ := by
  subst hy
  unfold gs_chk0
  exact gk_ite (fun _ => gk_none) (fun h => gk_idiv d h k)
theorem gk_irem_g {x y y' : Int} (d : decode (mM_cc M) pc = .ok (.irem, 1)) (hy : gn y = y') (k : gs_K E M out o (pc + 1) L (gi (grem x y) :: S) σ) : gs_K E M out (gs_chk0 y' o) pc L (gi y :: gi x :: S) σ := by
  subst hy
  unfold gs_chk0
  exact gk_ite (fun _ => gk_none) (fun h => gk_irem d h k)
theorem gk_ldiv_g {x y y' : Int} (d : decode (mM_cc M) pc = .ok (.ldiv, 1)) (hy : gm y = y') (k : gs_K E M out o (pc + 1) L (gl (gldiv x y) :: S) σ) : gs_K E M out (gs_chk0 y' o) pc L (gl y :: gl x :: S) σ := by
  subst hy
  unfold gs_chk0
  exact gk_ite (fun _ => gk_none) (fun h => gk_ldiv d h k)
theorem gk_lrem_g {x y y' : Int} (d : decode (mM_cc M) pc = .ok (.lrem, 1)) (hy : gm y = y') (k : gs_K E M out o (pc + 1) L (gl (glrem x y) :: S) σ) : gs_K E M out (gs_chk0 y' o) pc L (gl y :: gl x :: S) σ := by
  subst hy
  unfold gs_chk0
  exact gk_ite (fun _ => gk_none) (fun h => gk_lrem d h k)
theorem gk_callV_ir {r ci n index maxL : Nat} {own : String} {y : MethodName} {bytes : ByteArray} {ret : Option FieldType} {rm : Room} {As : List Value} {C : String} {T : u_T} {N : Nat} {ty : Nat → FieldType} {fs : List (Option Nat)} {oc : Option Int} {X : Int → Option α}
    (hC : gs_C E y bytes maxL ret 0 rm (gr E r :: As) σ oc (fun v : Int => (v, σ))) (ho : mM_own M = own) (hm : gs_mV y bytes maxL ret n) (hlink : Cond.methodLink own index y ∈ WS) (hcl : gs_cls ci C T N ty) (hyC : y.cls = C) (hr : r < 79) (hsh : SH r = sp_o ci fs) (hfit : gs_fit M rm maxL)
    (hn : As.length = n) (hst : As.reverse ++ gr E r :: rest = S0) (hrest : (rest.map fun v => v.category).sum ≤ 8) (d : decode (mM_cc M) pc = .ok (.invokevirtual index, 3))
    (k : ∀ v : Int, gs_K E M out (X v) (pc + 3) L (gi v :: rest) (σ)) : gs_K E M out (oc.bind X) pc L S0 σ := gk_callV (κ := 0) hC ho hm hlink hcl hyC hr hsh hfit hn hst hrest d k
theorem gk_callS_ir {n index maxL : Nat} {own : String} {y : MethodName} {bytes : ByteArray} {ret : Option FieldType} {rm : Room} {As : List Value} {oc : Option Int} {X : Int → Option α}
    (hC : gs_C E y bytes maxL ret 0 rm As σ oc (fun v : Int => (v, σ))) (ho : mM_own M = own) (hm : gs_mS y bytes maxL ret n) (hlink : Cond.methodLink own index y ∈ WS) (hfit : gs_fit M rm maxL)
    (hn : As.length = n) (hst : As.reverse ++ rest = S0) (hrest : (rest.map fun v => v.category).sum ≤ 8) (d : decode (mM_cc M) pc = .ok (.invokestatic index, 3))
    (k : ∀ v : Int, gs_K E M out (X v) (pc + 3) L (gi v :: rest) (σ)) : gs_K E M out (oc.bind X) pc L S0 σ := gk_callS (κ := 0) hC ho hm hlink hfit hn hst hrest d k
theorem gk_callVN_ir {r ci n index maxL : Nat} {own : String} {y : MethodName} {bytes : ByteArray} {ret : Option FieldType} {rm : Room} {As : List Value} {C : String} {T : u_T} {N : Nat} {ty : Nat → FieldType} {fs : List (Option Nat)} {host : String} {oc : Option Int} {X : Int → Option α}
    (hC : gs_C E y bytes maxL ret 0 rm (gr E r :: As) σ oc (fun v : Int => (v, σ))) (ho : mM_own M = own) (hm : gs_mV y bytes maxL ret n) (hlink : Cond.methodLinkNest own index y host ∈ WN) (hcl : gs_cls ci C T N ty) (hyC : y.cls = C) (hr : r < 79) (hsh : SH r = sp_o ci fs) (hfit : gs_fit M rm maxL)
    (hn : As.length = n) (hst : As.reverse ++ gr E r :: rest = S0) (hrest : (rest.map fun v => v.category).sum ≤ 8) (d : decode (mM_cc M) pc = .ok (.invokevirtual index, 3))
    (k : ∀ v : Int, gs_K E M out (X v) (pc + 3) L (gi v :: rest) (σ)) : gs_K E M out (oc.bind X) pc L S0 σ := gk_callVN (κ := 0) hC ho hm hlink hcl hyC hr hsh hfit hn hst hrest d k
theorem gk_callSN_ir {n index maxL : Nat} {own : String} {y : MethodName} {bytes : ByteArray} {ret : Option FieldType} {rm : Room} {As : List Value} {host : String} {oc : Option Int} {X : Int → Option α}
    (hC : gs_C E y bytes maxL ret 0 rm As σ oc (fun v : Int => (v, σ))) (ho : mM_own M = own) (hm : gs_mS y bytes maxL ret n) (hlink : Cond.methodLinkNest own index y host ∈ WN) (hfit : gs_fit M rm maxL)
    (hn : As.length = n) (hst : As.reverse ++ rest = S0) (hrest : (rest.map fun v => v.category).sum ≤ 8) (d : decode (mM_cc M) pc = .ok (.invokestatic index, 3))
    (k : ∀ v : Int, gs_K E M out (X v) (pc + 3) L (gi v :: rest) (σ)) : gs_K E M out (oc.bind X) pc L S0 σ := gk_callSN (κ := 0) hC ho hm hlink hfit hn hst hrest d k
theorem gk_callV_lr {r ci n index maxL : Nat} {own : String} {y : MethodName} {bytes : ByteArray} {ret : Option FieldType} {rm : Room} {As : List Value} {C : String} {T : u_T} {N : Nat} {ty : Nat → FieldType} {fs : List (Option Nat)} {oc : Option Int} {X : Int → Option α}
    (hC : gs_C E y bytes maxL ret 1 rm (gr E r :: As) σ oc (fun v : Int => (v, σ))) (ho : mM_own M = own) (hm : gs_mV y bytes maxL ret n) (hlink : Cond.methodLink own index y ∈ WS) (hcl : gs_cls ci C T N ty) (hyC : y.cls = C) (hr : r < 79) (hsh : SH r = sp_o ci fs) (hfit : gs_fit M rm maxL)
    (hn : As.length = n) (hst : As.reverse ++ gr E r :: rest = S0) (hrest : (rest.map fun v => v.category).sum ≤ 8) (d : decode (mM_cc M) pc = .ok (.invokevirtual index, 3))
    (k : ∀ v : Int, gs_K E M out (X v) (pc + 3) L (gl v :: rest) (σ)) : gs_K E M out (oc.bind X) pc L S0 σ := gk_callV (κ := 1) hC ho hm hlink hcl hyC hr hsh hfit hn hst hrest d k
theorem gk_callS_lr {n index maxL : Nat} {own : String} {y : MethodName} {bytes : ByteArray} {ret : Option FieldType} {rm : Room} {As : List Value} {oc : Option Int} {X : Int → Option α}
    (hC : gs_C E y bytes maxL ret 1 rm As σ oc (fun v : Int => (v, σ))) (ho : mM_own M = own) (hm : gs_mS y bytes maxL ret n) (hlink : Cond.methodLink own index y ∈ WS) (hfit : gs_fit M rm maxL)
    (hn : As.length = n) (hst : As.reverse ++ rest = S0) (hrest : (rest.map fun v => v.category).sum ≤ 8) (d : decode (mM_cc M) pc = .ok (.invokestatic index, 3))
    (k : ∀ v : Int, gs_K E M out (X v) (pc + 3) L (gl v :: rest) (σ)) : gs_K E M out (oc.bind X) pc L S0 σ := gk_callS (κ := 1) hC ho hm hlink hfit hn hst hrest d k
theorem gk_callVN_lr {r ci n index maxL : Nat} {own : String} {y : MethodName} {bytes : ByteArray} {ret : Option FieldType} {rm : Room} {As : List Value} {C : String} {T : u_T} {N : Nat} {ty : Nat → FieldType} {fs : List (Option Nat)} {host : String} {oc : Option Int} {X : Int → Option α}
    (hC : gs_C E y bytes maxL ret 1 rm (gr E r :: As) σ oc (fun v : Int => (v, σ))) (ho : mM_own M = own) (hm : gs_mV y bytes maxL ret n) (hlink : Cond.methodLinkNest own index y host ∈ WN) (hcl : gs_cls ci C T N ty) (hyC : y.cls = C) (hr : r < 79) (hsh : SH r = sp_o ci fs) (hfit : gs_fit M rm maxL)
    (hn : As.length = n) (hst : As.reverse ++ gr E r :: rest = S0) (hrest : (rest.map fun v => v.category).sum ≤ 8) (d : decode (mM_cc M) pc = .ok (.invokevirtual index, 3))
    (k : ∀ v : Int, gs_K E M out (X v) (pc + 3) L (gl v :: rest) (σ)) : gs_K E M out (oc.bind X) pc L S0 σ := gk_callVN (κ := 1) hC ho hm hlink hcl hyC hr hsh hfit hn hst hrest d k
theorem gk_callSN_lr {n index maxL : Nat} {own : String} {y : MethodName} {bytes : ByteArray} {ret : Option FieldType} {rm : Room} {As : List Value} {host : String} {oc : Option Int} {X : Int → Option α}
    (hC : gs_C E y bytes maxL ret 1 rm As σ oc (fun v : Int => (v, σ))) (ho : mM_own M = own) (hm : gs_mS y bytes maxL ret n) (hlink : Cond.methodLinkNest own index y host ∈ WN) (hfit : gs_fit M rm maxL)
    (hn : As.length = n) (hst : As.reverse ++ rest = S0) (hrest : (rest.map fun v => v.category).sum ≤ 8) (d : decode (mM_cc M) pc = .ok (.invokestatic index, 3))
    (k : ∀ v : Int, gs_K E M out (X v) (pc + 3) L (gl v :: rest) (σ)) : gs_K E M out (oc.bind X) pc L S0 σ := gk_callSN (κ := 1) hC ho hm hlink hfit hn hst hrest d k
theorem gk_callV_iw {r ci n index maxL : Nat} {own : String} {y : MethodName} {bytes : ByteArray} {ret : Option FieldType} {rm : Room} {As : List Value} {C : String} {T : u_T} {N : Nat} {ty : Nat → FieldType} {fs : List (Option Nat)} {oc : Option (Int × gs_Mem)} {X : (Int × gs_Mem) → Option α}
    (hC : gs_C E y bytes maxL ret 0 rm (gr E r :: As) σ oc (fun b : Int × gs_Mem => b)) (ho : mM_own M = own) (hm : gs_mV y bytes maxL ret n) (hlink : Cond.methodLink own index y ∈ WS) (hcl : gs_cls ci C T N ty) (hyC : y.cls = C) (hr : r < 79) (hsh : SH r = sp_o ci fs) (hfit : gs_fit M rm maxL)
    (hn : As.length = n) (hst : As.reverse ++ gr E r :: rest = S0) (hrest : (rest.map fun v => v.category).sum ≤ 8) (d : decode (mM_cc M) pc = .ok (.invokevirtual index, 3))
    (k : ∀ b : (Int × gs_Mem), gs_K E M out (X b) (pc + 3) L (gi b.1 :: rest) (b.2)) : gs_K E M out (oc.bind X) pc L S0 σ := gk_callV (κ := 0) hC ho hm hlink hcl hyC hr hsh hfit hn hst hrest d k
theorem gk_callS_iw {n index maxL : Nat} {own : String} {y : MethodName} {bytes : ByteArray} {ret : Option FieldType} {rm : Room} {As : List Value} {oc : Option (Int × gs_Mem)} {X : (Int × gs_Mem) → Option α}
    (hC : gs_C E y bytes maxL ret 0 rm As σ oc (fun b : Int × gs_Mem => b)) (ho : mM_own M = own) (hm : gs_mS y bytes maxL ret n) (hlink : Cond.methodLink own index y ∈ WS) (hfit : gs_fit M rm maxL)
    (hn : As.length = n) (hst : As.reverse ++ rest = S0) (hrest : (rest.map fun v => v.category).sum ≤ 8) (d : decode (mM_cc M) pc = .ok (.invokestatic index, 3))
    (k : ∀ b : (Int × gs_Mem), gs_K E M out (X b) (pc + 3) L (gi b.1 :: rest) (b.2)) : gs_K E M out (oc.bind X) pc L S0 σ := gk_callS (κ := 0) hC ho hm hlink hfit hn hst hrest d k
theorem gk_callVN_iw {r ci n index maxL : Nat} {own : String} {y : MethodName} {bytes : ByteArray} {ret : Option FieldType} {rm : Room} {As : List Value} {C : String} {T : u_T} {N : Nat} {ty : Nat → FieldType} {fs : List (Option Nat)} {host : String} {oc : Option (Int × gs_Mem)} {X : (Int × gs_Mem) → Option α}
    (hC : gs_C E y bytes maxL ret 0 rm (gr E r :: As) σ oc (fun b : Int × gs_Mem => b)) (ho : mM_own M = own) (hm : gs_mV y bytes maxL ret n) (hlink : Cond.methodLinkNest own index y host ∈ WN) (hcl : gs_cls ci C T N ty) (hyC : y.cls = C) (hr : r < 79) (hsh : SH r = sp_o ci fs) (hfit : gs_fit M rm maxL)
    (hn : As.length = n) (hst : As.reverse ++ gr E r :: rest = S0) (hrest : (rest.map fun v => v.category).sum ≤ 8) (d : decode (mM_cc M) pc = .ok (.invokevirtual index, 3))
    (k : ∀ b : (Int × gs_Mem), gs_K E M out (X b) (pc + 3) L (gi b.1 :: rest) (b.2)) : gs_K E M out (oc.bind X) pc L S0 σ := gk_callVN (κ := 0) hC ho hm hlink hcl hyC hr hsh hfit hn hst hrest d k
theorem gk_callSN_iw {n index maxL : Nat} {own : String} {y : MethodName} {bytes : ByteArray} {ret : Option FieldType} {rm : Room} {As : List Value} {host : String} {oc : Option (Int × gs_Mem)} {X : (Int × gs_Mem) → Option α}
    (hC : gs_C E y bytes maxL ret 0 rm As σ oc (fun b : Int × gs_Mem => b)) (ho : mM_own M = own) (hm : gs_mS y bytes maxL ret n) (hlink : Cond.methodLinkNest own index y host ∈ WN) (hfit : gs_fit M rm maxL)
    (hn : As.length = n) (hst : As.reverse ++ rest = S0) (hrest : (rest.map fun v => v.category).sum ≤ 8) (d : decode (mM_cc M) pc = .ok (.invokestatic index, 3))
    (k : ∀ b : (Int × gs_Mem), gs_K E M out (X b) (pc + 3) L (gi b.1 :: rest) (b.2)) : gs_K E M out (oc.bind X) pc L S0 σ := gk_callSN (κ := 0) hC ho hm hlink hfit hn hst hrest d k
theorem gk_callV_vw {r ci n index maxL : Nat} {own : String} {y : MethodName} {bytes : ByteArray} {ret : Option FieldType} {rm : Room} {As : List Value} {C : String} {T : u_T} {N : Nat} {ty : Nat → FieldType} {fs : List (Option Nat)} {oc : Option (Int × gs_Mem)} {X : (Int × gs_Mem) → Option α}
    (hC : gs_C E y bytes maxL ret 2 rm (gr E r :: As) σ oc (fun b : Int × gs_Mem => b)) (ho : mM_own M = own) (hm : gs_mV y bytes maxL ret n) (hlink : Cond.methodLink own index y ∈ WS) (hcl : gs_cls ci C T N ty) (hyC : y.cls = C) (hr : r < 79) (hsh : SH r = sp_o ci fs) (hfit : gs_fit M rm maxL)
    (hn : As.length = n) (hst : As.reverse ++ gr E r :: rest = S0) (hrest : (rest.map fun v => v.category).sum ≤ 8) (d : decode (mM_cc M) pc = .ok (.invokevirtual index, 3))
    (k : ∀ b : (Int × gs_Mem), gs_K E M out (X b) (pc + 3) L (rest) (b.2)) : gs_K E M out (oc.bind X) pc L S0 σ := gk_callV (κ := 2) hC ho hm hlink hcl hyC hr hsh hfit hn hst hrest d k
theorem gk_callS_vw {n index maxL : Nat} {own : String} {y : MethodName} {bytes : ByteArray} {ret : Option FieldType} {rm : Room} {As : List Value} {oc : Option (Int × gs_Mem)} {X : (Int × gs_Mem) → Option α}
    (hC : gs_C E y bytes maxL ret 2 rm As σ oc (fun b : Int × gs_Mem => b)) (ho : mM_own M = own) (hm : gs_mS y bytes maxL ret n) (hlink : Cond.methodLink own index y ∈ WS) (hfit : gs_fit M rm maxL)
    (hn : As.length = n) (hst : As.reverse ++ rest = S0) (hrest : (rest.map fun v => v.category).sum ≤ 8) (d : decode (mM_cc M) pc = .ok (.invokestatic index, 3))
    (k : ∀ b : (Int × gs_Mem), gs_K E M out (X b) (pc + 3) L (rest) (b.2)) : gs_K E M out (oc.bind X) pc L S0 σ := gk_callS (κ := 2) hC ho hm hlink hfit hn hst hrest d k
theorem gk_callVN_vw {r ci n index maxL : Nat} {own : String} {y : MethodName} {bytes : ByteArray} {ret : Option FieldType} {rm : Room} {As : List Value} {C : String} {T : u_T} {N : Nat} {ty : Nat → FieldType} {fs : List (Option Nat)} {host : String} {oc : Option (Int × gs_Mem)} {X : (Int × gs_Mem) → Option α}
    (hC : gs_C E y bytes maxL ret 2 rm (gr E r :: As) σ oc (fun b : Int × gs_Mem => b)) (ho : mM_own M = own) (hm : gs_mV y bytes maxL ret n) (hlink : Cond.methodLinkNest own index y host ∈ WN) (hcl : gs_cls ci C T N ty) (hyC : y.cls = C) (hr : r < 79) (hsh : SH r = sp_o ci fs) (hfit : gs_fit M rm maxL)
    (hn : As.length = n) (hst : As.reverse ++ gr E r :: rest = S0) (hrest : (rest.map fun v => v.category).sum ≤ 8) (d : decode (mM_cc M) pc = .ok (.invokevirtual index, 3))
    (k : ∀ b : (Int × gs_Mem), gs_K E M out (X b) (pc + 3) L (rest) (b.2)) : gs_K E M out (oc.bind X) pc L S0 σ := gk_callVN (κ := 2) hC ho hm hlink hcl hyC hr hsh hfit hn hst hrest d k
theorem gk_callSN_vw {n index maxL : Nat} {own : String} {y : MethodName} {bytes : ByteArray} {ret : Option FieldType} {rm : Room} {As : List Value} {host : String} {oc : Option (Int × gs_Mem)} {X : (Int × gs_Mem) → Option α}
    (hC : gs_C E y bytes maxL ret 2 rm As σ oc (fun b : Int × gs_Mem => b)) (ho : mM_own M = own) (hm : gs_mS y bytes maxL ret n) (hlink : Cond.methodLinkNest own index y host ∈ WN) (hfit : gs_fit M rm maxL)
    (hn : As.length = n) (hst : As.reverse ++ rest = S0) (hrest : (rest.map fun v => v.category).sum ≤ 8) (d : decode (mM_cc M) pc = .ok (.invokestatic index, 3))
    (k : ∀ b : (Int × gs_Mem), gs_K E M out (X b) (pc + 3) L (rest) (b.2)) : gs_K E M out (oc.bind X) pc L S0 σ := gk_callSN (κ := 2) hC ho hm hlink hfit hn hst hrest d k
theorem gk_callV_lw {r ci n index maxL : Nat} {own : String} {y : MethodName} {bytes : ByteArray} {ret : Option FieldType} {rm : Room} {As : List Value} {C : String} {T : u_T} {N : Nat} {ty : Nat → FieldType} {fs : List (Option Nat)} {oc : Option (Int × gs_Mem)} {X : (Int × gs_Mem) → Option α}
    (hC : gs_C E y bytes maxL ret 1 rm (gr E r :: As) σ oc (fun b : Int × gs_Mem => b)) (ho : mM_own M = own) (hm : gs_mV y bytes maxL ret n) (hlink : Cond.methodLink own index y ∈ WS) (hcl : gs_cls ci C T N ty) (hyC : y.cls = C) (hr : r < 79) (hsh : SH r = sp_o ci fs) (hfit : gs_fit M rm maxL)
    (hn : As.length = n) (hst : As.reverse ++ gr E r :: rest = S0) (hrest : (rest.map fun v => v.category).sum ≤ 8) (d : decode (mM_cc M) pc = .ok (.invokevirtual index, 3))
    (k : ∀ b : (Int × gs_Mem), gs_K E M out (X b) (pc + 3) L (gl b.1 :: rest) (b.2)) : gs_K E M out (oc.bind X) pc L S0 σ := gk_callV (κ := 1) hC ho hm hlink hcl hyC hr hsh hfit hn hst hrest d k
theorem gk_callS_lw {n index maxL : Nat} {own : String} {y : MethodName} {bytes : ByteArray} {ret : Option FieldType} {rm : Room} {As : List Value} {oc : Option (Int × gs_Mem)} {X : (Int × gs_Mem) → Option α}
    (hC : gs_C E y bytes maxL ret 1 rm As σ oc (fun b : Int × gs_Mem => b)) (ho : mM_own M = own) (hm : gs_mS y bytes maxL ret n) (hlink : Cond.methodLink own index y ∈ WS) (hfit : gs_fit M rm maxL)
    (hn : As.length = n) (hst : As.reverse ++ rest = S0) (hrest : (rest.map fun v => v.category).sum ≤ 8) (d : decode (mM_cc M) pc = .ok (.invokestatic index, 3))
    (k : ∀ b : (Int × gs_Mem), gs_K E M out (X b) (pc + 3) L (gl b.1 :: rest) (b.2)) : gs_K E M out (oc.bind X) pc L S0 σ := gk_callS (κ := 1) hC ho hm hlink hfit hn hst hrest d k
theorem gk_callVN_lw {r ci n index maxL : Nat} {own : String} {y : MethodName} {bytes : ByteArray} {ret : Option FieldType} {rm : Room} {As : List Value} {C : String} {T : u_T} {N : Nat} {ty : Nat → FieldType} {fs : List (Option Nat)} {host : String} {oc : Option (Int × gs_Mem)} {X : (Int × gs_Mem) → Option α}
    (hC : gs_C E y bytes maxL ret 1 rm (gr E r :: As) σ oc (fun b : Int × gs_Mem => b)) (ho : mM_own M = own) (hm : gs_mV y bytes maxL ret n) (hlink : Cond.methodLinkNest own index y host ∈ WN) (hcl : gs_cls ci C T N ty) (hyC : y.cls = C) (hr : r < 79) (hsh : SH r = sp_o ci fs) (hfit : gs_fit M rm maxL)
    (hn : As.length = n) (hst : As.reverse ++ gr E r :: rest = S0) (hrest : (rest.map fun v => v.category).sum ≤ 8) (d : decode (mM_cc M) pc = .ok (.invokevirtual index, 3))
    (k : ∀ b : (Int × gs_Mem), gs_K E M out (X b) (pc + 3) L (gl b.1 :: rest) (b.2)) : gs_K E M out (oc.bind X) pc L S0 σ := gk_callVN (κ := 1) hC ho hm hlink hcl hyC hr hsh hfit hn hst hrest d k
theorem gk_callSN_lw {n index maxL : Nat} {own : String} {y : MethodName} {bytes : ByteArray} {ret : Option FieldType} {rm : Room} {As : List Value} {host : String} {oc : Option (Int × gs_Mem)} {X : (Int × gs_Mem) → Option α}
    (hC : gs_C E y bytes maxL ret 1 rm As σ oc (fun b : Int × gs_Mem => b)) (ho : mM_own M = own) (hm : gs_mS y bytes maxL ret n) (hlink : Cond.methodLinkNest own index y host ∈ WN) (hfit : gs_fit M rm maxL)
    (hn : As.length = n) (hst : As.reverse ++ rest = S0) (hrest : (rest.map fun v => v.category).sum ≤ 8) (d : decode (mM_cc M) pc = .ok (.invokestatic index, 3))
    (k : ∀ b : (Int × gs_Mem), gs_K E M out (X b) (pc + 3) L (gl b.1 :: rest) (b.2)) : gs_K E M out (oc.bind X) pc L S0 σ := gk_callSN (κ := 1) hC ho hm hlink hfit hn hst hrest d k
def gmax (x y : Int) : Int := if gn x < gn y then y else x
def gmin (x y : Int) : Int := if gn y < gn x then y else x
def gabs (x : Int) : Int := if 0 ≤ gn x then x else 0 - x
def gs_let {α : Type} (e : Int) (X : Int → Option α) : Option α := X e
theorem gk_let {e : Int} {X : Int → Option α} (k : ∀ x, gs_K E M out (X x) pc L (gi x :: S) σ) : gs_K E M out (gs_let e X) pc L (gi e :: S) σ := k e
def gs_mmW (own : String) (index : Nat) (y : MethodName) (b : ByteArray) (n : Nat) : Prop := Cond.methodLink own index y ∈ WS ∧ Cond.static y ∈ WS ∧ Cond.initialized "java/lang/Math" ∈ WS ∧ Cond.code y b n (some .int) ∈ WS
theorem oi_if (P Q : Prop) [Decidable P] [Decidable Q] (h : P ↔ Q) (x y : Int) : (if P then Int32.ofInt y else Int32.ofInt x) = Int32.ofInt (if Q then y else x) := by
  by_cases q : Q
  · rw [if_pos q, if_pos (h.mpr q)]
  · rw [if_neg q, if_neg (fun z => q (h.mp z))]
theorem gk_mmax {own : String} {index : Nat} {x y : Int} (ho : mM_own M = own) (hw : gs_mmW own index Lib.Math.max.name Lib.Math.max.code 2) (hfr : 1 ≤ (mM_R M).frames) (hlo : (S.map fun v => v.category).sum + 13 ≤ (mM_R M).locals) (hcs : mM_c M ≤ (mM_R M).cells ∧ mM_s M ≤ (mM_R M).slots) (d : decode (mM_cc M) pc = .ok (.invokestatic index, 3))
    (k : gs_K E M out o (pc + 3) L (gi (gmax x y) :: S) σ) : gs_K E M out o pc L (gi y :: gi x :: S) σ :=
  gk_go (fun p e s m args below meth c H locs ls Q hc hl kk => by
    subst ho
    obtain ⟨w1, w2, w3, w4⟩ := hw
    obtain ⟨hx, hbc, hml, hr0, hlk, hown, hts, hX⟩ := hc
    refine va_mmax hx hbc (hml.trans hl.1.symm) hown (hts _ w1) (hts _ w2) (hts _ w3) (hts _ w4) hfr hlo hcs.1 hcs.2 d ?_
    rw [oi_if _ _ oi_lt]; exact kk) k
theorem gk_mmin {own : String} {index : Nat} {x y : Int} (ho : mM_own M = own) (hw : gs_mmW own index Lib.Math.min.name Lib.Math.min.code 2) (hfr : 1 ≤ (mM_R M).frames) (hlo : (S.map fun v => v.category).sum + 13 ≤ (mM_R M).locals) (hcs : mM_c M ≤ (mM_R M).cells ∧ mM_s M ≤ (mM_R M).slots) (d : decode (mM_cc M) pc = .ok (.invokestatic index, 3))
    (k : gs_K E M out o (pc + 3) L (gi (gmin x y) :: S) σ) : gs_K E M out o pc L (gi y :: gi x :: S) σ :=
  gk_go (fun p e s m args below meth c H locs ls Q hc hl kk => by
    subst ho
    obtain ⟨w1, w2, w3, w4⟩ := hw
    obtain ⟨hx, hbc, hml, hr0, hlk, hown, hts, hX⟩ := hc
    refine va_mmin hx hbc (hml.trans hl.1.symm) hown (hts _ w1) (hts _ w2) (hts _ w3) (hts _ w4) hfr hlo hcs.1 hcs.2 d ?_
    rw [oi_if _ _ oi_lt]; exact kk) k
theorem gk_mabs {own : String} {index : Nat} {x : Int} (ho : mM_own M = own) (hw : gs_mmW own index Lib.Math.abs.name Lib.Math.abs.code 1) (hfr : 1 ≤ (mM_R M).frames) (hlo : (S.map fun v => v.category).sum + 13 ≤ (mM_R M).locals) (hcs : mM_c M ≤ (mM_R M).cells ∧ mM_s M ≤ (mM_R M).slots) (d : decode (mM_cc M) pc = .ok (.invokestatic index, 3))
    (k : gs_K E M out o (pc + 3) L (gi (gabs x) :: S) σ) : gs_K E M out o pc L (gi x :: S) σ :=
  gk_go (fun p e s m args below meth c H locs ls Q hc hl kk => by
    subst ho
    obtain ⟨w1, w2, w3, w4⟩ := hw
    obtain ⟨hx, hbc, hml, hr0, hlk, hown, hts, hX⟩ := hc
    refine va_mabs hx hbc (hml.trans hl.1.symm) hown (hts _ w1) (hts _ w2) (hts _ w3) (hts _ w4) hfr hlo hcs.1 hcs.2 d ?_
    rw [← oi_0, oi_sub, oi_if _ (0 ≤ gn x) (by rw [oi_le, gn_0])]; exact kk) k
end GKmore
end
