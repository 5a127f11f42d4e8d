section
-- ===== PART A: goes FIRST, ahead of the names: the tables' words, and 'selects' of the private methods out of them =====
/-- a private method of a class that the tables say can be made, by its rows of tables_1 -/
def lw_okq (q : MethodName × Nat) : Prop := (q.1.cls ≠ "java/lang/invoke/MethodHandle" ∧ q.1.cls ≠ "java/lang/invoke/VarHandle") ∧ Cond.instantiable q.1.cls q.2 ∈ tables_1 ∧ Cond.privateMethod q.1 ∈ tables_1 ∧ Cond.instanceMethod q.1 ∈ tables_1
theorem lw_p0 : lw_okq (⟨"LetOff", "putBytes", "(I)V"⟩, 20) := ⟨⟨by decide +kernel, by decide +kernel⟩, List.mem_of_getElem? (i := 22) (by decide +kernel), List.mem_of_getElem? (i := 334) (by decide +kernel), List.mem_of_getElem? (i := 335) (by decide +kernel)⟩
theorem lw_p1 : lw_okq (⟨"LetOff$ShowReader", "readClause", "(LLetOff$Plan;I)V"⟩, 1) := ⟨⟨by decide +kernel, by decide +kernel⟩, List.mem_of_getElem? (i := 110) (by decide +kernel), List.mem_of_getElem? (i := 413) (by decide +kernel), List.mem_of_getElem? (i := 414) (by decide +kernel)⟩
theorem lw_p2 : lw_okq (⟨"LetOff$ShowReader", "readRoad", "(LLetOff$Plan;)V"⟩, 1) := ⟨⟨by decide +kernel, by decide +kernel⟩, List.mem_of_getElem? (i := 110) (by decide +kernel), List.mem_of_getElem? (i := 484) (by decide +kernel), List.mem_of_getElem? (i := 485) (by decide +kernel)⟩
theorem lw_p3 : lw_okq (⟨"LetOff$ShowReader", "readCar", "(LLetOff$Plan;)V"⟩, 1) := ⟨⟨by decide +kernel, by decide +kernel⟩, List.mem_of_getElem? (i := 110) (by decide +kernel), List.mem_of_getElem? (i := 492) (by decide +kernel), List.mem_of_getElem? (i := 493) (by decide +kernel)⟩
theorem lw_p4 : lw_okq (⟨"LetOff$ShowReader", "readGap", "(LLetOff$Plan;)V"⟩, 1) := ⟨⟨by decide +kernel, by decide +kernel⟩, List.mem_of_getElem? (i := 110) (by decide +kernel), List.mem_of_getElem? (i := 500) (by decide +kernel), List.mem_of_getElem? (i := 501) (by decide +kernel)⟩
theorem lw_p5 : lw_okq (⟨"LetOff$RuleReader", "readGo", "(I)V"⟩, 4) := ⟨⟨by decide +kernel, by decide +kernel⟩, List.mem_of_getElem? (i := 155) (by decide +kernel), List.mem_of_getElem? (i := 525) (by decide +kernel), List.mem_of_getElem? (i := 526) (by decide +kernel)⟩
theorem lw_p6 : lw_okq (⟨"LetOff$RuleReader", "readSum", "()V"⟩, 4) := ⟨⟨by decide +kernel, by decide +kernel⟩, List.mem_of_getElem? (i := 155) (by decide +kernel), List.mem_of_getElem? (i := 533) (by decide +kernel), List.mem_of_getElem? (i := 534) (by decide +kernel)⟩
theorem lw_p7 : lw_okq (⟨"LetOff$RuleReader", "readValue", "()V"⟩, 4) := ⟨⟨by decide +kernel, by decide +kernel⟩, List.mem_of_getElem? (i := 155) (by decide +kernel), List.mem_of_getElem? (i := 537) (by decide +kernel), List.mem_of_getElem? (i := 538) (by decide +kernel)⟩
theorem lw_p8 : lw_okq (⟨"LetOff$RuleReader", "countOne", "()V"⟩, 4) := ⟨⟨by decide +kernel, by decide +kernel⟩, List.mem_of_getElem? (i := 155) (by decide +kernel), List.mem_of_getElem? (i := 543) (by decide +kernel), List.mem_of_getElem? (i := 544) (by decide +kernel)⟩
theorem lw_p9 : lw_okq (⟨"LetOff$RuleReader", "put", "(I)V"⟩, 4) := ⟨⟨by decide +kernel, by decide +kernel⟩, List.mem_of_getElem? (i := 155) (by decide +kernel), List.mem_of_getElem? (i := 548) (by decide +kernel), List.mem_of_getElem? (i := 549) (by decide +kernel)⟩
theorem lw_p10 : lw_okq (⟨"LetOff$RuleReader", "putSign", "(I)V"⟩, 4) := ⟨⟨by decide +kernel, by decide +kernel⟩, List.mem_of_getElem? (i := 155) (by decide +kernel), List.mem_of_getElem? (i := 552) (by decide +kernel), List.mem_of_getElem? (i := 553) (by decide +kernel)⟩
theorem lw_p11 : lw_okq (⟨"LetOff$RuleReader", "readTest", "(I)V"⟩, 4) := ⟨⟨by decide +kernel, by decide +kernel⟩, List.mem_of_getElem? (i := 155) (by decide +kernel), List.mem_of_getElem? (i := 558) (by decide +kernel), List.mem_of_getElem? (i := 559) (by decide +kernel)⟩
theorem lw_p12 : lw_okq (⟨"LetOff$RuleReader", "readFact", "(I)V"⟩, 4) := ⟨⟨by decide +kernel, by decide +kernel⟩, List.mem_of_getElem? (i := 155) (by decide +kernel), List.mem_of_getElem? (i := 562) (by decide +kernel), List.mem_of_getElem? (i := 563) (by decide +kernel)⟩
theorem lw_p13 : lw_okq (⟨"LetOff$RuleReader", "readNested", "(IZ)V"⟩, 4) := ⟨⟨by decide +kernel, by decide +kernel⟩, List.mem_of_getElem? (i := 155) (by decide +kernel), List.mem_of_getElem? (i := 568) (by decide +kernel), List.mem_of_getElem? (i := 569) (by decide +kernel)⟩
theorem lw_p14 : lw_okq (⟨"LetOff", "isRoad", "(I)Z"⟩, 20) := ⟨⟨by decide +kernel, by decide +kernel⟩, List.mem_of_getElem? (i := 22) (by decide +kernel), List.mem_of_getElem? (i := 611) (by decide +kernel), List.mem_of_getElem? (i := 612) (by decide +kernel)⟩
theorem lw_p15 : lw_okq (⟨"LetOff", "isCell", "(I)Z"⟩, 20) := ⟨⟨by decide +kernel, by decide +kernel⟩, List.mem_of_getElem? (i := 22) (by decide +kernel), List.mem_of_getElem? (i := 619) (by decide +kernel), List.mem_of_getElem? (i := 620) (by decide +kernel)⟩
def lw_privs_1 : List (MethodName × Nat) := [(⟨"LetOff", "putBytes", "(I)V"⟩, 20), (⟨"LetOff$ShowReader", "readClause", "(LLetOff$Plan;I)V"⟩, 1), (⟨"LetOff$ShowReader", "readRoad", "(LLetOff$Plan;)V"⟩, 1), (⟨"LetOff$ShowReader", "readCar", "(LLetOff$Plan;)V"⟩, 1), (⟨"LetOff$ShowReader", "readGap", "(LLetOff$Plan;)V"⟩, 1), (⟨"LetOff$RuleReader", "readGo", "(I)V"⟩, 4), (⟨"LetOff$RuleReader", "readSum", "()V"⟩, 4), (⟨"LetOff$RuleReader", "readValue", "()V"⟩, 4), (⟨"LetOff$RuleReader", "countOne", "()V"⟩, 4), (⟨"LetOff$RuleReader", "put", "(I)V"⟩, 4), (⟨"LetOff$RuleReader", "putSign", "(I)V"⟩, 4), (⟨"LetOff$RuleReader", "readTest", "(I)V"⟩, 4), (⟨"LetOff$RuleReader", "readFact", "(I)V"⟩, 4), (⟨"LetOff$RuleReader", "readNested", "(IZ)V"⟩, 4), (⟨"LetOff", "isRoad", "(I)Z"⟩, 20), (⟨"LetOff", "isCell", "(I)Z"⟩, 20)]
theorem lw_r1 : ∀ q ∈ lw_privs_1, lw_okq q := List.forall_mem_cons.mpr ⟨lw_p0, List.forall_mem_cons.mpr ⟨lw_p1, List.forall_mem_cons.mpr ⟨lw_p2, List.forall_mem_cons.mpr ⟨lw_p3, List.forall_mem_cons.mpr ⟨lw_p4, List.forall_mem_cons.mpr ⟨lw_p5, List.forall_mem_cons.mpr ⟨lw_p6, List.forall_mem_cons.mpr ⟨lw_p7, List.forall_mem_cons.mpr ⟨lw_p8, List.forall_mem_cons.mpr ⟨lw_p9, List.forall_mem_cons.mpr ⟨lw_p10, List.forall_mem_cons.mpr ⟨lw_p11, List.forall_mem_cons.mpr ⟨lw_p12, List.forall_mem_cons.mpr ⟨lw_p13, List.forall_mem_cons.mpr ⟨lw_p14, List.forall_mem_cons.mpr ⟨lw_p15, fun _ h => absurd h List.not_mem_nil⟩⟩⟩⟩⟩⟩⟩⟩⟩⟩⟩⟩⟩⟩⟩⟩
theorem lw_p16 : lw_okq (⟨"LetOff", "keepForUndo", "()V"⟩, 20) := ⟨⟨by decide +kernel, by decide +kernel⟩, List.mem_of_getElem? (i := 22) (by decide +kernel), List.mem_of_getElem? (i := 649) (by decide +kernel), List.mem_of_getElem? (i := 650) (by decide +kernel)⟩
theorem lw_p17 : lw_okq (⟨"LetOff", "setEngine", "(I)V"⟩, 20) := ⟨⟨by decide +kernel, by decide +kernel⟩, List.mem_of_getElem? (i := 22) (by decide +kernel), List.mem_of_getElem? (i := 654) (by decide +kernel), List.mem_of_getElem? (i := 655) (by decide +kernel)⟩
theorem lw_p18 : lw_okq (⟨"LetOff$Engine", "goesOff", "(LLetOff$Round;I)Z"⟩, 7) := ⟨⟨by decide +kernel, by decide +kernel⟩, List.mem_of_getElem? (i := 177) (by decide +kernel), List.mem_of_getElem? (i := 662) (by decide +kernel), List.mem_of_getElem? (i := 663) (by decide +kernel)⟩
theorem lw_p19 : lw_okq (⟨"LetOff$Engine", "isAtItsRoad", "(LLetOff$Round;I)Z"⟩, 7) := ⟨⟨by decide +kernel, by decide +kernel⟩, List.mem_of_getElem? (i := 177) (by decide +kernel), List.mem_of_getElem? (i := 666) (by decide +kernel), List.mem_of_getElem? (i := 667) (by decide +kernel)⟩
theorem lw_p20 : lw_okq (⟨"LetOff$Engine", "setWords", "(LLetOff$Round;I)V"⟩, 7) := ⟨⟨by decide +kernel, by decide +kernel⟩, List.mem_of_getElem? (i := 177) (by decide +kernel), List.mem_of_getElem? (i := 670) (by decide +kernel), List.mem_of_getElem? (i := 671) (by decide +kernel)⟩
theorem lw_p21 : lw_okq (⟨"LetOff$Engine", "cellsBehind", "(LLetOff$Round;I)I"⟩, 7) := ⟨⟨by decide +kernel, by decide +kernel⟩, List.mem_of_getElem? (i := 177) (by decide +kernel), List.mem_of_getElem? (i := 674) (by decide +kernel), List.mem_of_getElem? (i := 675) (by decide +kernel)⟩
theorem lw_p22 : lw_okq (⟨"LetOff$Engine", "goOnIfFree", "(LLetOff$Round;I)V"⟩, 7) := ⟨⟨by decide +kernel, by decide +kernel⟩, List.mem_of_getElem? (i := 177) (by decide +kernel), List.mem_of_getElem? (i := 698) (by decide +kernel), List.mem_of_getElem? (i := 699) (by decide +kernel)⟩
theorem lw_p23 : lw_okq (⟨"LetOff$Engine", "letCome", "(LLetOff$Round;I)V"⟩, 7) := ⟨⟨by decide +kernel, by decide +kernel⟩, List.mem_of_getElem? (i := 177) (by decide +kernel), List.mem_of_getElem? (i := 710) (by decide +kernel), List.mem_of_getElem? (i := 711) (by decide +kernel)⟩
theorem lw_p24 : lw_okq (⟨"LetOff", "isOn", "(I)Z"⟩, 20) := ⟨⟨by decide +kernel, by decide +kernel⟩, List.mem_of_getElem? (i := 22) (by decide +kernel), List.mem_of_getElem? (i := 723) (by decide +kernel), List.mem_of_getElem? (i := 724) (by decide +kernel)⟩
theorem lw_p25 : lw_okq (⟨"LetOff", "tryFromNow", "()LLetOff$Round;"⟩, 20) := ⟨⟨by decide +kernel, by decide +kernel⟩, List.mem_of_getElem? (i := 22) (by decide +kernel), List.mem_of_getElem? (i := 762) (by decide +kernel), List.mem_of_getElem? (i := 763) (by decide +kernel)⟩
theorem lw_p26 : lw_okq (⟨"LetOff", "goneIn", "(LLetOff$Round;I)I"⟩, 20) := ⟨⟨by decide +kernel, by decide +kernel⟩, List.mem_of_getElem? (i := 22) (by decide +kernel), List.mem_of_getElem? (i := 766) (by decide +kernel), List.mem_of_getElem? (i := 767) (by decide +kernel)⟩
theorem lw_p27 : lw_okq (⟨"LetOff", "stepOff", "(LLetOff$Round;II)I"⟩, 20) := ⟨⟨by decide +kernel, by decide +kernel⟩, List.mem_of_getElem? (i := 22) (by decide +kernel), List.mem_of_getElem? (i := 774) (by decide +kernel), List.mem_of_getElem? (i := 775) (by decide +kernel)⟩
theorem lw_p28 : lw_okq (⟨"LetOff", "bestDeed", "(III)I"⟩, 20) := ⟨⟨by decide +kernel, by decide +kernel⟩, List.mem_of_getElem? (i := 22) (by decide +kernel), List.mem_of_getElem? (i := 790) (by decide +kernel), List.mem_of_getElem? (i := 791) (by decide +kernel)⟩
theorem lw_p29 : lw_okq (⟨"LetOff", "doDeed", "(LLetOff$Round;II)Z"⟩, 20) := ⟨⟨by decide +kernel, by decide +kernel⟩, List.mem_of_getElem? (i := 22) (by decide +kernel), List.mem_of_getElem? (i := 794) (by decide +kernel), List.mem_of_getElem? (i := 795) (by decide +kernel)⟩
theorem lw_p30 : lw_okq (⟨"LetOff$RowSearch", "trySets", "(LLetOff$Engine;III)V"⟩, 4) := ⟨⟨by decide +kernel, by decide +kernel⟩, List.mem_of_getElem? (i := 212) (by decide +kernel), List.mem_of_getElem? (i := 816) (by decide +kernel), List.mem_of_getElem? (i := 817) (by decide +kernel)⟩
theorem lw_p31 : lw_okq (⟨"LetOff$RowSearch", "keepIfBest", "(I)V"⟩, 4) := ⟨⟨by decide +kernel, by decide +kernel⟩, List.mem_of_getElem? (i := 212) (by decide +kernel), List.mem_of_getElem? (i := 825) (by decide +kernel), List.mem_of_getElem? (i := 826) (by decide +kernel)⟩
def lw_privs_2 : List (MethodName × Nat) := [(⟨"LetOff", "keepForUndo", "()V"⟩, 20), (⟨"LetOff", "setEngine", "(I)V"⟩, 20), (⟨"LetOff$Engine", "goesOff", "(LLetOff$Round;I)Z"⟩, 7), (⟨"LetOff$Engine", "isAtItsRoad", "(LLetOff$Round;I)Z"⟩, 7), (⟨"LetOff$Engine", "setWords", "(LLetOff$Round;I)V"⟩, 7), (⟨"LetOff$Engine", "cellsBehind", "(LLetOff$Round;I)I"⟩, 7), (⟨"LetOff$Engine", "goOnIfFree", "(LLetOff$Round;I)V"⟩, 7), (⟨"LetOff$Engine", "letCome", "(LLetOff$Round;I)V"⟩, 7), (⟨"LetOff", "isOn", "(I)Z"⟩, 20), (⟨"LetOff", "tryFromNow", "()LLetOff$Round;"⟩, 20), (⟨"LetOff", "goneIn", "(LLetOff$Round;I)I"⟩, 20), (⟨"LetOff", "stepOff", "(LLetOff$Round;II)I"⟩, 20), (⟨"LetOff", "bestDeed", "(III)I"⟩, 20), (⟨"LetOff", "doDeed", "(LLetOff$Round;II)Z"⟩, 20), (⟨"LetOff$RowSearch", "trySets", "(LLetOff$Engine;III)V"⟩, 4), (⟨"LetOff$RowSearch", "keepIfBest", "(I)V"⟩, 4)]
theorem lw_r2 : ∀ q ∈ lw_privs_2, lw_okq q := List.forall_mem_cons.mpr ⟨lw_p16, List.forall_mem_cons.mpr ⟨lw_p17, List.forall_mem_cons.mpr ⟨lw_p18, List.forall_mem_cons.mpr ⟨lw_p19, List.forall_mem_cons.mpr ⟨lw_p20, List.forall_mem_cons.mpr ⟨lw_p21, List.forall_mem_cons.mpr ⟨lw_p22, List.forall_mem_cons.mpr ⟨lw_p23, List.forall_mem_cons.mpr ⟨lw_p24, List.forall_mem_cons.mpr ⟨lw_p25, List.forall_mem_cons.mpr ⟨lw_p26, List.forall_mem_cons.mpr ⟨lw_p27, List.forall_mem_cons.mpr ⟨lw_p28, List.forall_mem_cons.mpr ⟨lw_p29, List.forall_mem_cons.mpr ⟨lw_p30, List.forall_mem_cons.mpr ⟨lw_p31, fun _ h => absurd h List.not_mem_nil⟩⟩⟩⟩⟩⟩⟩⟩⟩⟩⟩⟩⟩⟩⟩⟩
theorem lw_p32 : lw_okq (⟨"LetOff", "fillTable", "(III)V"⟩, 20) := ⟨⟨by decide +kernel, by decide +kernel⟩, List.mem_of_getElem? (i := 22) (by decide +kernel), List.mem_of_getElem? (i := 840) (by decide +kernel), List.mem_of_getElem? (i := 841) (by decide +kernel)⟩
theorem lw_p33 : lw_okq (⟨"LetOff", "isRest", "(II)Z"⟩, 20) := ⟨⟨by decide +kernel, by decide +kernel⟩, List.mem_of_getElem? (i := 22) (by decide +kernel), List.mem_of_getElem? (i := 850) (by decide +kernel), List.mem_of_getElem? (i := 851) (by decide +kernel)⟩
theorem lw_p34 : lw_okq (⟨"LetOff", "lack", "(I)I"⟩, 20) := ⟨⟨by decide +kernel, by decide +kernel⟩, List.mem_of_getElem? (i := 22) (by decide +kernel), List.mem_of_getElem? (i := 866) (by decide +kernel), List.mem_of_getElem? (i := 867) (by decide +kernel)⟩
theorem lw_p35 : lw_okq (⟨"LetOff", "tryFromBegin", "(I)LLetOff$Round;"⟩, 20) := ⟨⟨by decide +kernel, by decide +kernel⟩, List.mem_of_getElem? (i := 22) (by decide +kernel), List.mem_of_getElem? (i := 882) (by decide +kernel), List.mem_of_getElem? (i := 883) (by decide +kernel)⟩
theorem lw_p36 : lw_okq (⟨"LetOff", "fitsNotes", "(LLetOff$Round;)Z"⟩, 20) := ⟨⟨by decide +kernel, by decide +kernel⟩, List.mem_of_getElem? (i := 22) (by decide +kernel), List.mem_of_getElem? (i := 886) (by decide +kernel), List.mem_of_getElem? (i := 887) (by decide +kernel)⟩
theorem lw_p37 : lw_okq (⟨"LetOff", "countCells", "(LLetOff$Round;)V"⟩, 20) := ⟨⟨by decide +kernel, by decide +kernel⟩, List.mem_of_getElem? (i := 22) (by decide +kernel), List.mem_of_getElem? (i := 910) (by decide +kernel), List.mem_of_getElem? (i := 911) (by decide +kernel)⟩
theorem lw_p38 : lw_okq (⟨"LetOff", "mostAlike", "(I)I"⟩, 20) := ⟨⟨by decide +kernel, by decide +kernel⟩, List.mem_of_getElem? (i := 22) (by decide +kernel), List.mem_of_getElem? (i := 914) (by decide +kernel), List.mem_of_getElem? (i := 915) (by decide +kernel)⟩
theorem lw_p39 : lw_okq (⟨"LetOff", "drawWaiting", "(LLetOff$Round;I)V"⟩, 20) := ⟨⟨by decide +kernel, by decide +kernel⟩, List.mem_of_getElem? (i := 22) (by decide +kernel), List.mem_of_getElem? (i := 926) (by decide +kernel), List.mem_of_getElem? (i := 927) (by decide +kernel)⟩
theorem lw_p40 : lw_okq (⟨"LetOff", "draw", "()I"⟩, 20) := ⟨⟨by decide +kernel, by decide +kernel⟩, List.mem_of_getElem? (i := 22) (by decide +kernel), List.mem_of_getElem? (i := 930) (by decide +kernel), List.mem_of_getElem? (i := 931) (by decide +kernel)⟩
theorem lw_p41 : lw_okq (⟨"LetOffModel", "four", "(I)V"⟩, 40) := ⟨⟨by decide +kernel, by decide +kernel⟩, List.mem_of_getElem? (i := 951) (by decide +kernel), List.mem_of_getElem? (i := 1083) (by decide +kernel), List.mem_of_getElem? (i := 1084) (by decide +kernel)⟩
theorem lw_p42 : lw_okq (⟨"LetOffModel", "readsAll", "()Z"⟩, 40) := ⟨⟨by decide +kernel, by decide +kernel⟩, List.mem_of_getElem? (i := 951) (by decide +kernel), List.mem_of_getElem? (i := 1095) (by decide +kernel), List.mem_of_getElem? (i := 1096) (by decide +kernel)⟩
theorem lw_p43 : lw_okq (⟨"LetOffModel", "clauseHere", "()Z"⟩, 40) := ⟨⟨by decide +kernel, by decide +kernel⟩, List.mem_of_getElem? (i := 951) (by decide +kernel), List.mem_of_getElem? (i := 1099) (by decide +kernel), List.mem_of_getElem? (i := 1100) (by decide +kernel)⟩
theorem lw_p44 : lw_okq (⟨"LetOffModel", "see", "()I"⟩, 40) := ⟨⟨by decide +kernel, by decide +kernel⟩, List.mem_of_getElem? (i := 951) (by decide +kernel), List.mem_of_getElem? (i := 1103) (by decide +kernel), List.mem_of_getElem? (i := 1104) (by decide +kernel)⟩
theorem lw_p45 : lw_okq (⟨"LetOffModel", "isShowWord", "()Z"⟩, 40) := ⟨⟨by decide +kernel, by decide +kernel⟩, List.mem_of_getElem? (i := 951) (by decide +kernel), List.mem_of_getElem? (i := 1107) (by decide +kernel), List.mem_of_getElem? (i := 1108) (by decide +kernel)⟩
theorem lw_p46 : lw_okq (⟨"LetOffModel", "isWord", "(J)Z"⟩, 40) := ⟨⟨by decide +kernel, by decide +kernel⟩, List.mem_of_getElem? (i := 951) (by decide +kernel), List.mem_of_getElem? (i := 1112) (by decide +kernel), List.mem_of_getElem? (i := 1113) (by decide +kernel)⟩
theorem lw_p47 : lw_okq (⟨"LetOffModel", "isLetter", "(I)Z"⟩, 40) := ⟨⟨by decide +kernel, by decide +kernel⟩, List.mem_of_getElem? (i := 951) (by decide +kernel), List.mem_of_getElem? (i := 1116) (by decide +kernel), List.mem_of_getElem? (i := 1117) (by decide +kernel)⟩
def lw_privs_3 : List (MethodName × Nat) := [(⟨"LetOff", "fillTable", "(III)V"⟩, 20), (⟨"LetOff", "isRest", "(II)Z"⟩, 20), (⟨"LetOff", "lack", "(I)I"⟩, 20), (⟨"LetOff", "tryFromBegin", "(I)LLetOff$Round;"⟩, 20), (⟨"LetOff", "fitsNotes", "(LLetOff$Round;)Z"⟩, 20), (⟨"LetOff", "countCells", "(LLetOff$Round;)V"⟩, 20), (⟨"LetOff", "mostAlike", "(I)I"⟩, 20), (⟨"LetOff", "drawWaiting", "(LLetOff$Round;I)V"⟩, 20), (⟨"LetOff", "draw", "()I"⟩, 20), (⟨"LetOffModel", "four", "(I)V"⟩, 40), (⟨"LetOffModel", "readsAll", "()Z"⟩, 40), (⟨"LetOffModel", "clauseHere", "()Z"⟩, 40), (⟨"LetOffModel", "see", "()I"⟩, 40), (⟨"LetOffModel", "isShowWord", "()Z"⟩, 40), (⟨"LetOffModel", "isWord", "(J)Z"⟩, 40), (⟨"LetOffModel", "isLetter", "(I)Z"⟩, 40)]
theorem lw_r3 : ∀ q ∈ lw_privs_3, lw_okq q := List.forall_mem_cons.mpr ⟨lw_p32, List.forall_mem_cons.mpr ⟨lw_p33, List.forall_mem_cons.mpr ⟨lw_p34, List.forall_mem_cons.mpr ⟨lw_p35, List.forall_mem_cons.mpr ⟨lw_p36, List.forall_mem_cons.mpr ⟨lw_p37, List.forall_mem_cons.mpr ⟨lw_p38, List.forall_mem_cons.mpr ⟨lw_p39, List.forall_mem_cons.mpr ⟨lw_p40, List.forall_mem_cons.mpr ⟨lw_p41, List.forall_mem_cons.mpr ⟨lw_p42, List.forall_mem_cons.mpr ⟨lw_p43, List.forall_mem_cons.mpr ⟨lw_p44, List.forall_mem_cons.mpr ⟨lw_p45, List.forall_mem_cons.mpr ⟨lw_p46, List.forall_mem_cons.mpr ⟨lw_p47, fun _ h => absurd h List.not_mem_nil⟩⟩⟩⟩⟩⟩⟩⟩⟩⟩⟩⟩⟩⟩⟩⟩
theorem lw_p48 : lw_okq (⟨"LetOffModel", "fails", "(II)Z"⟩, 40) := ⟨⟨by decide +kernel, by decide +kernel⟩, List.mem_of_getElem? (i := 951) (by decide +kernel), List.mem_of_getElem? (i := 1124) (by decide +kernel), List.mem_of_getElem? (i := 1125) (by decide +kernel)⟩
theorem lw_p49 : lw_okq (⟨"LetOffModel", "showLineHere", "(I)Z"⟩, 40) := ⟨⟨by decide +kernel, by decide +kernel⟩, List.mem_of_getElem? (i := 951) (by decide +kernel), List.mem_of_getElem? (i := 1128) (by decide +kernel), List.mem_of_getElem? (i := 1129) (by decide +kernel)⟩
theorem lw_p50 : lw_okq (⟨"LetOffModel", "isShowHere", "(I)Z"⟩, 40) := ⟨⟨by decide +kernel, by decide +kernel⟩, List.mem_of_getElem? (i := 951) (by decide +kernel), List.mem_of_getElem? (i := 1132) (by decide +kernel), List.mem_of_getElem? (i := 1133) (by decide +kernel)⟩
theorem lw_p51 : lw_okq (⟨"LetOffModel", "passWord", "()V"⟩, 40) := ⟨⟨by decide +kernel, by decide +kernel⟩, List.mem_of_getElem? (i := 951) (by decide +kernel), List.mem_of_getElem? (i := 1136) (by decide +kernel), List.mem_of_getElem? (i := 1137) (by decide +kernel)⟩
theorem lw_p52 : lw_okq (⟨"LetOffModel", "cellHere", "(III)Z"⟩, 40) := ⟨⟨by decide +kernel, by decide +kernel⟩, List.mem_of_getElem? (i := 951) (by decide +kernel), List.mem_of_getElem? (i := 1140) (by decide +kernel), List.mem_of_getElem? (i := 1141) (by decide +kernel)⟩
theorem lw_p53 : lw_okq (⟨"LetOffModel", "numberHere", "(II)Z"⟩, 40) := ⟨⟨by decide +kernel, by decide +kernel⟩, List.mem_of_getElem? (i := 951) (by decide +kernel), List.mem_of_getElem? (i := 1144) (by decide +kernel), List.mem_of_getElem? (i := 1145) (by decide +kernel)⟩
theorem lw_p54 : lw_okq (⟨"LetOffModel", "isDigit", "(I)Z"⟩, 40) := ⟨⟨by decide +kernel, by decide +kernel⟩, List.mem_of_getElem? (i := 951) (by decide +kernel), List.mem_of_getElem? (i := 1148) (by decide +kernel), List.mem_of_getElem? (i := 1149) (by decide +kernel)⟩
theorem lw_p55 : lw_okq (⟨"LetOffModel", "isRoadHere", "(I)Z"⟩, 40) := ⟨⟨by decide +kernel, by decide +kernel⟩, List.mem_of_getElem? (i := 951) (by decide +kernel), List.mem_of_getElem? (i := 1155) (by decide +kernel), List.mem_of_getElem? (i := 1156) (by decide +kernel)⟩
theorem lw_p56 : lw_okq (⟨"LetOffModel", "isRoadIn", "(I)Z"⟩, 40) := ⟨⟨by decide +kernel, by decide +kernel⟩, List.mem_of_getElem? (i := 951) (by decide +kernel), List.mem_of_getElem? (i := 1159) (by decide +kernel), List.mem_of_getElem? (i := 1160) (by decide +kernel)⟩
theorem lw_p57 : lw_okq (⟨"LetOffModel", "isCarHere", "(I)Z"⟩, 40) := ⟨⟨by decide +kernel, by decide +kernel⟩, List.mem_of_getElem? (i := 951) (by decide +kernel), List.mem_of_getElem? (i := 1163) (by decide +kernel), List.mem_of_getElem? (i := 1164) (by decide +kernel)⟩
theorem lw_p58 : lw_okq (⟨"LetOffModel", "isCarIn", "(I)Z"⟩, 40) := ⟨⟨by decide +kernel, by decide +kernel⟩, List.mem_of_getElem? (i := 951) (by decide +kernel), List.mem_of_getElem? (i := 1167) (by decide +kernel), List.mem_of_getElem? (i := 1168) (by decide +kernel)⟩
theorem lw_p59 : lw_okq (⟨"LetOffModel", "isGapHere", "()Z"⟩, 40) := ⟨⟨by decide +kernel, by decide +kernel⟩, List.mem_of_getElem? (i := 951) (by decide +kernel), List.mem_of_getElem? (i := 1171) (by decide +kernel), List.mem_of_getElem? (i := 1172) (by decide +kernel)⟩
theorem lw_p60 : lw_okq (⟨"LetOffModel", "isGoHere", "()Z"⟩, 40) := ⟨⟨by decide +kernel, by decide +kernel⟩, List.mem_of_getElem? (i := 951) (by decide +kernel), List.mem_of_getElem? (i := 1175) (by decide +kernel), List.mem_of_getElem? (i := 1176) (by decide +kernel)⟩
theorem lw_p61 : lw_okq (⟨"LetOffModel", "sum", "()Z"⟩, 40) := ⟨⟨by decide +kernel, by decide +kernel⟩, List.mem_of_getElem? (i := 951) (by decide +kernel), List.mem_of_getElem? (i := 1179) (by decide +kernel), List.mem_of_getElem? (i := 1180) (by decide +kernel)⟩
theorem lw_p62 : lw_okq (⟨"LetOffModel", "term", "()Z"⟩, 40) := ⟨⟨by decide +kernel, by decide +kernel⟩, List.mem_of_getElem? (i := 951) (by decide +kernel), List.mem_of_getElem? (i := 1183) (by decide +kernel), List.mem_of_getElem? (i := 1184) (by decide +kernel)⟩
theorem lw_p63 : lw_okq (⟨"LetOffModel", "value", "()Z"⟩, 40) := ⟨⟨by decide +kernel, by decide +kernel⟩, List.mem_of_getElem? (i := 951) (by decide +kernel), List.mem_of_getElem? (i := 1187) (by decide +kernel), List.mem_of_getElem? (i := 1188) (by decide +kernel)⟩
def lw_privs_4 : List (MethodName × Nat) := [(⟨"LetOffModel", "fails", "(II)Z"⟩, 40), (⟨"LetOffModel", "showLineHere", "(I)Z"⟩, 40), (⟨"LetOffModel", "isShowHere", "(I)Z"⟩, 40), (⟨"LetOffModel", "passWord", "()V"⟩, 40), (⟨"LetOffModel", "cellHere", "(III)Z"⟩, 40), (⟨"LetOffModel", "numberHere", "(II)Z"⟩, 40), (⟨"LetOffModel", "isDigit", "(I)Z"⟩, 40), (⟨"LetOffModel", "isRoadHere", "(I)Z"⟩, 40), (⟨"LetOffModel", "isRoadIn", "(I)Z"⟩, 40), (⟨"LetOffModel", "isCarHere", "(I)Z"⟩, 40), (⟨"LetOffModel", "isCarIn", "(I)Z"⟩, 40), (⟨"LetOffModel", "isGapHere", "()Z"⟩, 40), (⟨"LetOffModel", "isGoHere", "()Z"⟩, 40), (⟨"LetOffModel", "sum", "()Z"⟩, 40), (⟨"LetOffModel", "term", "()Z"⟩, 40), (⟨"LetOffModel", "value", "()Z"⟩, 40)]
theorem lw_r4 : ∀ q ∈ lw_privs_4, lw_okq q := List.forall_mem_cons.mpr ⟨lw_p48, List.forall_mem_cons.mpr ⟨lw_p49, List.forall_mem_cons.mpr ⟨lw_p50, List.forall_mem_cons.mpr ⟨lw_p51, List.forall_mem_cons.mpr ⟨lw_p52, List.forall_mem_cons.mpr ⟨lw_p53, List.forall_mem_cons.mpr ⟨lw_p54, List.forall_mem_cons.mpr ⟨lw_p55, List.forall_mem_cons.mpr ⟨lw_p56, List.forall_mem_cons.mpr ⟨lw_p57, List.forall_mem_cons.mpr ⟨lw_p58, List.forall_mem_cons.mpr ⟨lw_p59, List.forall_mem_cons.mpr ⟨lw_p60, List.forall_mem_cons.mpr ⟨lw_p61, List.forall_mem_cons.mpr ⟨lw_p62, List.forall_mem_cons.mpr ⟨lw_p63, fun _ h => absurd h List.not_mem_nil⟩⟩⟩⟩⟩⟩⟩⟩⟩⟩⟩⟩⟩⟩⟩⟩
theorem lw_p64 : lw_okq (⟨"LetOffModel", "makes", "(I)Z"⟩, 40) := ⟨⟨by decide +kernel, by decide +kernel⟩, List.mem_of_getElem? (i := 951) (by decide +kernel), List.mem_of_getElem? (i := 1192) (by decide +kernel), List.mem_of_getElem? (i := 1193) (by decide +kernel)⟩
theorem lw_p65 : lw_okq (⟨"LetOffModel", "puts", "(II)V"⟩, 40) := ⟨⟨by decide +kernel, by decide +kernel⟩, List.mem_of_getElem? (i := 951) (by decide +kernel), List.mem_of_getElem? (i := 1196) (by decide +kernel), List.mem_of_getElem? (i := 1197) (by decide +kernel)⟩
theorem lw_p66 : lw_okq (⟨"LetOffModel", "wordHere", "()I"⟩, 40) := ⟨⟨by decide +kernel, by decide +kernel⟩, List.mem_of_getElem? (i := 951) (by decide +kernel), List.mem_of_getElem? (i := 1200) (by decide +kernel), List.mem_of_getElem? (i := 1201) (by decide +kernel)⟩
theorem lw_p67 : lw_okq (⟨"LetOffModel", "takesWord", "(J)Z"⟩, 40) := ⟨⟨by decide +kernel, by decide +kernel⟩, List.mem_of_getElem? (i := 951) (by decide +kernel), List.mem_of_getElem? (i := 1213) (by decide +kernel), List.mem_of_getElem? (i := 1214) (by decide +kernel)⟩
theorem lw_p68 : lw_okq (⟨"LetOffModel", "tested", "()Z"⟩, 40) := ⟨⟨by decide +kernel, by decide +kernel⟩, List.mem_of_getElem? (i := 951) (by decide +kernel), List.mem_of_getElem? (i := 1217) (by decide +kernel), List.mem_of_getElem? (i := 1218) (by decide +kernel)⟩
theorem lw_p69 : lw_okq (⟨"LetOffModel", "fact", "()Z"⟩, 40) := ⟨⟨by decide +kernel, by decide +kernel⟩, List.mem_of_getElem? (i := 951) (by decide +kernel), List.mem_of_getElem? (i := 1221) (by decide +kernel), List.mem_of_getElem? (i := 1222) (by decide +kernel)⟩
theorem lw_p70 : lw_okq (⟨"LetOffModel", "opens", "(I)Z"⟩, 40) := ⟨⟨by decide +kernel, by decide +kernel⟩, List.mem_of_getElem? (i := 951) (by decide +kernel), List.mem_of_getElem? (i := 1226) (by decide +kernel), List.mem_of_getElem? (i := 1227) (by decide +kernel)⟩
theorem lw_p71 : lw_okq (⟨"LetOffModel", "compare", "()Z"⟩, 40) := ⟨⟨by decide +kernel, by decide +kernel⟩, List.mem_of_getElem? (i := 951) (by decide +kernel), List.mem_of_getElem? (i := 1230) (by decide +kernel), List.mem_of_getElem? (i := 1231) (by decide +kernel)⟩
theorem lw_p72 : lw_okq (⟨"LetOffModel", "closes", "()V"⟩, 40) := ⟨⟨by decide +kernel, by decide +kernel⟩, List.mem_of_getElem? (i := 951) (by decide +kernel), List.mem_of_getElem? (i := 1234) (by decide +kernel), List.mem_of_getElem? (i := 1235) (by decide +kernel)⟩
theorem lw_p73 : lw_okq (⟨"LetOffModel", "layDown", "(I)V"⟩, 40) := ⟨⟨by decide +kernel, by decide +kernel⟩, List.mem_of_getElem? (i := 951) (by decide +kernel), List.mem_of_getElem? (i := 1238) (by decide +kernel), List.mem_of_getElem? (i := 1239) (by decide +kernel)⟩
theorem lw_p74 : lw_okq (⟨"LetOffModel", "isInside", "()Z"⟩, 40) := ⟨⟨by decide +kernel, by decide +kernel⟩, List.mem_of_getElem? (i := 951) (by decide +kernel), List.mem_of_getElem? (i := 1245) (by decide +kernel), List.mem_of_getElem? (i := 1246) (by decide +kernel)⟩
theorem lw_p75 : lw_okq (⟨"LetOffModel", "begins", "()V"⟩, 40) := ⟨⟨by decide +kernel, by decide +kernel⟩, List.mem_of_getElem? (i := 951) (by decide +kernel), List.mem_of_getElem? (i := 1255) (by decide +kernel), List.mem_of_getElem? (i := 1256) (by decide +kernel)⟩
theorem lw_p76 : lw_okq (⟨"LetOffModel", "stands", "(IIIII)V"⟩, 40) := ⟨⟨by decide +kernel, by decide +kernel⟩, List.mem_of_getElem? (i := 951) (by decide +kernel), List.mem_of_getElem? (i := 1259) (by decide +kernel), List.mem_of_getElem? (i := 1260) (by decide +kernel)⟩
theorem lw_p77 : lw_okq (⟨"LetOffModel", "isRule", "(I)Z"⟩, 40) := ⟨⟨by decide +kernel, by decide +kernel⟩, List.mem_of_getElem? (i := 951) (by decide +kernel), List.mem_of_getElem? (i := 1267) (by decide +kernel), List.mem_of_getElem? (i := 1268) (by decide +kernel)⟩
theorem lw_p78 : lw_okq (⟨"LetOffModel", "isCar", "(I)Z"⟩, 40) := ⟨⟨by decide +kernel, by decide +kernel⟩, List.mem_of_getElem? (i := 951) (by decide +kernel), List.mem_of_getElem? (i := 1275) (by decide +kernel), List.mem_of_getElem? (i := 1276) (by decide +kernel)⟩
theorem lw_p79 : lw_okq (⟨"LetOffModel", "isShow", "()Z"⟩, 40) := ⟨⟨by decide +kernel, by decide +kernel⟩, List.mem_of_getElem? (i := 951) (by decide +kernel), List.mem_of_getElem? (i := 1279) (by decide +kernel), List.mem_of_getElem? (i := 1280) (by decide +kernel)⟩
def lw_privs_5 : List (MethodName × Nat) := [(⟨"LetOffModel", "makes", "(I)Z"⟩, 40), (⟨"LetOffModel", "puts", "(II)V"⟩, 40), (⟨"LetOffModel", "wordHere", "()I"⟩, 40), (⟨"LetOffModel", "takesWord", "(J)Z"⟩, 40), (⟨"LetOffModel", "tested", "()Z"⟩, 40), (⟨"LetOffModel", "fact", "()Z"⟩, 40), (⟨"LetOffModel", "opens", "(I)Z"⟩, 40), (⟨"LetOffModel", "compare", "()Z"⟩, 40), (⟨"LetOffModel", "closes", "()V"⟩, 40), (⟨"LetOffModel", "layDown", "(I)V"⟩, 40), (⟨"LetOffModel", "isInside", "()Z"⟩, 40), (⟨"LetOffModel", "begins", "()V"⟩, 40), (⟨"LetOffModel", "stands", "(IIIII)V"⟩, 40), (⟨"LetOffModel", "isRule", "(I)Z"⟩, 40), (⟨"LetOffModel", "isCar", "(I)Z"⟩, 40), (⟨"LetOffModel", "isShow", "()Z"⟩, 40)]
theorem lw_r5 : ∀ q ∈ lw_privs_5, lw_okq q := List.forall_mem_cons.mpr ⟨lw_p64, List.forall_mem_cons.mpr ⟨lw_p65, List.forall_mem_cons.mpr ⟨lw_p66, List.forall_mem_cons.mpr ⟨lw_p67, List.forall_mem_cons.mpr ⟨lw_p68, List.forall_mem_cons.mpr ⟨lw_p69, List.forall_mem_cons.mpr ⟨lw_p70, List.forall_mem_cons.mpr ⟨lw_p71, List.forall_mem_cons.mpr ⟨lw_p72, List.forall_mem_cons.mpr ⟨lw_p73, List.forall_mem_cons.mpr ⟨lw_p74, List.forall_mem_cons.mpr ⟨lw_p75, List.forall_mem_cons.mpr ⟨lw_p76, List.forall_mem_cons.mpr ⟨lw_p77, List.forall_mem_cons.mpr ⟨lw_p78, List.forall_mem_cons.mpr ⟨lw_p79, fun _ h => absurd h List.not_mem_nil⟩⟩⟩⟩⟩⟩⟩⟩⟩⟩⟩⟩⟩⟩⟩⟩
theorem lw_p80 : lw_okq (⟨"LetOffModel", "isOn", "(I)Z"⟩, 40) := ⟨⟨by decide +kernel, by decide +kernel⟩, List.mem_of_getElem? (i := 951) (by decide +kernel), List.mem_of_getElem? (i := 1285) (by decide +kernel), List.mem_of_getElem? (i := 1286) (by decide +kernel)⟩
theorem lw_p81 : lw_okq (⟨"LetOffModel", "isRoad", "(I)Z"⟩, 40) := ⟨⟨by decide +kernel, by decide +kernel⟩, List.mem_of_getElem? (i := 951) (by decide +kernel), List.mem_of_getElem? (i := 1293) (by decide +kernel), List.mem_of_getElem? (i := 1294) (by decide +kernel)⟩
theorem lw_p82 : lw_okq (⟨"LetOffModel", "isCell", "(I)Z"⟩, 40) := ⟨⟨by decide +kernel, by decide +kernel⟩, List.mem_of_getElem? (i := 951) (by decide +kernel), List.mem_of_getElem? (i := 1302) (by decide +kernel), List.mem_of_getElem? (i := 1303) (by decide +kernel)⟩
theorem lw_p83 : lw_okq (⟨"LetOffModel", "keepsAct", "()V"⟩, 40) := ⟨⟨by decide +kernel, by decide +kernel⟩, List.mem_of_getElem? (i := 951) (by decide +kernel), List.mem_of_getElem? (i := 1314) (by decide +kernel), List.mem_of_getElem? (i := 1315) (by decide +kernel)⟩
theorem lw_p84 : lw_okq (⟨"LetOffModel", "passes", "()I"⟩, 40) := ⟨⟨by decide +kernel, by decide +kernel⟩, List.mem_of_getElem? (i := 951) (by decide +kernel), List.mem_of_getElem? (i := 1318) (by decide +kernel), List.mem_of_getElem? (i := 1319) (by decide +kernel)⟩
theorem lw_p85 : lw_okq (⟨"LetOffModel", "fuelOf", "(I)I"⟩, 40) := ⟨⟨by decide +kernel, by decide +kernel⟩, List.mem_of_getElem? (i := 951) (by decide +kernel), List.mem_of_getElem? (i := 1322) (by decide +kernel), List.mem_of_getElem? (i := 1323) (by decide +kernel)⟩
theorem lw_p86 : lw_okq (⟨"LetOffModel", "drives", "(I)Z"⟩, 40) := ⟨⟨by decide +kernel, by decide +kernel⟩, List.mem_of_getElem? (i := 951) (by decide +kernel), List.mem_of_getElem? (i := 1326) (by decide +kernel), List.mem_of_getElem? (i := 1327) (by decide +kernel)⟩
theorem lw_p87 : lw_okq (⟨"LetOffModel", "cellOf", "(I)I"⟩, 40) := ⟨⟨by decide +kernel, by decide +kernel⟩, List.mem_of_getElem? (i := 951) (by decide +kernel), List.mem_of_getElem? (i := 1330) (by decide +kernel), List.mem_of_getElem? (i := 1331) (by decide +kernel)⟩
theorem lw_p88 : lw_okq (⟨"LetOffModel", "roadOf", "(I)I"⟩, 40) := ⟨⟨by decide +kernel, by decide +kernel⟩, List.mem_of_getElem? (i := 951) (by decide +kernel), List.mem_of_getElem? (i := 1334) (by decide +kernel), List.mem_of_getElem? (i := 1335) (by decide +kernel)⟩
theorem lw_p89 : lw_okq (⟨"LetOffModel", "isLetOff", "(I)Z"⟩, 40) := ⟨⟨by decide +kernel, by decide +kernel⟩, List.mem_of_getElem? (i := 951) (by decide +kernel), List.mem_of_getElem? (i := 1338) (by decide +kernel), List.mem_of_getElem? (i := 1339) (by decide +kernel)⟩
theorem lw_p90 : lw_okq (⟨"LetOffModel", "behindOf", "(I)I"⟩, 40) := ⟨⟨by decide +kernel, by decide +kernel⟩, List.mem_of_getElem? (i := 951) (by decide +kernel), List.mem_of_getElem? (i := 1345) (by decide +kernel), List.mem_of_getElem? (i := 1346) (by decide +kernel)⟩
theorem lw_p91 : lw_okq (⟨"LetOffModel", "carIn", "(I)I"⟩, 40) := ⟨⟨by decide +kernel, by decide +kernel⟩, List.mem_of_getElem? (i := 951) (by decide +kernel), List.mem_of_getElem? (i := 1349) (by decide +kernel), List.mem_of_getElem? (i := 1350) (by decide +kernel)⟩
theorem lw_p92 : lw_okq (⟨"LetOffModel", "manyOn", "()I"⟩, 40) := ⟨⟨by decide +kernel, by decide +kernel⟩, List.mem_of_getElem? (i := 951) (by decide +kernel), List.mem_of_getElem? (i := 1353) (by decide +kernel), List.mem_of_getElem? (i := 1354) (by decide +kernel)⟩
theorem lw_p93 : lw_okq (⟨"LetOffModel", "summedBy", "(I)J"⟩, 40) := ⟨⟨by decide +kernel, by decide +kernel⟩, List.mem_of_getElem? (i := 951) (by decide +kernel), List.mem_of_getElem? (i := 1357) (by decide +kernel), List.mem_of_getElem? (i := 1358) (by decide +kernel)⟩
theorem lw_p94 : lw_okq (⟨"LetOffModel", "reckons", "(III)J"⟩, 40) := ⟨⟨by decide +kernel, by decide +kernel⟩, List.mem_of_getElem? (i := 951) (by decide +kernel), List.mem_of_getElem? (i := 1361) (by decide +kernel), List.mem_of_getElem? (i := 1362) (by decide +kernel)⟩
theorem lw_p95 : lw_okq (⟨"LetOffModel", "push", "(J)V"⟩, 40) := ⟨⟨by decide +kernel, by decide +kernel⟩, List.mem_of_getElem? (i := 951) (by decide +kernel), List.mem_of_getElem? (i := 1365) (by decide +kernel), List.mem_of_getElem? (i := 1366) (by decide +kernel)⟩
def lw_privs_6 : List (MethodName × Nat) := [(⟨"LetOffModel", "isOn", "(I)Z"⟩, 40), (⟨"LetOffModel", "isRoad", "(I)Z"⟩, 40), (⟨"LetOffModel", "isCell", "(I)Z"⟩, 40), (⟨"LetOffModel", "keepsAct", "()V"⟩, 40), (⟨"LetOffModel", "passes", "()I"⟩, 40), (⟨"LetOffModel", "fuelOf", "(I)I"⟩, 40), (⟨"LetOffModel", "drives", "(I)Z"⟩, 40), (⟨"LetOffModel", "cellOf", "(I)I"⟩, 40), (⟨"LetOffModel", "roadOf", "(I)I"⟩, 40), (⟨"LetOffModel", "isLetOff", "(I)Z"⟩, 40), (⟨"LetOffModel", "behindOf", "(I)I"⟩, 40), (⟨"LetOffModel", "carIn", "(I)I"⟩, 40), (⟨"LetOffModel", "manyOn", "()I"⟩, 40), (⟨"LetOffModel", "summedBy", "(I)J"⟩, 40), (⟨"LetOffModel", "reckons", "(III)J"⟩, 40), (⟨"LetOffModel", "push", "(J)V"⟩, 40)]
theorem lw_r6 : ∀ q ∈ lw_privs_6, lw_okq q := List.forall_mem_cons.mpr ⟨lw_p80, List.forall_mem_cons.mpr ⟨lw_p81, List.forall_mem_cons.mpr ⟨lw_p82, List.forall_mem_cons.mpr ⟨lw_p83, List.forall_mem_cons.mpr ⟨lw_p84, List.forall_mem_cons.mpr ⟨lw_p85, List.forall_mem_cons.mpr ⟨lw_p86, List.forall_mem_cons.mpr ⟨lw_p87, List.forall_mem_cons.mpr ⟨lw_p88, List.forall_mem_cons.mpr ⟨lw_p89, List.forall_mem_cons.mpr ⟨lw_p90, List.forall_mem_cons.mpr ⟨lw_p91, List.forall_mem_cons.mpr ⟨lw_p92, List.forall_mem_cons.mpr ⟨lw_p93, List.forall_mem_cons.mpr ⟨lw_p94, List.forall_mem_cons.mpr ⟨lw_p95, fun _ h => absurd h List.not_mem_nil⟩⟩⟩⟩⟩⟩⟩⟩⟩⟩⟩⟩⟩⟩⟩⟩
theorem lw_p96 : lw_okq (⟨"LetOffModel", "pop", "()J"⟩, 40) := ⟨⟨by decide +kernel, by decide +kernel⟩, List.mem_of_getElem? (i := 951) (by decide +kernel), List.mem_of_getElem? (i := 1369) (by decide +kernel), List.mem_of_getElem? (i := 1370) (by decide +kernel)⟩
theorem lw_p97 : lw_okq (⟨"LetOffModel", "leaves", "(I)V"⟩, 40) := ⟨⟨by decide +kernel, by decide +kernel⟩, List.mem_of_getElem? (i := 951) (by decide +kernel), List.mem_of_getElem? (i := 1376) (by decide +kernel), List.mem_of_getElem? (i := 1377) (by decide +kernel)⟩
theorem lw_p98 : lw_okq (⟨"LetOffModel", "isFree", "(I)Z"⟩, 40) := ⟨⟨by decide +kernel, by decide +kernel⟩, List.mem_of_getElem? (i := 951) (by decide +kernel), List.mem_of_getElem? (i := 1380) (by decide +kernel), List.mem_of_getElem? (i := 1381) (by decide +kernel)⟩
theorem lw_p99 : lw_okq (⟨"LetOffModel", "waits", "(I)V"⟩, 40) := ⟨⟨by decide +kernel, by decide +kernel⟩, List.mem_of_getElem? (i := 951) (by decide +kernel), List.mem_of_getElem? (i := 1384) (by decide +kernel), List.mem_of_getElem? (i := 1385) (by decide +kernel)⟩
theorem lw_p100 : lw_okq (⟨"LetOffModel", "comesOn", "(I)V"⟩, 40) := ⟨⟨by decide +kernel, by decide +kernel⟩, List.mem_of_getElem? (i := 951) (by decide +kernel), List.mem_of_getElem? (i := 1388) (by decide +kernel), List.mem_of_getElem? (i := 1389) (by decide +kernel)⟩
theorem lw_p101 : lw_okq (⟨"LetOffModel", "isCarOn", "(I)Z"⟩, 40) := ⟨⟨by decide +kernel, by decide +kernel⟩, List.mem_of_getElem? (i := 951) (by decide +kernel), List.mem_of_getElem? (i := 1396) (by decide +kernel), List.mem_of_getElem? (i := 1397) (by decide +kernel)⟩
theorem lw_p102 : lw_okq (⟨"LetOffModel", "crosses", "(I)V"⟩, 40) := ⟨⟨by decide +kernel, by decide +kernel⟩, List.mem_of_getElem? (i := 951) (by decide +kernel), List.mem_of_getElem? (i := 1405) (by decide +kernel), List.mem_of_getElem? (i := 1406) (by decide +kernel)⟩
theorem lw_p103 : lw_okq (⟨"LetOffModel", "gaps", "()I"⟩, 40) := ⟨⟨by decide +kernel, by decide +kernel⟩, List.mem_of_getElem? (i := 951) (by decide +kernel), List.mem_of_getElem? (i := 1413) (by decide +kernel), List.mem_of_getElem? (i := 1414) (by decide +kernel)⟩
theorem lw_p104 : lw_okq (⟨"LetOffModel", "keeps", "()V"⟩, 40) := ⟨⟨by decide +kernel, by decide +kernel⟩, List.mem_of_getElem? (i := 951) (by decide +kernel), List.mem_of_getElem? (i := 1426) (by decide +kernel), List.mem_of_getElem? (i := 1427) (by decide +kernel)⟩
theorem lw_p105 : lw_okq (⟨"LetOffModel", "passesAll", "(I)V"⟩, 40) := ⟨⟨by decide +kernel, by decide +kernel⟩, List.mem_of_getElem? (i := 951) (by decide +kernel), List.mem_of_getElem? (i := 1430) (by decide +kernel), List.mem_of_getElem? (i := 1431) (by decide +kernel)⟩
theorem lw_p106 : lw_okq (⟨"LetOffModel", "laysBack", "()V"⟩, 40) := ⟨⟨by decide +kernel, by decide +kernel⟩, List.mem_of_getElem? (i := 951) (by decide +kernel), List.mem_of_getElem? (i := 1435) (by decide +kernel), List.mem_of_getElem? (i := 1436) (by decide +kernel)⟩
theorem lw_p107 : lw_okq (⟨"LetOffModel", "offIn", "(II)I"⟩, 40) := ⟨⟨by decide +kernel, by decide +kernel⟩, List.mem_of_getElem? (i := 951) (by decide +kernel), List.mem_of_getElem? (i := 1451) (by decide +kernel), List.mem_of_getElem? (i := 1452) (by decide +kernel)⟩
theorem lw_p108 : lw_okq (⟨"LetOffModel", "offAllIn", "(I)I"⟩, 40) := ⟨⟨by decide +kernel, by decide +kernel⟩, List.mem_of_getElem? (i := 951) (by decide +kernel), List.mem_of_getElem? (i := 1460) (by decide +kernel), List.mem_of_getElem? (i := 1461) (by decide +kernel)⟩
theorem lw_p109 : lw_okq (⟨"LetOffModel", "weighs", "(II)V"⟩, 40) := ⟨⟨by decide +kernel, by decide +kernel⟩, List.mem_of_getElem? (i := 951) (by decide +kernel), List.mem_of_getElem? (i := 1464) (by decide +kernel), List.mem_of_getElem? (i := 1465) (by decide +kernel)⟩
theorem lw_p110 : lw_okq (⟨"LetOffModel", "offByRow", "(II)I"⟩, 40) := ⟨⟨by decide +kernel, by decide +kernel⟩, List.mem_of_getElem? (i := 951) (by decide +kernel), List.mem_of_getElem? (i := 1480) (by decide +kernel), List.mem_of_getElem? (i := 1481) (by decide +kernel)⟩
theorem lw_p111 : lw_okq (⟨"LetOffModel", "isTwo", "(I)Z"⟩, 40) := ⟨⟨by decide +kernel, by decide +kernel⟩, List.mem_of_getElem? (i := 951) (by decide +kernel), List.mem_of_getElem? (i := 1492) (by decide +kernel), List.mem_of_getElem? (i := 1493) (by decide +kernel)⟩
def lw_privs_7 : List (MethodName × Nat) := [(⟨"LetOffModel", "pop", "()J"⟩, 40), (⟨"LetOffModel", "leaves", "(I)V"⟩, 40), (⟨"LetOffModel", "isFree", "(I)Z"⟩, 40), (⟨"LetOffModel", "waits", "(I)V"⟩, 40), (⟨"LetOffModel", "comesOn", "(I)V"⟩, 40), (⟨"LetOffModel", "isCarOn", "(I)Z"⟩, 40), (⟨"LetOffModel", "crosses", "(I)V"⟩, 40), (⟨"LetOffModel", "gaps", "()I"⟩, 40), (⟨"LetOffModel", "keeps", "()V"⟩, 40), (⟨"LetOffModel", "passesAll", "(I)V"⟩, 40), (⟨"LetOffModel", "laysBack", "()V"⟩, 40), (⟨"LetOffModel", "offIn", "(II)I"⟩, 40), (⟨"LetOffModel", "offAllIn", "(I)I"⟩, 40), (⟨"LetOffModel", "weighs", "(II)V"⟩, 40), (⟨"LetOffModel", "offByRow", "(II)I"⟩, 40), (⟨"LetOffModel", "isTwo", "(I)Z"⟩, 40)]
theorem lw_r7 : ∀ q ∈ lw_privs_7, lw_okq q := List.forall_mem_cons.mpr ⟨lw_p96, List.forall_mem_cons.mpr ⟨lw_p97, List.forall_mem_cons.mpr ⟨lw_p98, List.forall_mem_cons.mpr ⟨lw_p99, List.forall_mem_cons.mpr ⟨lw_p100, List.forall_mem_cons.mpr ⟨lw_p101, List.forall_mem_cons.mpr ⟨lw_p102, List.forall_mem_cons.mpr ⟨lw_p103, List.forall_mem_cons.mpr ⟨lw_p104, List.forall_mem_cons.mpr ⟨lw_p105, List.forall_mem_cons.mpr ⟨lw_p106, List.forall_mem_cons.mpr ⟨lw_p107, List.forall_mem_cons.mpr ⟨lw_p108, List.forall_mem_cons.mpr ⟨lw_p109, List.forall_mem_cons.mpr ⟨lw_p110, List.forall_mem_cons.mpr ⟨lw_p111, fun _ h => absurd h List.not_mem_nil⟩⟩⟩⟩⟩⟩⟩⟩⟩⟩⟩⟩⟩⟩⟩⟩
theorem lw_p112 : lw_okq (⟨"LetOffModel", "fillsRest", "(IIII)V"⟩, 40) := ⟨⟨by decide +kernel, by decide +kernel⟩, List.mem_of_getElem? (i := 951) (by decide +kernel), List.mem_of_getElem? (i := 1496) (by decide +kernel), List.mem_of_getElem? (i := 1497) (by decide +kernel)⟩
theorem lw_p113 : lw_okq (⟨"LetOffModel", "isRest", "(II)Z"⟩, 40) := ⟨⟨by decide +kernel, by decide +kernel⟩, List.mem_of_getElem? (i := 951) (by decide +kernel), List.mem_of_getElem? (i := 1500) (by decide +kernel), List.mem_of_getElem? (i := 1501) (by decide +kernel)⟩
theorem lw_p114 : lw_okq (⟨"LetOffModel", "areAlike", "(II)Z"⟩, 40) := ⟨⟨by decide +kernel, by decide +kernel⟩, List.mem_of_getElem? (i := 951) (by decide +kernel), List.mem_of_getElem? (i := 1508) (by decide +kernel), List.mem_of_getElem? (i := 1509) (by decide +kernel)⟩
theorem lw_p115 : lw_okq (⟨"LetOffModel", "shortOf", "(I)I"⟩, 40) := ⟨⟨by decide +kernel, by decide +kernel⟩, List.mem_of_getElem? (i := 951) (by decide +kernel), List.mem_of_getElem? (i := 1517) (by decide +kernel), List.mem_of_getElem? (i := 1518) (by decide +kernel)⟩
theorem lw_p116 : lw_okq (⟨"LetOffModel", "areAllSo", "(II)Z"⟩, 40) := ⟨⟨by decide +kernel, by decide +kernel⟩, List.mem_of_getElem? (i := 951) (by decide +kernel), List.mem_of_getElem? (i := 1530) (by decide +kernel), List.mem_of_getElem? (i := 1531) (by decide +kernel)⟩
theorem lw_p117 : lw_okq (⟨"LetOffModel", "areNotesSo", "(I)Z"⟩, 40) := ⟨⟨by decide +kernel, by decide +kernel⟩, List.mem_of_getElem? (i := 951) (by decide +kernel), List.mem_of_getElem? (i := 1534) (by decide +kernel), List.mem_of_getElem? (i := 1535) (by decide +kernel)⟩
theorem lw_p118 : lw_okq (⟨"LetOffModel", "cellOn", "(I)I"⟩, 40) := ⟨⟨by decide +kernel, by decide +kernel⟩, List.mem_of_getElem? (i := 951) (by decide +kernel), List.mem_of_getElem? (i := 1538) (by decide +kernel), List.mem_of_getElem? (i := 1539) (by decide +kernel)⟩
theorem lw_p119 : lw_okq (⟨"LetOffModel", "fillsFits", "(I)V"⟩, 40) := ⟨⟨by decide +kernel, by decide +kernel⟩, List.mem_of_getElem? (i := 951) (by decide +kernel), List.mem_of_getElem? (i := 1546) (by decide +kernel), List.mem_of_getElem? (i := 1547) (by decide +kernel)⟩
theorem lw_p120 : lw_okq (⟨"LetOffModel", "alikeAt", "(I)I"⟩, 40) := ⟨⟨by decide +kernel, by decide +kernel⟩, List.mem_of_getElem? (i := 951) (by decide +kernel), List.mem_of_getElem? (i := 1554) (by decide +kernel), List.mem_of_getElem? (i := 1555) (by decide +kernel)⟩
theorem lw_p121 : lw_okq (⟨"LetOffModel", "draw", "(I)I"⟩, 40) := ⟨⟨by decide +kernel, by decide +kernel⟩, List.mem_of_getElem? (i := 951) (by decide +kernel), List.mem_of_getElem? (i := 1567) (by decide +kernel), List.mem_of_getElem? (i := 1568) (by decide +kernel)⟩
theorem lw_p122 : lw_okq (⟨"LetOffModel", "waitAll", "()I"⟩, 40) := ⟨⟨by decide +kernel, by decide +kernel⟩, List.mem_of_getElem? (i := 951) (by decide +kernel), List.mem_of_getElem? (i := 1575) (by decide +kernel), List.mem_of_getElem? (i := 1576) (by decide +kernel)⟩
theorem lw_p123 : lw_okq (⟨"LetOffModel", "onesOn", "()I"⟩, 40) := ⟨⟨by decide +kernel, by decide +kernel⟩, List.mem_of_getElem? (i := 951) (by decide +kernel), List.mem_of_getElem? (i := 1583) (by decide +kernel), List.mem_of_getElem? (i := 1584) (by decide +kernel)⟩
def lw_privs_8 : List (MethodName × Nat) := [(⟨"LetOffModel", "fillsRest", "(IIII)V"⟩, 40), (⟨"LetOffModel", "isRest", "(II)Z"⟩, 40), (⟨"LetOffModel", "areAlike", "(II)Z"⟩, 40), (⟨"LetOffModel", "shortOf", "(I)I"⟩, 40), (⟨"LetOffModel", "areAllSo", "(II)Z"⟩, 40), (⟨"LetOffModel", "areNotesSo", "(I)Z"⟩, 40), (⟨"LetOffModel", "cellOn", "(I)I"⟩, 40), (⟨"LetOffModel", "fillsFits", "(I)V"⟩, 40), (⟨"LetOffModel", "alikeAt", "(I)I"⟩, 40), (⟨"LetOffModel", "draw", "(I)I"⟩, 40), (⟨"LetOffModel", "waitAll", "()I"⟩, 40), (⟨"LetOffModel", "onesOn", "()I"⟩, 40)]
theorem lw_r8 : ∀ q ∈ lw_privs_8, lw_okq q := List.forall_mem_cons.mpr ⟨lw_p112, List.forall_mem_cons.mpr ⟨lw_p113, List.forall_mem_cons.mpr ⟨lw_p114, List.forall_mem_cons.mpr ⟨lw_p115, List.forall_mem_cons.mpr ⟨lw_p116, List.forall_mem_cons.mpr ⟨lw_p117, List.forall_mem_cons.mpr ⟨lw_p118, List.forall_mem_cons.mpr ⟨lw_p119, List.forall_mem_cons.mpr ⟨lw_p120, List.forall_mem_cons.mpr ⟨lw_p121, List.forall_mem_cons.mpr ⟨lw_p122, List.forall_mem_cons.mpr ⟨lw_p123, fun _ h => absurd h List.not_mem_nil⟩⟩⟩⟩⟩⟩⟩⟩⟩⟩⟩⟩
def lw_privs : List (MethodName × Nat) := lw_privs_1 ++ (lw_privs_2 ++ (lw_privs_3 ++ (lw_privs_4 ++ (lw_privs_5 ++ (lw_privs_6 ++ (lw_privs_7 ++ (lw_privs_8)))))))
def lw_tbl : List Cond := k2_sels lw_privs ++ tables_1
theorem lw_privs_ok : ∀ q ∈ lw_privs, lw_okq q := by
  show ∀ q ∈ lw_privs_1 ++ (lw_privs_2 ++ (lw_privs_3 ++ (lw_privs_4 ++ (lw_privs_5 ++ (lw_privs_6 ++ (lw_privs_7 ++ (lw_privs_8))))))), lw_okq q
  exact List.forall_mem_append.mpr ⟨lw_r1, List.forall_mem_append.mpr ⟨lw_r2, List.forall_mem_append.mpr ⟨lw_r3, List.forall_mem_append.mpr ⟨lw_r4, List.forall_mem_append.mpr ⟨lw_r5, List.forall_mem_append.mpr ⟨lw_r6, List.forall_mem_append.mpr ⟨lw_r7, lw_r8⟩⟩⟩⟩⟩⟩⟩
end
section
/-! ===== BEGIN words of one list among another's, by their places ===== -/
theorem goodIn_r {big : List Cond} (ws : List Cond) (ps : List Nat) (hp : ws = ps.filterMap (fun i => big[i]?)) (h : ws.all goodWord = true) : GoodIn big ws := by
  intro w hw
  have h1 := List.all_eq_true.mp h w hw
  rw [hp] at hw
  obtain ⟨i, -, hi⟩ := List.mem_filterMap.mp hw
  have hm : w ∈ big := by first | exact List.mem_of_getElem? hi | exact List.getElem?_mem hi
  exact ⟨hm, good_of_word h1⟩
theorem goodIn_app {big a b : List Cond} (ha : GoodIn big a) (hb : GoodIn big b) : GoodIn big (a ++ b) := fun w h => (List.mem_append.mp h).elim (ha w) (hb w)
theorem goodIn_ca {big a b : List Cond} {c : Cond} (ha : GoodIn big (c :: a)) (hb : GoodIn big b) : GoodIn big (c :: (a ++ b)) := fun w h => (List.mem_cons.mp h).elim (fun e => ha w (List.mem_cons.mpr (Or.inl e))) (fun h => (List.mem_append.mp h).elim (fun h => ha w (List.mem_cons.mpr (Or.inr h))) (hb w))
theorem goodIn_sub {big ws : List Cond} (hm : ∀ w ∈ ws, w ∈ big) (h : ws.all goodWord = true) : GoodIn big ws := fun w hw => ⟨hm w hw, good_of_word (List.all_eq_true.mp h w hw)⟩
/-! ===== END ===== -/

/-! ===== BEGIN printed: names, fields, word lists, decode rows ===== -/
def RX0 : String := "LetOff$Engine"
def TX0 : u_T := fun k => match k with
  | 0 => ("LetOff$Engine", "plan", "LLetOff$Plan;", false)
  | 1 => ("LetOff$Engine", "rule", "LLetOff$Rule;", false)
  | 2 => ("LetOff$Engine", "closedRoad", "I", false)
  | 3 => ("LetOff$Engine", "chosenSet", "I", false)
  | 4 => ("LetOff$Engine", "stirred", "Z", false)
  | 5 => ("LetOff$Engine", "words", "[J", true)
  | _ => ("LetOff$Engine", "stack", "[J", true)
def tyX0 : Nat → FieldType := fun k => match k with
  | 0 => .object "LetOff$Plan"
  | 1 => .object "LetOff$Rule"
  | 2 => .int
  | 3 => .int
  | 4 => .boolean
  | 5 => .array .long
  | _ => .array .long
abbrev wsX00 : List Cond := u_ws RX0 TX0 7
theorem nmX0 : ∀ a, a < 7 → ∀ b, b < 7 → a ≠ b → (TX0 a).2.1 ≠ (TX0 b).2.1 := by decide +kernel
theorem tyX0_ok : ∀ k, k < 7 → parseFieldDescriptor (TX0 k).2.2.1 = some (tyX0 k) := by decide +kernel
abbrev cX0_init : ByteArray := prog_2_method_1_code
def yX0_init : MethodName := ⟨RX0, "<init>", "()V"⟩
abbrev cX0_drive : ByteArray := prog_2_method_2_code
def yX0_drive : MethodName := ⟨RX0, "drive", "(LLetOff$Round;)I"⟩
abbrev cX0_goOnIfFree : ByteArray := prog_2_method_3_code
def yX0_goOnIfFree : MethodName := ⟨RX0, "goOnIfFree", "(LLetOff$Round;I)V"⟩
abbrev cX0_ready : ByteArray := prog_2_method_4_code
def yX0_ready : MethodName := ⟨RX0, "ready", "(LLetOff$Round;)I"⟩
abbrev cX0_isAtItsRoad : ByteArray := prog_2_method_5_code
def yX0_isAtItsRoad : MethodName := ⟨RX0, "isAtItsRoad", "(LLetOff$Round;I)Z"⟩
abbrev cX0_goesOff : ByteArray := prog_2_method_6_code
def yX0_goesOff : MethodName := ⟨RX0, "goesOff", "(LLetOff$Round;I)Z"⟩
abbrev cX0_setWords : ByteArray := prog_2_method_7_code
def yX0_setWords : MethodName := ⟨RX0, "setWords", "(LLetOff$Round;I)V"⟩
abbrev cX0_cellsBehind : ByteArray := prog_2_method_8_code
def yX0_cellsBehind : MethodName := ⟨RX0, "cellsBehind", "(LLetOff$Round;I)I"⟩
abbrev cX0_letCome : ByteArray := prog_2_method_9_code
def yX0_letCome : MethodName := ⟨RX0, "letCome", "(LLetOff$Round;I)V"⟩
def RX1 : String := "LetOff$Image"
def TX1 : u_T := fun k => match k with
  | 0 => ("LetOff$Image", "made", "Z", false)
  | 1 => ("LetOff$Image", "plan", "LLetOff$Plan;", false)
  | 2 => ("LetOff$Image", "inForce", "I", false)
  | 3 => ("LetOff$Image", "x", "I", false)
  | 4 => ("LetOff$Image", "round", "LLetOff$Round;", true)
  | _ => ("LetOff$Image", "notes", "LLetOff$Notes;", true)
def tyX1 : Nat → FieldType := fun k => match k with
  | 0 => .boolean
  | 1 => .object "LetOff$Plan"
  | 2 => .int
  | 3 => .int
  | 4 => .object "LetOff$Round"
  | _ => .object "LetOff$Notes"
abbrev wsX10 : List Cond := u_ws RX1 TX1 6
theorem nmX1 : ∀ a, a < 6 → ∀ b, b < 6 → a ≠ b → (TX1 a).2.1 ≠ (TX1 b).2.1 := by decide +kernel
theorem tyX1_ok : ∀ k, k < 6 → parseFieldDescriptor (TX1 k).2.2.1 = some (tyX1 k) := by decide +kernel
abbrev cX1_init : ByteArray := prog_3_method_1_code
def yX1_init : MethodName := ⟨RX1, "<init>", "()V"⟩
def RX2 : String := "LetOff$Notes"
def TX2 : u_T := fun k => match k with
  | 0 => ("LetOff$Notes", "size", "I", false)
  | 1 => ("LetOff$Notes", "steps", "[I", true)
  | 2 => ("LetOff$Notes", "cars", "[I", true)
  | _ => ("LetOff$Notes", "cells", "[I", true)
def tyX2 : Nat → FieldType := fun k => match k with
  | 0 => .int
  | 1 => .array .int
  | 2 => .array .int
  | _ => .array .int
abbrev wsX20 : List Cond := u_ws RX2 TX2 4
theorem nmX2 : ∀ a, a < 4 → ∀ b, b < 4 → a ≠ b → (TX2 a).2.1 ≠ (TX2 b).2.1 := by decide +kernel
theorem tyX2_ok : ∀ k, k < 4 → parseFieldDescriptor (TX2 k).2.2.1 = some (tyX2 k) := by decide +kernel
abbrev cX2_init : ByteArray := prog_4_method_1_code
def yX2_init : MethodName := ⟨RX2, "<init>", "()V"⟩
abbrev cX2_add : ByteArray := prog_4_method_2_code
def yX2_add : MethodName := ⟨RX2, "add", "(III)V"⟩
abbrev cX2_copyFrom : ByteArray := prog_4_method_3_code
def yX2_copyFrom : MethodName := ⟨RX2, "copyFrom", "(LLetOff$Notes;)V"⟩
abbrev cX2_lastStep : ByteArray := prog_4_method_4_code
def yX2_lastStep : MethodName := ⟨RX2, "lastStep", "()I"⟩
abbrev cX2_areSo : ByteArray := prog_4_method_5_code
def yX2_areSo : MethodName := ⟨RX2, "areSo", "(ILLetOff$Round;)Z"⟩
def RX3 : String := "LetOff$Plan"
def TX3 : u_T := fun k => match k with
  | 0 => ("LetOff$Plan", "cells", "I", false)
  | 1 => ("LetOff$Plan", "roads", "I", false)
  | 2 => ("LetOff$Plan", "told", "I", false)
  | 3 => ("LetOff$Plan", "roadCell", "[I", true)
  | 4 => ("LetOff$Plan", "roadEvery", "[I", true)
  | _ => ("LetOff$Plan", "start", "LLetOff$Round;", true)
def tyX3 : Nat → FieldType := fun k => match k with
  | 0 => .int
  | 1 => .int
  | 2 => .int
  | 3 => .array .int
  | 4 => .array .int
  | _ => .object "LetOff$Round"
abbrev wsX30 : List Cond := u_ws RX3 TX3 6
theorem nmX3 : ∀ a, a < 6 → ∀ b, b < 6 → a ≠ b → (TX3 a).2.1 ≠ (TX3 b).2.1 := by decide +kernel
theorem tyX3_ok : ∀ k, k < 6 → parseFieldDescriptor (TX3 k).2.2.1 = some (tyX3 k) := by decide +kernel
abbrev cX3_init : ByteArray := prog_5_method_1_code
def yX3_init : MethodName := ⟨RX3, "<init>", "()V"⟩
abbrev cX3_roadCells : ByteArray := prog_5_method_2_code
def yX3_roadCells : MethodName := ⟨RX3, "roadCells", "()I"⟩
def RX4 : String := "LetOff$Reader"
def TX4 : u_T := fun k => match k with
  | 0 => ("LetOff$Reader", "kind", "I", false)
  | 1 => ("LetOff$Reader", "value", "I", false)
  | 2 => ("LetOff$Reader", "fault", "I", false)
  | 3 => ("LetOff$Reader", "text", "[B", true)
  | 4 => ("LetOff$Reader", "length", "I", false)
  | 5 => ("LetOff$Reader", "from", "I", false)
  | _ => ("LetOff$Reader", "to", "I", false)
def tyX4 : Nat → FieldType := fun k => match k with
  | 0 => .int
  | 1 => .int
  | 2 => .int
  | 3 => .array .byte
  | 4 => .int
  | 5 => .int
  | _ => .int
abbrev wsX40 : List Cond := u_ws RX4 TX4 7
theorem nmX4 : ∀ a, a < 7 → ∀ b, b < 7 → a ≠ b → (TX4 a).2.1 ≠ (TX4 b).2.1 := by decide +kernel
theorem tyX4_ok : ∀ k, k < 7 → parseFieldDescriptor (TX4 k).2.2.1 = some (tyX4 k) := by decide +kernel
abbrev cX4_init : ByteArray := prog_6_method_1_code
def yX4_init : MethodName := ⟨RX4, "<init>", "()V"⟩
abbrev cX4_open : ByteArray := prog_6_method_2_code
def yX4_open : MethodName := ⟨RX4, "open", "([BI)V"⟩
abbrev cX4_next : ByteArray := prog_6_method_3_code
def yX4_next : MethodName := ⟨RX4, "next", "()V"⟩
abbrev cX4_kindOf : ByteArray := prog_6_method_4_code
def yX4_kindOf : MethodName := ⟨RX4, "kindOf", "(B)I"⟩
abbrev cX4_refuse : ByteArray := prog_6_method_5_code
def yX4_refuse : MethodName := ⟨RX4, "refuse", "(I)V"⟩
abbrev cX4_isSign : ByteArray := prog_6_method_6_code
def yX4_isSign : MethodName := ⟨RX4, "isSign", "(I)Z"⟩
abbrev cX4_takeSign : ByteArray := prog_6_method_7_code
def yX4_takeSign : MethodName := ⟨RX4, "takeSign", "(I)V"⟩
abbrev cX4_isTooLong : ByteArray := prog_6_method_8_code
def yX4_isTooLong : MethodName := ⟨RX4, "isTooLong", "()Z"⟩
abbrev cX4_takeNumber : ByteArray := prog_6_method_9_code
def yX4_takeNumber : MethodName := ⟨RX4, "takeNumber", "(III)I"⟩
abbrev cX4_wordOf : ByteArray := prog_6_method_10_code
def yX4_wordOf : MethodName := ⟨RX4, "wordOf", "(Ljava/lang/String;)I"⟩
def RX5 : String := "LetOff$Round"
def TX5 : u_T := fun k => match k with
  | 0 => ("LetOff$Round", "cell", "[I", true)
  | 1 => ("LetOff$Round", "want", "[I", true)
  | 2 => ("LetOff$Round", "fuel", "[I", true)
  | 3 => ("LetOff$Round", "age", "[I", true)
  | 4 => ("LetOff$Round", "waits", "[I", true)
  | 5 => ("LetOff$Round", "taken", "I", false)
  | 6 => ("LetOff$Round", "gaps", "I", false)
  | 7 => ("LetOff$Round", "steps", "I", false)
  | _ => ("LetOff$Round", "gone", "I", false)
def tyX5 : Nat → FieldType := fun k => match k with
  | 0 => .array .int
  | 1 => .array .int
  | 2 => .array .int
  | 3 => .array .int
  | 4 => .array .int
  | 5 => .int
  | 6 => .int
  | 7 => .int
  | _ => .int
abbrev wsX50 : List Cond := u_ws RX5 TX5 9
theorem nmX5 : ∀ a, a < 9 → ∀ b, b < 9 → a ≠ b → (TX5 a).2.1 ≠ (TX5 b).2.1 := by decide +kernel
theorem tyX5_ok : ∀ k, k < 9 → parseFieldDescriptor (TX5 k).2.2.1 = some (tyX5 k) := by decide +kernel
abbrev cX5_init : ByteArray := prog_7_method_1_code
def yX5_init : MethodName := ⟨RX5, "<init>", "()V"⟩
abbrev cX5_copyFrom : ByteArray := prog_7_method_2_code
def yX5_copyFrom : MethodName := ⟨RX5, "copyFrom", "(LLetOff$Round;)V"⟩
abbrev cX5_hasGap : ByteArray := prog_7_method_3_code
def yX5_hasGap : MethodName := ⟨RX5, "hasGap", "(I)Z"⟩
abbrev cX5_closeGap : ByteArray := prog_7_method_4_code
def yX5_closeGap : MethodName := ⟨RX5, "closeGap", "(I)V"⟩
abbrev cX5_isFree : ByteArray := prog_7_method_5_code
def yX5_isFree : MethodName := ⟨RX5, "isFree", "(I)Z"⟩
abbrev cX5_comeOn : ByteArray := prog_7_method_6_code
def yX5_comeOn : MethodName := ⟨RX5, "comeOn", "(IIII)V"⟩
abbrev cX5_goOn : ByteArray := prog_7_method_7_code
def yX5_goOn : MethodName := ⟨RX5, "goOn", "(II)V"⟩
abbrev cX5_goOff : ByteArray := prog_7_method_8_code
def yX5_goOff : MethodName := ⟨RX5, "goOff", "(I)V"⟩
abbrev cX5_goOverGrass : ByteArray := prog_7_method_9_code
def yX5_goOverGrass : MethodName := ⟨RX5, "goOverGrass", "(I)V"⟩
abbrev cX5_carsOn : ByteArray := prog_7_method_10_code
def yX5_carsOn : MethodName := ⟨RX5, "carsOn", "()I"⟩
abbrev cX5_firstNotOn : ByteArray := prog_7_method_11_code
def yX5_firstNotOn : MethodName := ⟨RX5, "firstNotOn", "()I"⟩
abbrev cX5_allWaiting : ByteArray := prog_7_method_12_code
def yX5_allWaiting : MethodName := ⟨RX5, "allWaiting", "()I"⟩
abbrev cX5_face : ByteArray := prog_7_method_13_code
def yX5_face : MethodName := ⟨RX5, "face", "()J"⟩
def RX6 : String := "LetOff$RowSearch"
def TX6 : u_T := fun k => match k with
  | 0 => ("LetOff$RowSearch", "most", "I", false)
  | 1 => ("LetOff$RowSearch", "best", "[I", true)
  | 2 => ("LetOff$RowSearch", "tried", "[I", true)
  | _ => ("LetOff$RowSearch", "rounds", "[LLetOff$Round;", true)
def tyX6 : Nat → FieldType := fun k => match k with
  | 0 => .int
  | 1 => .array .int
  | 2 => .array .int
  | _ => .array (.object "LetOff$Round")
abbrev wsX60 : List Cond := u_ws RX6 TX6 4
theorem nmX6 : ∀ a, a < 4 → ∀ b, b < 4 → a ≠ b → (TX6 a).2.1 ≠ (TX6 b).2.1 := by decide +kernel
theorem tyX6_ok : ∀ k, k < 4 → parseFieldDescriptor (TX6 k).2.2.1 = some (tyX6 k) := by decide +kernel
abbrev cX6_init : ByteArray := prog_8_method_1_code
def yX6_init : MethodName := ⟨RX6, "<init>", "()V"⟩
abbrev cX6_search : ByteArray := prog_8_method_2_code
def yX6_search : MethodName := ⟨RX6, "search", "(LLetOff$Engine;LLetOff$Round;I)V"⟩
abbrev cX6_trySets : ByteArray := prog_8_method_3_code
def yX6_trySets : MethodName := ⟨RX6, "trySets", "(LLetOff$Engine;III)V"⟩
abbrev cX6_keepIfBest : ByteArray := prog_8_method_4_code
def yX6_keepIfBest : MethodName := ⟨RX6, "keepIfBest", "(I)V"⟩
def RX7 : String := "LetOff$Rule"
def TX7 : u_T := fun k => match k with
  | _ => ("LetOff$Rule", "codes", "[I", true)
def tyX7 : Nat → FieldType := fun k => match k with
  | _ => .array .int
abbrev wsX70 : List Cond := u_ws RX7 TX7 1
theorem nmX7 : ∀ a, a < 1 → ∀ b, b < 1 → a ≠ b → (TX7 a).2.1 ≠ (TX7 b).2.1 := by decide +kernel
theorem tyX7_ok : ∀ k, k < 1 → parseFieldDescriptor (TX7 k).2.2.1 = some (tyX7 k) := by decide +kernel
abbrev cX7_init : ByteArray := prog_9_method_1_code
def yX7_init : MethodName := ⟨RX7, "<init>", "([I)V"⟩
abbrev cX7_allows : ByteArray := prog_9_method_2_code
def yX7_allows : MethodName := ⟨RX7, "allows", "([J[J)Z"⟩
abbrev cX7_takesTwo : ByteArray := prog_9_method_3_code
def yX7_takesTwo : MethodName := ⟨RX7, "takesTwo", "(I)Z"⟩
abbrev cX7_join : ByteArray := prog_9_method_4_code
def yX7_join : MethodName := ⟨RX7, "join", "(IJJ)J"⟩
abbrev cX7_compared : ByteArray := prog_9_method_5_code
def yX7_compared : MethodName := ⟨RX7, "compared", "(IJJ)Z"⟩
def RX8 : String := "LetOff$RuleReader"
def TX8 : u_T := fun k => match k with
  | 0 => ("LetOff$RuleReader", "in", "LLetOff$Reader;", true)
  | 1 => ("LetOff$RuleReader", "codes", "[I", true)
  | 2 => ("LetOff$RuleReader", "size", "I", false)
  | _ => ("LetOff$RuleReader", "counted", "I", false)
def tyX8 : Nat → FieldType := fun k => match k with
  | 0 => .object "LetOff$Reader"
  | 1 => .array .int
  | 2 => .int
  | _ => .int
abbrev wsX80 : List Cond := u_ws RX8 TX8 4
theorem nmX8 : ∀ a, a < 4 → ∀ b, b < 4 → a ≠ b → (TX8 a).2.1 ≠ (TX8 b).2.1 := by decide +kernel
theorem tyX8_ok : ∀ k, k < 4 → parseFieldDescriptor (TX8 k).2.2.1 = some (tyX8 k) := by decide +kernel
abbrev cX8_init : ByteArray := prog_10_method_1_code
def yX8_init : MethodName := ⟨RX8, "<init>", "()V"⟩
abbrev cX8_read : ByteArray := prog_10_method_2_code
def yX8_read : MethodName := ⟨RX8, "read", "([BI)LLetOff$Rule;"⟩
abbrev cX8_put : ByteArray := prog_10_method_3_code
def yX8_put : MethodName := ⟨RX8, "put", "(I)V"⟩
abbrev cX8_putSign : ByteArray := prog_10_method_4_code
def yX8_putSign : MethodName := ⟨RX8, "putSign", "(I)V"⟩
abbrev cX8_countOne : ByteArray := prog_10_method_5_code
def yX8_countOne : MethodName := ⟨RX8, "countOne", "()V"⟩
abbrev cX8_readGo : ByteArray := prog_10_method_6_code
def yX8_readGo : MethodName := ⟨RX8, "readGo", "(I)V"⟩
abbrev cX8_readTest : ByteArray := prog_10_method_7_code
def yX8_readTest : MethodName := ⟨RX8, "readTest", "(I)V"⟩
abbrev cX8_readFact : ByteArray := prog_10_method_8_code
def yX8_readFact : MethodName := ⟨RX8, "readFact", "(I)V"⟩
abbrev cX8_readNested : ByteArray := prog_10_method_9_code
def yX8_readNested : MethodName := ⟨RX8, "readNested", "(IZ)V"⟩
abbrev cX8_readSum : ByteArray := prog_10_method_10_code
def yX8_readSum : MethodName := ⟨RX8, "readSum", "()V"⟩
abbrev cX8_readValue : ByteArray := prog_10_method_11_code
def yX8_readValue : MethodName := ⟨RX8, "readValue", "()V"⟩
def RX9 : String := "LetOff$ShowReader"
def TX9 : u_T := fun k => match k with
  | _ => ("LetOff$ShowReader", "in", "LLetOff$Reader;", true)
def tyX9 : Nat → FieldType := fun k => match k with
  | _ => .object "LetOff$Reader"
abbrev wsX90 : List Cond := u_ws RX9 TX9 1
theorem nmX9 : ∀ a, a < 1 → ∀ b, b < 1 → a ≠ b → (TX9 a).2.1 ≠ (TX9 b).2.1 := by decide +kernel
theorem tyX9_ok : ∀ k, k < 1 → parseFieldDescriptor (TX9 k).2.2.1 = some (tyX9 k) := by decide +kernel
abbrev cX9_init : ByteArray := prog_11_method_1_code
def yX9_init : MethodName := ⟨RX9, "<init>", "()V"⟩
abbrev cX9_read : ByteArray := prog_11_method_2_code
def yX9_read : MethodName := ⟨RX9, "read", "([BI)LLetOff$Plan;"⟩
abbrev cX9_readClause : ByteArray := prog_11_method_3_code
def yX9_readClause : MethodName := ⟨RX9, "readClause", "(LLetOff$Plan;I)V"⟩
abbrev cX9_readRoad : ByteArray := prog_11_method_4_code
def yX9_readRoad : MethodName := ⟨RX9, "readRoad", "(LLetOff$Plan;)V"⟩
abbrev cX9_readCar : ByteArray := prog_11_method_5_code
def yX9_readCar : MethodName := ⟨RX9, "readCar", "(LLetOff$Plan;)V"⟩
abbrev cX9_readGap : ByteArray := prog_11_method_6_code
def yX9_readGap : MethodName := ⟨RX9, "readGap", "(LLetOff$Plan;)V"⟩
def RX10 : String := "LetOff"
def TX10 : u_T := fun k => match k with
  | 0 => ("LetOff", "tape", "[B", true)
  | 1 => ("LetOff", "tapeLength", "I", false)
  | 2 => ("LetOff", "rules", "[LLetOff$Rule;", true)
  | 3 => ("LetOff", "ruleCount", "I", false)
  | 4 => ("LetOff", "plan", "LLetOff$Plan;", false)
  | 5 => ("LetOff", "now", "LLetOff$Round;", true)
  | 6 => ("LetOff", "inForce", "I", false)
  | 7 => ("LetOff", "x", "I", false)
  | 8 => ("LetOff", "notes", "LLetOff$Notes;", true)
  | 9 => ("LetOff", "images", "[LLetOff$Image;", true)
  | 10 => ("LetOff", "undos", "[LLetOff$Round;", true)
  | 11 => ("LetOff", "undoCount", "I", false)
  | 12 => ("LetOff", "undoNext", "I", false)
  | 13 => ("LetOff", "showReader", "LLetOff$ShowReader;", true)
  | 14 => ("LetOff", "ruleReader", "LLetOff$RuleReader;", true)
  | 15 => ("LetOff", "engine", "LLetOff$Engine;", true)
  | 16 => ("LetOff", "rowSearch", "LLetOff$RowSearch;", true)
  | 17 => ("LetOff", "trial", "LLetOff$Round;", true)
  | 18 => ("LetOff", "table", "[I", true)
  | _ => ("LetOff", "faces", "[J", true)
def tyX10 : Nat → FieldType := fun k => match k with
  | 0 => .array .byte
  | 1 => .int
  | 2 => .array (.object "LetOff$Rule")
  | 3 => .int
  | 4 => .object "LetOff$Plan"
  | 5 => .object "LetOff$Round"
  | 6 => .int
  | 7 => .int
  | 8 => .object "LetOff$Notes"
  | 9 => .array (.object "LetOff$Image")
  | 10 => .array (.object "LetOff$Round")
  | 11 => .int
  | 12 => .int
  | 13 => .object "LetOff$ShowReader"
  | 14 => .object "LetOff$RuleReader"
  | 15 => .object "LetOff$Engine"
  | 16 => .object "LetOff$RowSearch"
  | 17 => .object "LetOff$Round"
  | 18 => .array .int
  | _ => .array .long
abbrev wsX100 : List Cond := u_ws RX10 TX10 20
theorem nmX10 : ∀ a, a < 20 → ∀ b, b < 20 → a ≠ b → (TX10 a).2.1 ≠ (TX10 b).2.1 := by decide +kernel
theorem tyX10_ok : ∀ k, k < 20 → parseFieldDescriptor (TX10 k).2.2.1 = some (tyX10 k) := by decide +kernel
abbrev cX10_init : ByteArray := prog_1_method_1_code
def yX10_init : MethodName := ⟨RX10, "<init>", "()V"⟩
abbrev cX10_feed : ByteArray := prog_1_method_2_code
def yX10_feed : MethodName := ⟨RX10, "feed", "(IIIII)I"⟩
abbrev cX10_putBytes : ByteArray := prog_1_method_3_code
def yX10_putBytes : MethodName := ⟨RX10, "putBytes", "(I)V"⟩
abbrev cX10_end : ByteArray := prog_1_method_4_code
def yX10_end : MethodName := ⟨RX10, "end", "(I)I"⟩
abbrev cX10_show : ByteArray := prog_1_method_5_code
def yX10_show : MethodName := ⟨RX10, "show", "()I"⟩
abbrev cX10_rule : ByteArray := prog_1_method_6_code
def yX10_rule : MethodName := ⟨RX10, "rule", "()I"⟩
abbrev cX10_force : ByteArray := prog_1_method_7_code
def yX10_force : MethodName := ⟨RX10, "force", "(I)I"⟩
abbrev cX10_car : ByteArray := prog_1_method_8_code
def yX10_car : MethodName := ⟨RX10, "car", "(II)I"⟩
abbrev cX10_road : ByteArray := prog_1_method_9_code
def yX10_road : MethodName := ⟨RX10, "road", "(II)I"⟩
abbrev cX10_gapIn : ByteArray := prog_1_method_10_code
def yX10_gapIn : MethodName := ⟨RX10, "gapIn", "(I)I"⟩
abbrev cX10_count : ByteArray := prog_1_method_11_code
def yX10_count : MethodName := ⟨RX10, "count", "(I)I"⟩
abbrev cX10_isCar : ByteArray := prog_1_method_12_code
def yX10_isCar : MethodName := ⟨RX10, "isCar", "(I)Z"⟩
abbrev cX10_isOn : ByteArray := prog_1_method_13_code
def yX10_isOn : MethodName := ⟨RX10, "isOn", "(I)Z"⟩
abbrev cX10_isRoad : ByteArray := prog_1_method_14_code
def yX10_isRoad : MethodName := ⟨RX10, "isRoad", "(I)Z"⟩
abbrev cX10_isCell : ByteArray := prog_1_method_15_code
def yX10_isCell : MethodName := ⟨RX10, "isCell", "(I)Z"⟩
abbrev cX10_within : ByteArray := prog_1_method_16_code
def yX10_within : MethodName := ⟨RX10, "within", "(III)Z"⟩
abbrev cX10_step : ByteArray := prog_1_method_17_code
def yX10_step : MethodName := ⟨RX10, "step", "()I"⟩
abbrev cX10_pole : ByteArray := prog_1_method_18_code
def yX10_pole : MethodName := ⟨RX10, "pole", "(II)I"⟩
abbrev cX10_grass : ByteArray := prog_1_method_19_code
def yX10_grass : MethodName := ⟨RX10, "grass", "(I)I"⟩
abbrev cX10_fill : ByteArray := prog_1_method_20_code
def yX10_fill : MethodName := ⟨RX10, "fill", "(I)I"⟩
abbrev cX10_wish : ByteArray := prog_1_method_21_code
def yX10_wish : MethodName := ⟨RX10, "wish", "(II)I"⟩
abbrev cX10_undo : ByteArray := prog_1_method_22_code
def yX10_undo : MethodName := ⟨RX10, "undo", "()I"⟩
abbrev cX10_keepForUndo : ByteArray := prog_1_method_23_code
def yX10_keepForUndo : MethodName := ⟨RX10, "keepForUndo", "()V"⟩
abbrev cX10_setEngine : ByteArray := prog_1_method_24_code
def yX10_setEngine : MethodName := ⟨RX10, "setEngine", "(I)V"⟩
abbrev cX10_tryFromNow : ByteArray := prog_1_method_25_code
def yX10_tryFromNow : MethodName := ⟨RX10, "tryFromNow", "()LLetOff$Round;"⟩
abbrev cX10_stepOff : ByteArray := prog_1_method_26_code
def yX10_stepOff : MethodName := ⟨RX10, "stepOff", "(LLetOff$Round;II)I"⟩
abbrev cX10_goneIn : ByteArray := prog_1_method_27_code
def yX10_goneIn : MethodName := ⟨RX10, "goneIn", "(LLetOff$Round;I)I"⟩
abbrev cX10_ahead : ByteArray := prog_1_method_28_code
def yX10_ahead : MethodName := ⟨RX10, "ahead", "(III)I"⟩
abbrev cX10_lets : ByteArray := prog_1_method_29_code
def yX10_lets : MethodName := ⟨RX10, "lets", "(I)I"⟩
abbrev cX10_still : ByteArray := prog_1_method_30_code
def yX10_still : MethodName := ⟨RX10, "still", "()I"⟩
abbrev cX10_leastFuel : ByteArray := prog_1_method_31_code
def yX10_leastFuel : MethodName := ⟨RX10, "leastFuel", "(II)I"⟩
abbrev cX10_bestGrass : ByteArray := prog_1_method_32_code
def yX10_bestGrass : MethodName := ⟨RX10, "bestGrass", "(II)I"⟩
abbrev cX10_bestFill : ByteArray := prog_1_method_33_code
def yX10_bestFill : MethodName := ⟨RX10, "bestFill", "(II)I"⟩
abbrev cX10_closed : ByteArray := prog_1_method_34_code
def yX10_closed : MethodName := ⟨RX10, "closed", "(II)I"⟩
abbrev cX10_bestDeed : ByteArray := prog_1_method_35_code
def yX10_bestDeed : MethodName := ⟨RX10, "bestDeed", "(III)I"⟩
abbrev cX10_doDeed : ByteArray := prog_1_method_36_code
def yX10_doDeed : MethodName := ⟨RX10, "doDeed", "(LLetOff$Round;II)Z"⟩
abbrev cX10_row : ByteArray := prog_1_method_37_code
def yX10_row : MethodName := ⟨RX10, "row", "(II)I"⟩
abbrev cX10_longest : ByteArray := prog_1_method_38_code
def yX10_longest : MethodName := ⟨RX10, "longest", "(II)I"⟩
abbrev cX10_rests : ByteArray := prog_1_method_39_code
def yX10_rests : MethodName := ⟨RX10, "rests", "(IIII)I"⟩
abbrev cX10_gainAt : ByteArray := prog_1_method_40_code
def yX10_gainAt : MethodName := ⟨RX10, "gainAt", "(II)I"⟩
abbrev cX10_fillTable : ByteArray := prog_1_method_41_code
def yX10_fillTable : MethodName := ⟨RX10, "fillTable", "(III)V"⟩
abbrev cX10_gainBehind : ByteArray := prog_1_method_42_code
def yX10_gainBehind : MethodName := ⟨RX10, "gainBehind", "(IIII)I"⟩
abbrev cX10_isRest : ByteArray := prog_1_method_43_code
def yX10_isRest : MethodName := ⟨RX10, "isRest", "(II)Z"⟩
abbrev cX10_ring : ByteArray := prog_1_method_44_code
def yX10_ring : MethodName := ⟨RX10, "ring", "(I)I"⟩
abbrev cX10_litres : ByteArray := prog_1_method_45_code
def yX10_litres : MethodName := ⟨RX10, "litres", "(II)I"⟩
abbrev cX10_lack : ByteArray := prog_1_method_46_code
def yX10_lack : MethodName := ⟨RX10, "lack", "(I)I"⟩
abbrev cX10_note : ByteArray := prog_1_method_47_code
def yX10_note : MethodName := ⟨RX10, "note", "(III)I"⟩
abbrev cX10_tryFromBegin : ByteArray := prog_1_method_48_code
def yX10_tryFromBegin : MethodName := ⟨RX10, "tryFromBegin", "(I)LLetOff$Round;"⟩
abbrev cX10_fitsNotes : ByteArray := prog_1_method_49_code
def yX10_fitsNotes : MethodName := ⟨RX10, "fitsNotes", "(LLetOff$Round;)Z"⟩
abbrev cX10_wished : ByteArray := prog_1_method_50_code
def yX10_wished : MethodName := ⟨RX10, "wished", "(II)I"⟩
abbrev cX10_ruled : ByteArray := prog_1_method_51_code
def yX10_ruled : MethodName := ⟨RX10, "ruled", "(I)I"⟩
abbrev cX10_look : ByteArray := prog_1_method_52_code
def yX10_look : MethodName := ⟨RX10, "look", "(II)I"⟩
abbrev cX10_countCells : ByteArray := prog_1_method_53_code
def yX10_countCells : MethodName := ⟨RX10, "countCells", "(LLetOff$Round;)V"⟩
abbrev cX10_mostAlike : ByteArray := prog_1_method_54_code
def yX10_mostAlike : MethodName := ⟨RX10, "mostAlike", "(I)I"⟩
abbrev cX10_seed : ByteArray := prog_1_method_55_code
def yX10_seed : MethodName := ⟨RX10, "seed", "(I)I"⟩
abbrev cX10_shows : ByteArray := prog_1_method_56_code
def yX10_shows : MethodName := ⟨RX10, "shows", "(IIII)I"⟩
abbrev cX10_drawWaiting : ByteArray := prog_1_method_57_code
def yX10_drawWaiting : MethodName := ⟨RX10, "drawWaiting", "(LLetOff$Round;I)V"⟩
abbrev cX10_draw : ByteArray := prog_1_method_58_code
def yX10_draw : MethodName := ⟨RX10, "draw", "()I"⟩
abbrev cX10_image : ByteArray := prog_1_method_59_code
def yX10_image : MethodName := ⟨RX10, "image", "(I)I"⟩
abbrev cX10_back : ByteArray := prog_1_method_60_code
def yX10_back : MethodName := ⟨RX10, "back", "(I)I"⟩
def RX11 : String := "LetOffModel"
def TX11 : u_T := fun k => match k with
  | 0 => ("LetOffModel", "tape", "[B", true)
  | 1 => ("LetOffModel", "taped", "I", false)
  | 2 => ("LetOffModel", "rules", "I", false)
  | 3 => ("LetOffModel", "sign", "[I", true)
  | 4 => ("LetOffModel", "length", "[I", true)
  | 5 => ("LetOffModel", "clause", "[I", true)
  | 6 => ("LetOffModel", "clauses", "[I", true)
  | 7 => ("LetOffModel", "read", "[I", true)
  | 8 => ("LetOffModel", "next", "I", false)
  | 9 => ("LetOffModel", "wrong", "I", false)
  | 10 => ("LetOffModel", "number", "I", false)
  | 11 => ("LetOffModel", "text", "I", false)
  | 12 => ("LetOffModel", "made", "I", false)
  | 13 => ("LetOffModel", "deep", "I", false)
  | 14 => ("LetOffModel", "lines", "I", false)
  | 15 => ("LetOffModel", "open", "[I", true)
  | 16 => ("LetOffModel", "opened", "I", false)
  | 17 => ("LetOffModel", "stack", "[J", true)
  | 18 => ("LetOffModel", "top", "I", false)
  | 19 => ("LetOffModel", "word", "[J", true)
  | 20 => ("LetOffModel", "said", "[I", true)
  | 21 => ("LetOffModel", "force", "I", false)
  | 22 => ("LetOffModel", "x", "I", false)
  | 23 => ("LetOffModel", "closedRoad", "I", false)
  | 24 => ("LetOffModel", "planned", "I", false)
  | 25 => ("LetOffModel", "isMoved", "Z", false)
  | 26 => ("LetOffModel", "wasSaid", "[I", true)
  | 27 => ("LetOffModel", "undone", "I", false)
  | 28 => ("LetOffModel", "kept", "[I", true)
  | 29 => ("LetOffModel", "bestOne", "I", false)
  | 30 => ("LetOffModel", "bestMany", "I", false)
  | 31 => ("LetOffModel", "hasBy", "[I", true)
  | 32 => ("LetOffModel", "whereThen", "[I", true)
  | 33 => ("LetOffModel", "isFit", "[Z", true)
  | 34 => ("LetOffModel", "cellThen", "[I", true)
  | 35 => ("LetOffModel", "drawX", "J", false)
  | 36 => ("LetOffModel", "images", "[I", true)
  | 37 => ("LetOffModel", "imageForce", "[I", true)
  | 38 => ("LetOffModel", "imageX", "[I", true)
  | _ => ("LetOffModel", "isMade", "[Z", true)
def tyX11 : Nat → FieldType := fun k => match k with
  | 0 => .array .byte
  | 1 => .int
  | 2 => .int
  | 3 => .array .int
  | 4 => .array .int
  | 5 => .array .int
  | 6 => .array .int
  | 7 => .array .int
  | 8 => .int
  | 9 => .int
  | 10 => .int
  | 11 => .int
  | 12 => .int
  | 13 => .int
  | 14 => .int
  | 15 => .array .int
  | 16 => .int
  | 17 => .array .long
  | 18 => .int
  | 19 => .array .long
  | 20 => .array .int
  | 21 => .int
  | 22 => .int
  | 23 => .int
  | 24 => .int
  | 25 => .boolean
  | 26 => .array .int
  | 27 => .int
  | 28 => .array .int
  | 29 => .int
  | 30 => .int
  | 31 => .array .int
  | 32 => .array .int
  | 33 => .array .boolean
  | 34 => .array .int
  | 35 => .long
  | 36 => .array .int
  | 37 => .array .int
  | 38 => .array .int
  | _ => .array .boolean
abbrev wsX110 : List Cond := u_ws RX11 TX11 40
theorem nmX11 : ∀ a, a < 40 → ∀ b, b < 40 → a ≠ b → (TX11 a).2.1 ≠ (TX11 b).2.1 := by decide +kernel
theorem tyX11_ok : ∀ k, k < 40 → parseFieldDescriptor (TX11 k).2.2.1 = some (tyX11 k) := by decide +kernel
abbrev cX11_init : ByteArray := prog_13_method_1_code
def yX11_init : MethodName := ⟨RX11, "<init>", "()V"⟩
abbrev cX11_in : ByteArray := prog_13_method_2_code
def yX11_in : MethodName := ⟨RX11, "in", "(JJJ)Z"⟩
abbrev cX11_isOf : ByteArray := prog_13_method_3_code
def yX11_isOf : MethodName := ⟨RX11, "isOf", "(II)Z"⟩
abbrev cX11_four : ByteArray := prog_13_method_4_code
def yX11_four : MethodName := ⟨RX11, "four", "(I)V"⟩
abbrev cX11_feed : ByteArray := prog_13_method_5_code
def yX11_feed : MethodName := ⟨RX11, "feed", "(IIIII)I"⟩
abbrev cX11_end : ByteArray := prog_13_method_6_code
def yX11_end : MethodName := ⟨RX11, "end", "(I)I"⟩
abbrev cX11_fails : ByteArray := prog_13_method_7_code
def yX11_fails : MethodName := ⟨RX11, "fails", "(II)Z"⟩
abbrev cX11_see : ByteArray := prog_13_method_8_code
def yX11_see : MethodName := ⟨RX11, "see", "()I"⟩
abbrev cX11_isDigit : ByteArray := prog_13_method_9_code
def yX11_isDigit : MethodName := ⟨RX11, "isDigit", "(I)Z"⟩
abbrev cX11_isLetter : ByteArray := prog_13_method_10_code
def yX11_isLetter : MethodName := ⟨RX11, "isLetter", "(I)Z"⟩
abbrev cX11_isWord : ByteArray := prog_13_method_11_code
def yX11_isWord : MethodName := ⟨RX11, "isWord", "(J)Z"⟩
abbrev cX11_passWord : ByteArray := prog_13_method_12_code
def yX11_passWord : MethodName := ⟨RX11, "passWord", "()V"⟩
abbrev cX11_takesWord : ByteArray := prog_13_method_13_code
def yX11_takesWord : MethodName := ⟨RX11, "takesWord", "(J)Z"⟩
abbrev cX11_numberHere : ByteArray := prog_13_method_14_code
def yX11_numberHere : MethodName := ⟨RX11, "numberHere", "(II)Z"⟩
abbrev cX11_wordHere : ByteArray := prog_13_method_15_code
def yX11_wordHere : MethodName := ⟨RX11, "wordHere", "()I"⟩
abbrev cX11_puts : ByteArray := prog_13_method_16_code
def yX11_puts : MethodName := ⟨RX11, "puts", "(II)V"⟩
abbrev cX11_makes : ByteArray := prog_13_method_17_code
def yX11_makes : MethodName := ⟨RX11, "makes", "(I)Z"⟩
abbrev cX11_opens : ByteArray := prog_13_method_18_code
def yX11_opens : MethodName := ⟨RX11, "opens", "(I)Z"⟩
abbrev cX11_strength : ByteArray := prog_13_method_19_code
def yX11_strength : MethodName := ⟨RX11, "strength", "(I)I"⟩
abbrev cX11_layDown : ByteArray := prog_13_method_20_code
def yX11_layDown : MethodName := ⟨RX11, "layDown", "(I)V"⟩
abbrev cX11_value : ByteArray := prog_13_method_21_code
def yX11_value : MethodName := ⟨RX11, "value", "()Z"⟩
abbrev cX11_term : ByteArray := prog_13_method_22_code
def yX11_term : MethodName := ⟨RX11, "term", "()Z"⟩
abbrev cX11_sum : ByteArray := prog_13_method_23_code
def yX11_sum : MethodName := ⟨RX11, "sum", "()Z"⟩
abbrev cX11_compare : ByteArray := prog_13_method_24_code
def yX11_compare : MethodName := ⟨RX11, "compare", "()Z"⟩
abbrev cX11_fact : ByteArray := prog_13_method_25_code
def yX11_fact : MethodName := ⟨RX11, "fact", "()Z"⟩
abbrev cX11_isInside : ByteArray := prog_13_method_26_code
def yX11_isInside : MethodName := ⟨RX11, "isInside", "()Z"⟩
abbrev cX11_closes : ByteArray := prog_13_method_27_code
def yX11_closes : MethodName := ⟨RX11, "closes", "()V"⟩
abbrev cX11_tested : ByteArray := prog_13_method_28_code
def yX11_tested : MethodName := ⟨RX11, "tested", "()Z"⟩
abbrev cX11_isGoHere : ByteArray := prog_13_method_29_code
def yX11_isGoHere : MethodName := ⟨RX11, "isGoHere", "()Z"⟩
abbrev cX11_cellHere : ByteArray := prog_13_method_30_code
def yX11_cellHere : MethodName := ⟨RX11, "cellHere", "(III)Z"⟩
abbrev cX11_isShowHere : ByteArray := prog_13_method_31_code
def yX11_isShowHere : MethodName := ⟨RX11, "isShowHere", "(I)Z"⟩
abbrev cX11_isRoadIn : ByteArray := prog_13_method_32_code
def yX11_isRoadIn : MethodName := ⟨RX11, "isRoadIn", "(I)Z"⟩
abbrev cX11_isCarIn : ByteArray := prog_13_method_33_code
def yX11_isCarIn : MethodName := ⟨RX11, "isCarIn", "(I)Z"⟩
abbrev cX11_isRoadHere : ByteArray := prog_13_method_34_code
def yX11_isRoadHere : MethodName := ⟨RX11, "isRoadHere", "(I)Z"⟩
abbrev cX11_isCarHere : ByteArray := prog_13_method_35_code
def yX11_isCarHere : MethodName := ⟨RX11, "isCarHere", "(I)Z"⟩
abbrev cX11_isGapHere : ByteArray := prog_13_method_36_code
def yX11_isGapHere : MethodName := ⟨RX11, "isGapHere", "()Z"⟩
abbrev cX11_showLineHere : ByteArray := prog_13_method_37_code
def yX11_showLineHere : MethodName := ⟨RX11, "showLineHere", "(I)Z"⟩
abbrev cX11_isShowWord : ByteArray := prog_13_method_38_code
def yX11_isShowWord : MethodName := ⟨RX11, "isShowWord", "()Z"⟩
abbrev cX11_clauseHere : ByteArray := prog_13_method_39_code
def yX11_clauseHere : MethodName := ⟨RX11, "clauseHere", "()Z"⟩
abbrev cX11_readsAll : ByteArray := prog_13_method_40_code
def yX11_readsAll : MethodName := ⟨RX11, "readsAll", "()Z"⟩
abbrev cX11_rule : ByteArray := prog_13_method_41_code
def yX11_rule : MethodName := ⟨RX11, "rule", "()I"⟩
abbrev cX11_show : ByteArray := prog_13_method_42_code
def yX11_show : MethodName := ⟨RX11, "show", "()I"⟩
abbrev cX11_isRule : ByteArray := prog_13_method_43_code
def yX11_isRule : MethodName := ⟨RX11, "isRule", "(I)Z"⟩
abbrev cX11_push : ByteArray := prog_13_method_44_code
def yX11_push : MethodName := ⟨RX11, "push", "(J)V"⟩
abbrev cX11_pop : ByteArray := prog_13_method_45_code
def yX11_pop : MethodName := ⟨RX11, "pop", "()J"⟩
abbrev cX11_one : ByteArray := prog_13_method_46_code
def yX11_one : MethodName := ⟨RX11, "one", "(IJJ)J"⟩
abbrev cX11_reckons : ByteArray := prog_13_method_47_code
def yX11_reckons : MethodName := ⟨RX11, "reckons", "(III)J"⟩
abbrev cX11_isShow : ByteArray := prog_13_method_48_code
def yX11_isShow : MethodName := ⟨RX11, "isShow", "()Z"⟩
abbrev cX11_isCell : ByteArray := prog_13_method_49_code
def yX11_isCell : MethodName := ⟨RX11, "isCell", "(I)Z"⟩
abbrev cX11_isRoad : ByteArray := prog_13_method_50_code
def yX11_isRoad : MethodName := ⟨RX11, "isRoad", "(I)Z"⟩
abbrev cX11_isCar : ByteArray := prog_13_method_51_code
def yX11_isCar : MethodName := ⟨RX11, "isCar", "(I)Z"⟩
abbrev cX11_isOn : ByteArray := prog_13_method_52_code
def yX11_isOn : MethodName := ⟨RX11, "isOn", "(I)Z"⟩
abbrev cX11_isCarOn : ByteArray := prog_13_method_53_code
def yX11_isCarOn : MethodName := ⟨RX11, "isCarOn", "(I)Z"⟩
abbrev cX11_cellOf : ByteArray := prog_13_method_54_code
def yX11_cellOf : MethodName := ⟨RX11, "cellOf", "(I)I"⟩
abbrev cX11_roadOf : ByteArray := prog_13_method_55_code
def yX11_roadOf : MethodName := ⟨RX11, "roadOf", "(I)I"⟩
abbrev cX11_fuelOf : ByteArray := prog_13_method_56_code
def yX11_fuelOf : MethodName := ⟨RX11, "fuelOf", "(I)I"⟩
abbrev cX11_onesOn : ByteArray := prog_13_method_57_code
def yX11_onesOn : MethodName := ⟨RX11, "onesOn", "()I"⟩
abbrev cX11_manyOn : ByteArray := prog_13_method_58_code
def yX11_manyOn : MethodName := ⟨RX11, "manyOn", "()I"⟩
abbrev cX11_gaps : ByteArray := prog_13_method_59_code
def yX11_gaps : MethodName := ⟨RX11, "gaps", "()I"⟩
abbrev cX11_waitAll : ByteArray := prog_13_method_60_code
def yX11_waitAll : MethodName := ⟨RX11, "waitAll", "()I"⟩
abbrev cX11_carIn : ByteArray := prog_13_method_61_code
def yX11_carIn : MethodName := ⟨RX11, "carIn", "(I)I"⟩
abbrev cX11_isFree : ByteArray := prog_13_method_62_code
def yX11_isFree : MethodName := ⟨RX11, "isFree", "(I)Z"⟩
abbrev cX11_stands : ByteArray := prog_13_method_63_code
def yX11_stands : MethodName := ⟨RX11, "stands", "(IIIII)V"⟩
abbrev cX11_leaves : ByteArray := prog_13_method_64_code
def yX11_leaves : MethodName := ⟨RX11, "leaves", "(I)V"⟩
abbrev cX11_begins : ByteArray := prog_13_method_65_code
def yX11_begins : MethodName := ⟨RX11, "begins", "()V"⟩
abbrev cX11_force : ByteArray := prog_13_method_66_code
def yX11_force : MethodName := ⟨RX11, "force", "(I)I"⟩
abbrev cX11_car : ByteArray := prog_13_method_67_code
def yX11_car : MethodName := ⟨RX11, "car", "(II)I"⟩
abbrev cX11_road : ByteArray := prog_13_method_68_code
def yX11_road : MethodName := ⟨RX11, "road", "(II)I"⟩
abbrev cX11_gapIn : ByteArray := prog_13_method_69_code
def yX11_gapIn : MethodName := ⟨RX11, "gapIn", "(I)I"⟩
abbrev cX11_summedBy : ByteArray := prog_13_method_70_code
def yX11_summedBy : MethodName := ⟨RX11, "summedBy", "(I)J"⟩
abbrev cX11_behindOf : ByteArray := prog_13_method_71_code
def yX11_behindOf : MethodName := ⟨RX11, "behindOf", "(I)I"⟩
abbrev cX11_isLetOff : ByteArray := prog_13_method_72_code
def yX11_isLetOff : MethodName := ⟨RX11, "isLetOff", "(I)Z"⟩
abbrev cX11_drives : ByteArray := prog_13_method_73_code
def yX11_drives : MethodName := ⟨RX11, "drives", "(I)Z"⟩
abbrev cX11_comesOn : ByteArray := prog_13_method_74_code
def yX11_comesOn : MethodName := ⟨RX11, "comesOn", "(I)V"⟩
abbrev cX11_waits : ByteArray := prog_13_method_75_code
def yX11_waits : MethodName := ⟨RX11, "waits", "(I)V"⟩
abbrev cX11_passes : ByteArray := prog_13_method_76_code
def yX11_passes : MethodName := ⟨RX11, "passes", "()I"⟩
abbrev cX11_passesAll : ByteArray := prog_13_method_77_code
def yX11_passesAll : MethodName := ⟨RX11, "passesAll", "(I)V"⟩
abbrev cX11_keepsAct : ByteArray := prog_13_method_78_code
def yX11_keepsAct : MethodName := ⟨RX11, "keepsAct", "()V"⟩
abbrev cX11_undo : ByteArray := prog_13_method_79_code
def yX11_undo : MethodName := ⟨RX11, "undo", "()I"⟩
abbrev cX11_step : ByteArray := prog_13_method_80_code
def yX11_step : MethodName := ⟨RX11, "step", "()I"⟩
abbrev cX11_pole : ByteArray := prog_13_method_81_code
def yX11_pole : MethodName := ⟨RX11, "pole", "(II)I"⟩
abbrev cX11_crosses : ByteArray := prog_13_method_82_code
def yX11_crosses : MethodName := ⟨RX11, "crosses", "(I)V"⟩
abbrev cX11_grass : ByteArray := prog_13_method_83_code
def yX11_grass : MethodName := ⟨RX11, "grass", "(I)I"⟩
abbrev cX11_fill : ByteArray := prog_13_method_84_code
def yX11_fill : MethodName := ⟨RX11, "fill", "(I)I"⟩
abbrev cX11_wish : ByteArray := prog_13_method_85_code
def yX11_wish : MethodName := ⟨RX11, "wish", "(II)I"⟩
abbrev cX11_keeps : ByteArray := prog_13_method_86_code
def yX11_keeps : MethodName := ⟨RX11, "keeps", "()V"⟩
abbrev cX11_laysBack : ByteArray := prog_13_method_87_code
def yX11_laysBack : MethodName := ⟨RX11, "laysBack", "()V"⟩
abbrev cX11_ahead : ByteArray := prog_13_method_88_code
def yX11_ahead : MethodName := ⟨RX11, "ahead", "(III)I"⟩
abbrev cX11_lets : ByteArray := prog_13_method_89_code
def yX11_lets : MethodName := ⟨RX11, "lets", "(I)I"⟩
abbrev cX11_still : ByteArray := prog_13_method_90_code
def yX11_still : MethodName := ⟨RX11, "still", "()I"⟩
abbrev cX11_offIn : ByteArray := prog_13_method_91_code
def yX11_offIn : MethodName := ⟨RX11, "offIn", "(II)I"⟩
abbrev cX11_leastFuel : ByteArray := prog_13_method_92_code
def yX11_leastFuel : MethodName := ⟨RX11, "leastFuel", "(II)I"⟩
abbrev cX11_offAllIn : ByteArray := prog_13_method_93_code
def yX11_offAllIn : MethodName := ⟨RX11, "offAllIn", "(I)I"⟩
abbrev cX11_weighs : ByteArray := prog_13_method_94_code
def yX11_weighs : MethodName := ⟨RX11, "weighs", "(II)V"⟩
abbrev cX11_bestGrass : ByteArray := prog_13_method_95_code
def yX11_bestGrass : MethodName := ⟨RX11, "bestGrass", "(II)I"⟩
abbrev cX11_bestFill : ByteArray := prog_13_method_96_code
def yX11_bestFill : MethodName := ⟨RX11, "bestFill", "(II)I"⟩
abbrev cX11_closed : ByteArray := prog_13_method_97_code
def yX11_closed : MethodName := ⟨RX11, "closed", "(II)I"⟩
abbrev cX11_offByRow : ByteArray := prog_13_method_98_code
def yX11_offByRow : MethodName := ⟨RX11, "offByRow", "(II)I"⟩
abbrev cX11_row : ByteArray := prog_13_method_99_code
def yX11_row : MethodName := ⟨RX11, "row", "(II)I"⟩
abbrev cX11_longest : ByteArray := prog_13_method_100_code
def yX11_longest : MethodName := ⟨RX11, "longest", "(II)I"⟩
abbrev cX11_isRest : ByteArray := prog_13_method_101_code
def yX11_isRest : MethodName := ⟨RX11, "isRest", "(II)Z"⟩
abbrev cX11_fillsRest : ByteArray := prog_13_method_102_code
def yX11_fillsRest : MethodName := ⟨RX11, "fillsRest", "(IIII)V"⟩
abbrev cX11_isTwo : ByteArray := prog_13_method_103_code
def yX11_isTwo : MethodName := ⟨RX11, "isTwo", "(I)Z"⟩
abbrev cX11_rests : ByteArray := prog_13_method_104_code
def yX11_rests : MethodName := ⟨RX11, "rests", "(IIII)I"⟩
abbrev cX11_areAlike : ByteArray := prog_13_method_105_code
def yX11_areAlike : MethodName := ⟨RX11, "areAlike", "(II)Z"⟩
abbrev cX11_ring : ByteArray := prog_13_method_106_code
def yX11_ring : MethodName := ⟨RX11, "ring", "(I)I"⟩
abbrev cX11_shortOf : ByteArray := prog_13_method_107_code
def yX11_shortOf : MethodName := ⟨RX11, "shortOf", "(I)I"⟩
abbrev cX11_litres : ByteArray := prog_13_method_108_code
def yX11_litres : MethodName := ⟨RX11, "litres", "(II)I"⟩
abbrev cX11_note : ByteArray := prog_13_method_109_code
def yX11_note : MethodName := ⟨RX11, "note", "(III)I"⟩
abbrev cX11_cellOn : ByteArray := prog_13_method_110_code
def yX11_cellOn : MethodName := ⟨RX11, "cellOn", "(I)I"⟩
abbrev cX11_areNotesSo : ByteArray := prog_13_method_111_code
def yX11_areNotesSo : MethodName := ⟨RX11, "areNotesSo", "(I)Z"⟩
abbrev cX11_areAllSo : ByteArray := prog_13_method_112_code
def yX11_areAllSo : MethodName := ⟨RX11, "areAllSo", "(II)Z"⟩
abbrev cX11_wished : ByteArray := prog_13_method_113_code
def yX11_wished : MethodName := ⟨RX11, "wished", "(II)I"⟩
abbrev cX11_fillsFits : ByteArray := prog_13_method_114_code
def yX11_fillsFits : MethodName := ⟨RX11, "fillsFits", "(I)V"⟩
abbrev cX11_ruled : ByteArray := prog_13_method_115_code
def yX11_ruled : MethodName := ⟨RX11, "ruled", "(I)I"⟩
abbrev cX11_alikeAt : ByteArray := prog_13_method_116_code
def yX11_alikeAt : MethodName := ⟨RX11, "alikeAt", "(I)I"⟩
abbrev cX11_look : ByteArray := prog_13_method_117_code
def yX11_look : MethodName := ⟨RX11, "look", "(II)I"⟩
abbrev cX11_seed : ByteArray := prog_13_method_118_code
def yX11_seed : MethodName := ⟨RX11, "seed", "(I)I"⟩
abbrev cX11_draw : ByteArray := prog_13_method_119_code
def yX11_draw : MethodName := ⟨RX11, "draw", "(I)I"⟩
abbrev cX11_shows : ByteArray := prog_13_method_120_code
def yX11_shows : MethodName := ⟨RX11, "shows", "(IIII)I"⟩
abbrev cX11_count : ByteArray := prog_13_method_121_code
def yX11_count : MethodName := ⟨RX11, "count", "(I)I"⟩
abbrev cX11_image : ByteArray := prog_13_method_122_code
def yX11_image : MethodName := ⟨RX11, "image", "(I)I"⟩
abbrev cX11_back : ByteArray := prog_13_method_123_code
def yX11_back : MethodName := ⟨RX11, "back", "(I)I"⟩
def RJx145de : String := "java/io/Serializable"
def TJx145de : u_T := fun k => match k with
  | _ => ("", "", "", false)
def tyJx145de : Nat → FieldType := fun k => match k with
  | _ => .int
abbrev wsJx145de0 : List Cond := u_ws RJx145de TJx145de 0
theorem nmJx145de : ∀ a, a < 0 → ∀ b, b < 0 → a ≠ b → (TJx145de a).2.1 ≠ (TJx145de b).2.1 := by decide +kernel
theorem tyJx145de_ok : ∀ k, k < 0 → parseFieldDescriptor (TJx145de k).2.2.1 = some (tyJx145de k) := by decide +kernel
def RJx9f9b0 : String := "java/lang/CharSequence"
def TJx9f9b0 : u_T := fun k => match k with
  | _ => ("", "", "", false)
def tyJx9f9b0 : Nat → FieldType := fun k => match k with
  | _ => .int
abbrev wsJx9f9b00 : List Cond := u_ws RJx9f9b0 TJx9f9b0 0
theorem nmJx9f9b0 : ∀ a, a < 0 → ∀ b, b < 0 → a ≠ b → (TJx9f9b0 a).2.1 ≠ (TJx9f9b0 b).2.1 := by decide +kernel
theorem tyJx9f9b0_ok : ∀ k, k < 0 → parseFieldDescriptor (TJx9f9b0 k).2.2.1 = some (tyJx9f9b0 k) := by decide +kernel
def RJx8e188 : String := "java/lang/Cloneable"
def TJx8e188 : u_T := fun k => match k with
  | _ => ("", "", "", false)
def tyJx8e188 : Nat → FieldType := fun k => match k with
  | _ => .int
abbrev wsJx8e1880 : List Cond := u_ws RJx8e188 TJx8e188 0
theorem nmJx8e188 : ∀ a, a < 0 → ∀ b, b < 0 → a ≠ b → (TJx8e188 a).2.1 ≠ (TJx8e188 b).2.1 := by decide +kernel
theorem tyJx8e188_ok : ∀ k, k < 0 → parseFieldDescriptor (TJx8e188 k).2.2.1 = some (tyJx8e188 k) := by decide +kernel
def RJxb160c : String := "java/lang/Comparable"
def TJxb160c : u_T := fun k => match k with
  | _ => ("", "", "", false)
def tyJxb160c : Nat → FieldType := fun k => match k with
  | _ => .int
abbrev wsJxb160c0 : List Cond := u_ws RJxb160c TJxb160c 0
theorem nmJxb160c : ∀ a, a < 0 → ∀ b, b < 0 → a ≠ b → (TJxb160c a).2.1 ≠ (TJxb160c b).2.1 := by decide +kernel
theorem tyJxb160c_ok : ∀ k, k < 0 → parseFieldDescriptor (TJxb160c k).2.2.1 = some (tyJxb160c k) := by decide +kernel
def RJ6 : String := "java/lang/Integer"
def TJ6 : u_T := fun k => match k with
  | _ => ("", "", "", false)
def tyJ6 : Nat → FieldType := fun k => match k with
  | _ => .int
abbrev wsJ60 : List Cond := u_ws RJ6 TJ6 0
theorem nmJ6 : ∀ a, a < 0 → ∀ b, b < 0 → a ≠ b → (TJ6 a).2.1 ≠ (TJ6 b).2.1 := by decide +kernel
theorem tyJ6_ok : ∀ k, k < 0 → parseFieldDescriptor (TJ6 k).2.2.1 = some (tyJ6 k) := by decide +kernel
abbrev cJ6_bitCount_0f7a4 : ByteArray := prog_15_method_49_code
def yJ6_bitCount_0f7a4 : MethodName := ⟨RJ6, "bitCount", "(I)I"⟩
def RJ9 : String := "java/lang/Math"
def TJ9 : u_T := fun k => match k with
  | _ => ("", "", "", false)
def tyJ9 : Nat → FieldType := fun k => match k with
  | _ => .int
abbrev wsJ90 : List Cond := u_ws RJ9 TJ9 0
theorem nmJ9 : ∀ a, a < 0 → ∀ b, b < 0 → a ≠ b → (TJ9 a).2.1 ≠ (TJ9 b).2.1 := by decide +kernel
theorem tyJ9_ok : ∀ k, k < 0 → parseFieldDescriptor (TJ9 k).2.2.1 = some (tyJ9 k) := by decide +kernel
abbrev cJ9_floorMod_7cf53 : ByteArray := prog_16_method_50_code
def yJ9_floorMod_7cf53 : MethodName := ⟨RJ9, "floorMod", "(II)I"⟩
abbrev cJ9_max_7cf53 : ByteArray := prog_16_method_65_code
def yJ9_max_7cf53 : MethodName := ⟨RJ9, "max", "(II)I"⟩
abbrev cJ9_min_7cf53 : ByteArray := prog_16_method_69_code
def yJ9_min_7cf53 : MethodName := ⟨RJ9, "min", "(II)I"⟩
def RJ0 : String := "java/lang/String"
def TJ0 : u_T := fun k => match k with
  | _ => ("", "", "", false)
def tyJ0 : Nat → FieldType := fun k => match k with
  | _ => .int
abbrev wsJ00 : List Cond := u_ws RJ0 TJ0 0
theorem nmJ0 : ∀ a, a < 0 → ∀ b, b < 0 → a ≠ b → (TJ0 a).2.1 ≠ (TJ0 b).2.1 := by decide +kernel
theorem tyJ0_ok : ∀ k, k < 0 → parseFieldDescriptor (TJ0 k).2.2.1 = some (tyJ0 k) := by decide +kernel
abbrev cJ0_length_8abf5 : ByteArray := prog_17_method_54_code
def yJ0_length_8abf5 : MethodName := ⟨RJ0, "length", "()I"⟩
abbrev cJ0_charAt_5068e : ByteArray := prog_17_method_56_code
def yJ0_charAt_5068e : MethodName := ⟨RJ0, "charAt", "(I)C"⟩
abbrev cJ0_coder_7d493 : ByteArray := prog_17_method_152_code
def yJ0_coder_7d493 : MethodName := ⟨RJ0, "coder", "()B"⟩
abbrev cJ0_isLatin1_aae02 : ByteArray := prog_17_method_154_code
def yJ0_isLatin1_aae02 : MethodName := ⟨RJ0, "isLatin1", "()Z"⟩
abbrev cJ0_checkIndex_df160 : ByteArray := prog_17_method_155_code
def yJ0_checkIndex_df160 : MethodName := ⟨RJ0, "checkIndex", "(II)V"⟩
def RJ1 : String := "java/lang/StringLatin1"
def TJ1 : u_T := fun k => match k with
  | _ => ("", "", "", false)
def tyJ1 : Nat → FieldType := fun k => match k with
  | _ => .int
abbrev wsJ10 : List Cond := u_ws RJ1 TJ1 0
theorem nmJ1 : ∀ a, a < 0 → ∀ b, b < 0 → a ≠ b → (TJ1 a).2.1 ≠ (TJ1 b).2.1 := by decide +kernel
theorem tyJ1_ok : ∀ k, k < 0 → parseFieldDescriptor (TJ1 k).2.2.1 = some (tyJ1 k) := by decide +kernel
abbrev cJ1_charAt_3b067 : ByteArray := prog_18_method_2_code
def yJ1_charAt_3b067 : MethodName := ⟨RJ1, "charAt", "([BI)C"⟩
def RJ2 : String := "java/lang/StringUTF16"
def TJ2 : u_T := fun k => match k with
  | _ => ("", "", "", false)
def tyJ2 : Nat → FieldType := fun k => match k with
  | _ => .int
abbrev wsJ20 : List Cond := u_ws RJ2 TJ2 0
theorem nmJ2 : ∀ a, a < 0 → ∀ b, b < 0 → a ≠ b → (TJ2 a).2.1 ≠ (TJ2 b).2.1 := by decide +kernel
theorem tyJ2_ok : ∀ k, k < 0 → parseFieldDescriptor (TJ2 k).2.2.1 = some (tyJ2 k) := by decide +kernel
abbrev cJ2_getChar_3b067 : ByteArray := prog_19_method_5_code
def yJ2_getChar_3b067 : MethodName := ⟨RJ2, "getChar", "([BI)C"⟩
abbrev cJ2_length_9d52b : ByteArray := prog_19_method_6_code
def yJ2_length_9d52b : MethodName := ⟨RJ2, "length", "([B)I"⟩
abbrev cJ2_charAt_3b067 : ByteArray := prog_19_method_83_code
def yJ2_charAt_3b067 : MethodName := ⟨RJ2, "charAt", "([BI)C"⟩
abbrev cJ2_checkIndex_2214a : ByteArray := prog_19_method_91_code
def yJ2_checkIndex_2214a : MethodName := ⟨RJ2, "checkIndex", "(I[B)V"⟩
def RJ10 : String := "java/lang/System"
def TJ10 : u_T := fun k => match k with
  | _ => ("", "", "", false)
def tyJ10 : Nat → FieldType := fun k => match k with
  | _ => .int
abbrev wsJ100 : List Cond := u_ws RJ10 TJ10 0
theorem nmJ10 : ∀ a, a < 0 → ∀ b, b < 0 → a ≠ b → (TJ10 a).2.1 ≠ (TJ10 b).2.1 := by decide +kernel
theorem tyJ10_ok : ∀ k, k < 0 → parseFieldDescriptor (TJ10 k).2.2.1 = some (tyJ10 k) := by decide +kernel
def RJxfd54e : String := "java/lang/constant/Constable"
def TJxfd54e : u_T := fun k => match k with
  | _ => ("", "", "", false)
def tyJxfd54e : Nat → FieldType := fun k => match k with
  | _ => .int
abbrev wsJxfd54e0 : List Cond := u_ws RJxfd54e TJxfd54e 0
theorem nmJxfd54e : ∀ a, a < 0 → ∀ b, b < 0 → a ≠ b → (TJxfd54e a).2.1 ≠ (TJxfd54e b).2.1 := by decide +kernel
theorem tyJxfd54e_ok : ∀ k, k < 0 → parseFieldDescriptor (TJxfd54e k).2.2.1 = some (tyJxfd54e k) := by decide +kernel
def RJx3cf43 : String := "java/lang/constant/ConstantDesc"
def TJx3cf43 : u_T := fun k => match k with
  | _ => ("", "", "", false)
def tyJx3cf43 : Nat → FieldType := fun k => match k with
  | _ => .int
abbrev wsJx3cf430 : List Cond := u_ws RJx3cf43 TJx3cf43 0
theorem nmJx3cf43 : ∀ a, a < 0 → ∀ b, b < 0 → a ≠ b → (TJx3cf43 a).2.1 ≠ (TJx3cf43 b).2.1 := by decide +kernel
theorem tyJx3cf43_ok : ∀ k, k < 0 → parseFieldDescriptor (TJx3cf43 k).2.2.1 = some (tyJx3cf43 k) := by decide +kernel
def RJ7 : String := "java/util/Arrays"
def TJ7 : u_T := fun k => match k with
  | _ => ("", "", "", false)
def tyJ7 : Nat → FieldType := fun k => match k with
  | _ => .int
abbrev wsJ70 : List Cond := u_ws RJ7 TJ7 0
theorem nmJ7 : ∀ a, a < 0 → ∀ b, b < 0 → a ≠ b → (TJ7 a).2.1 ≠ (TJ7 b).2.1 := by decide +kernel
theorem tyJ7_ok : ∀ k, k < 0 → parseFieldDescriptor (TJ7 k).2.2.1 = some (tyJ7 k) := by decide +kernel
abbrev cJ7_fill_53178 : ByteArray := prog_21_method_103_code
def yJ7_fill_53178 : MethodName := ⟨RJ7, "fill", "([II)V"⟩
abbrev cJ7_copyOf_59c91 : ByteArray := prog_21_method_123_code
def yJ7_copyOf_59c91 : MethodName := ⟨RJ7, "copyOf", "([II)[I"⟩
def RJ3 : String := "jdk/internal/util/Preconditions"
def TJ3 : u_T := fun k => match k with
  | _ => ("", "", "", false)
def tyJ3 : Nat → FieldType := fun k => match k with
  | _ => .int
abbrev wsJ30 : List Cond := u_ws RJ3 TJ3 0
theorem nmJ3 : ∀ a, a < 0 → ∀ b, b < 0 → a ≠ b → (TJ3 a).2.1 ≠ (TJ3 b).2.1 := by decide +kernel
theorem tyJ3_ok : ∀ k, k < 0 → parseFieldDescriptor (TJ3 k).2.2.1 = some (tyJ3 k) := by decide +kernel
abbrev cJ3_checkIndex_8e157 : ByteArray := prog_22_method_11_code
def yJ3_checkIndex_8e157 : MethodName := ⟨RJ3, "checkIndex", "(IILjava/util/function/BiFunction;)I"⟩
def RL : String := "LetOffLaw"
abbrev cL_law : ByteArray := code
def yL_law : MethodName := ⟨RL, "law", "([I)Z"⟩
abbrev vwCl : List vw_C := [(RX0, TX0, 7), (RX1, TX1, 6), (RX2, TX2, 4), (RX3, TX3, 6), (RX4, TX4, 7), (RX5, TX5, 9), (RX6, TX6, 4), (RX7, TX7, 1), (RX8, TX8, 4), (RX9, TX9, 1), (RX10, TX10, 20), (RX11, TX11, 40)]
end
section
/-! printed by wip/whole/gen.py: classes, methods and links by number, and that the tables have them -/
def znth {α : Type} : List α → Nat → Option α
  | [], _ => none
  | a :: _, 0 => some a
  | _ :: t, n + 1 => znth t n
def znf (c : Nat) : Nat := match c with
  | 0 => 7
  | 1 => 6
  | 2 => 4
  | 3 => 6
  | 4 => 7
  | 5 => 9
  | 6 => 4
  | 7 => 1
  | 8 => 4
  | 9 => 1
  | 10 => 20
  | 11 => 40
  | _ => 0
def zRX (c : Nat) : String := match c with
  | 0 => RX0
  | 1 => RX1
  | 2 => RX2
  | 3 => RX3
  | 4 => RX4
  | 5 => RX5
  | 6 => RX6
  | 7 => RX7
  | 8 => RX8
  | 9 => RX9
  | 10 => RX10
  | _ => RX11
def zTX (c : Nat) : u_T := match c with
  | 0 => TX0
  | 1 => TX1
  | 2 => TX2
  | 3 => TX3
  | 4 => TX4
  | 5 => TX5
  | 6 => TX6
  | 7 => TX7
  | 8 => TX8
  | 9 => TX9
  | 10 => TX10
  | _ => TX11
def ztX (c : Nat) : Nat → FieldType := match c with
  | 0 => tyX0
  | 1 => tyX1
  | 2 => tyX2
  | 3 => tyX3
  | 4 => tyX4
  | 5 => tyX5
  | 6 => tyX6
  | 7 => tyX7
  | 8 => tyX8
  | 9 => tyX9
  | 10 => tyX10
  | _ => tyX11
def zRN (o : Nat) : String := match o with
  | 0 => "LetOff$Engine"
  | 1 => "LetOff$Image"
  | 2 => "LetOff$Notes"
  | 3 => "LetOff$Plan"
  | 4 => "LetOff$Reader"
  | 5 => "LetOff$Round"
  | 6 => "LetOff$RowSearch"
  | 7 => "LetOff$Rule"
  | 8 => "LetOff$RuleReader"
  | 9 => "LetOff$ShowReader"
  | 10 => "LetOff"
  | 11 => "LetOffModel"
  | 12 => "LetOffLaw"
  | 13 => "java/lang/Integer"
  | 14 => "java/lang/Math"
  | _ => "java/util/Arrays"
abbrev ZM : Type := MethodName × ByteArray × Nat × Option FieldType × Nat
def zMl : List ZM := [(yX10_init, cX10_init, 2, (Option.none : Option Jvm.ClassFile.FieldType), 10),
  (yX5_init, cX5_init, 1, (Option.none : Option Jvm.ClassFile.FieldType), 5),
  (yX2_init, cX2_init, 1, (Option.none : Option Jvm.ClassFile.FieldType), 2),
  (yX9_init, cX9_init, 1, (Option.none : Option Jvm.ClassFile.FieldType), 9),
  (yX4_init, cX4_init, 1, (Option.none : Option Jvm.ClassFile.FieldType), 4),
  (yX8_init, cX8_init, 1, (Option.none : Option Jvm.ClassFile.FieldType), 8),
  (yX0_init, cX0_init, 1, (Option.none : Option Jvm.ClassFile.FieldType), 0),
  (yX6_init, cX6_init, 2, (Option.none : Option Jvm.ClassFile.FieldType), 6),
  (yX1_init, cX1_init, 1, (Option.none : Option Jvm.ClassFile.FieldType), 1),
  (yX10_feed, cX10_feed, 6, (Option.some Jvm.ClassFile.FieldType.int), 10),
  (yX10_putBytes, cX10_putBytes, 3, (Option.none : Option Jvm.ClassFile.FieldType), 10),
  (yX10_end, cX10_end, 2, (Option.some Jvm.ClassFile.FieldType.int), 10),
  (yX10_show, cX10_show, 2, (Option.some Jvm.ClassFile.FieldType.int), 10),
  (yX9_read, cX9_read, 5, (Option.some (Jvm.ClassFile.FieldType.object "LetOff$Plan")), 9),
  (yX3_init, cX3_init, 1, (Option.none : Option Jvm.ClassFile.FieldType), 3),
  (yX4_open, cX4_open, 3, (Option.none : Option Jvm.ClassFile.FieldType), 4),
  (yJ9_min_7cf53, cJ9_min_7cf53, 2, (Option.some Jvm.ClassFile.FieldType.int), 14),
  (yJ9_max_7cf53, cJ9_max_7cf53, 2, (Option.some Jvm.ClassFile.FieldType.int), 14),
  (yX4_next, cX4_next, 1, (Option.none : Option Jvm.ClassFile.FieldType), 4),
  (yX4_kindOf, cX4_kindOf, 1, (Option.some Jvm.ClassFile.FieldType.int), 4),
  (yX9_readClause, cX9_readClause, 4, (Option.none : Option Jvm.ClassFile.FieldType), 9),
  (yX4_wordOf, cX4_wordOf, 6, (Option.some Jvm.ClassFile.FieldType.int), 4),
  (yX4_refuse, cX4_refuse, 2, (Option.none : Option Jvm.ClassFile.FieldType), 4),
  (yX4_takeNumber, cX4_takeNumber, 6, (Option.some Jvm.ClassFile.FieldType.int), 4),
  (yX4_isTooLong, cX4_isTooLong, 1, (Option.some Jvm.ClassFile.FieldType.boolean), 4),
  (yX9_readRoad, cX9_readRoad, 4, (Option.none : Option Jvm.ClassFile.FieldType), 9),
  (yX3_roadCells, cX3_roadCells, 3, (Option.some Jvm.ClassFile.FieldType.int), 3),
  (yX9_readCar, cX9_readCar, 6, (Option.none : Option Jvm.ClassFile.FieldType), 9),
  (yX5_comeOn, cX5_comeOn, 5, (Option.none : Option Jvm.ClassFile.FieldType), 5),
  (yX9_readGap, cX9_readGap, 3, (Option.none : Option Jvm.ClassFile.FieldType), 9),
  (yX4_takeSign, cX4_takeSign, 2, (Option.none : Option Jvm.ClassFile.FieldType), 4),
  (yX4_isSign, cX4_isSign, 2, (Option.some Jvm.ClassFile.FieldType.boolean), 4),
  (yX5_copyFrom, cX5_copyFrom, 3, (Option.none : Option Jvm.ClassFile.FieldType), 5),
  (yX10_rule, cX10_rule, 2, (Option.some Jvm.ClassFile.FieldType.int), 10),
  (yX8_read, cX8_read, 4, (Option.some (Jvm.ClassFile.FieldType.object "LetOff$Rule")), 8),
  (yX8_readGo, cX8_readGo, 2, (Option.none : Option Jvm.ClassFile.FieldType), 8),
  (yX8_readSum, cX8_readSum, 5, (Option.none : Option Jvm.ClassFile.FieldType), 8),
  (yX8_readValue, cX8_readValue, 2, (Option.none : Option Jvm.ClassFile.FieldType), 8),
  (yX8_countOne, cX8_countOne, 1, (Option.none : Option Jvm.ClassFile.FieldType), 8),
  (yX8_put, cX8_put, 2, (Option.none : Option Jvm.ClassFile.FieldType), 8),
  (yX8_putSign, cX8_putSign, 2, (Option.none : Option Jvm.ClassFile.FieldType), 8),
  (yX8_readTest, cX8_readTest, 5, (Option.none : Option Jvm.ClassFile.FieldType), 8),
  (yX8_readFact, cX8_readFact, 5, (Option.none : Option Jvm.ClassFile.FieldType), 8),
  (yX8_readNested, cX8_readNested, 3, (Option.none : Option Jvm.ClassFile.FieldType), 8),
  (yJ7_copyOf_59c91, cJ7_copyOf_59c91, 3, (Option.some (Jvm.ClassFile.FieldType.array Jvm.ClassFile.FieldType.int)), 15),
  (yX7_init, cX7_init, 2, (Option.none : Option Jvm.ClassFile.FieldType), 7),
  (yX10_force, cX10_force, 3, (Option.some Jvm.ClassFile.FieldType.int), 10),
  (yX10_car, cX10_car, 3, (Option.some Jvm.ClassFile.FieldType.int), 10),
  (yX10_isCar, cX10_isCar, 1, (Option.some Jvm.ClassFile.FieldType.boolean), 10),
  (yX10_road, cX10_road, 3, (Option.some Jvm.ClassFile.FieldType.int), 10),
  (yX10_isRoad, cX10_isRoad, 2, (Option.some Jvm.ClassFile.FieldType.boolean), 10),
  (yX10_gapIn, cX10_gapIn, 2, (Option.some Jvm.ClassFile.FieldType.int), 10),
  (yX10_isCell, cX10_isCell, 2, (Option.some Jvm.ClassFile.FieldType.boolean), 10),
  (yX5_hasGap, cX5_hasGap, 2, (Option.some Jvm.ClassFile.FieldType.boolean), 5),
  (yX10_count, cX10_count, 2, (Option.some Jvm.ClassFile.FieldType.int), 10),
  (yX5_carsOn, cX5_carsOn, 3, (Option.some Jvm.ClassFile.FieldType.int), 5),
  (yJ6_bitCount_0f7a4, cJ6_bitCount_0f7a4, 1, (Option.some Jvm.ClassFile.FieldType.int), 13),
  (yX5_allWaiting, cX5_allWaiting, 3, (Option.some Jvm.ClassFile.FieldType.int), 5),
  (yX10_step, cX10_step, 1, (Option.some Jvm.ClassFile.FieldType.int), 10),
  (yX10_keepForUndo, cX10_keepForUndo, 1, (Option.none : Option Jvm.ClassFile.FieldType), 10),
  (yX10_setEngine, cX10_setEngine, 2, (Option.none : Option Jvm.ClassFile.FieldType), 10),
  (yX0_drive, cX0_drive, 4, (Option.some Jvm.ClassFile.FieldType.int), 0),
  (yX0_goesOff, cX0_goesOff, 3, (Option.some Jvm.ClassFile.FieldType.boolean), 0),
  (yX0_isAtItsRoad, cX0_isAtItsRoad, 4, (Option.some Jvm.ClassFile.FieldType.boolean), 0),
  (yX0_setWords, cX0_setWords, 4, (Option.none : Option Jvm.ClassFile.FieldType), 0),
  (yX0_cellsBehind, cX0_cellsBehind, 5, (Option.some Jvm.ClassFile.FieldType.int), 0),
  (yX7_allows, cX7_allows, 9, (Option.some Jvm.ClassFile.FieldType.boolean), 7),
  (yX7_takesTwo, cX7_takesTwo, 1, (Option.some Jvm.ClassFile.FieldType.boolean), 7),
  (yX7_join, cX7_join, 5, (Option.some Jvm.ClassFile.FieldType.long), 7),
  (yX7_compared, cX7_compared, 5, (Option.some Jvm.ClassFile.FieldType.boolean), 7),
  (yX5_goOff, cX5_goOff, 2, (Option.none : Option Jvm.ClassFile.FieldType), 5),
  (yX0_goOnIfFree, cX0_goOnIfFree, 4, (Option.none : Option Jvm.ClassFile.FieldType), 0),
  (yX5_isFree, cX5_isFree, 2, (Option.some Jvm.ClassFile.FieldType.boolean), 5),
  (yX5_goOn, cX5_goOn, 3, (Option.none : Option Jvm.ClassFile.FieldType), 5),
  (yX0_letCome, cX0_letCome, 6, (Option.none : Option Jvm.ClassFile.FieldType), 0),
  (yX5_firstNotOn, cX5_firstNotOn, 2, (Option.some Jvm.ClassFile.FieldType.int), 5),
  (yX10_pole, cX10_pole, 3, (Option.some Jvm.ClassFile.FieldType.int), 10),
  (yX10_isOn, cX10_isOn, 2, (Option.some Jvm.ClassFile.FieldType.boolean), 10),
  (yX10_within, cX10_within, 3, (Option.some Jvm.ClassFile.FieldType.boolean), 10),
  (yX10_grass, cX10_grass, 3, (Option.some Jvm.ClassFile.FieldType.int), 10),
  (yX5_goOverGrass, cX5_goOverGrass, 2, (Option.none : Option Jvm.ClassFile.FieldType), 5),
  (yX10_fill, cX10_fill, 2, (Option.some Jvm.ClassFile.FieldType.int), 10),
  (yX5_closeGap, cX5_closeGap, 2, (Option.none : Option Jvm.ClassFile.FieldType), 5),
  (yX10_wish, cX10_wish, 4, (Option.some Jvm.ClassFile.FieldType.int), 10),
  (yX10_undo, cX10_undo, 1, (Option.some Jvm.ClassFile.FieldType.int), 10),
  (yJ9_floorMod_7cf53, cJ9_floorMod_7cf53, 3, (Option.some Jvm.ClassFile.FieldType.int), 14),
  (yX10_ahead, cX10_ahead, 5, (Option.some Jvm.ClassFile.FieldType.int), 10),
  (yX10_tryFromNow, cX10_tryFromNow, 1, (Option.some (Jvm.ClassFile.FieldType.object "LetOff$Round")), 10),
  (yX10_goneIn, cX10_goneIn, 5, (Option.some Jvm.ClassFile.FieldType.int), 10),
  (yX10_lets, cX10_lets, 3, (Option.some Jvm.ClassFile.FieldType.int), 10),
  (yX10_stepOff, cX10_stepOff, 5, (Option.some Jvm.ClassFile.FieldType.int), 10),
  (yX10_still, cX10_still, 3, (Option.some Jvm.ClassFile.FieldType.int), 10),
  (yX10_leastFuel, cX10_leastFuel, 5, (Option.some Jvm.ClassFile.FieldType.int), 10),
  (yX10_bestGrass, cX10_bestGrass, 3, (Option.some Jvm.ClassFile.FieldType.int), 10),
  (yX10_bestDeed, cX10_bestDeed, 9, (Option.some Jvm.ClassFile.FieldType.int), 10),
  (yX10_doDeed, cX10_doDeed, 4, (Option.some Jvm.ClassFile.FieldType.boolean), 10),
  (yX10_bestFill, cX10_bestFill, 3, (Option.some Jvm.ClassFile.FieldType.int), 10),
  (yX10_closed, cX10_closed, 3, (Option.some Jvm.ClassFile.FieldType.int), 10),
  (yX10_row, cX10_row, 3, (Option.some Jvm.ClassFile.FieldType.int), 10),
  (yX6_search, cX6_search, 4, (Option.none : Option Jvm.ClassFile.FieldType), 6),
  (yX6_trySets, cX6_trySets, 8, (Option.none : Option Jvm.ClassFile.FieldType), 6),
  (yX0_ready, cX0_ready, 4, (Option.some Jvm.ClassFile.FieldType.int), 0),
  (yX6_keepIfBest, cX6_keepIfBest, 2, (Option.none : Option Jvm.ClassFile.FieldType), 6),
  (yX10_longest, cX10_longest, 9, (Option.some Jvm.ClassFile.FieldType.int), 10),
  (yX10_rests, cX10_rests, 8, (Option.some Jvm.ClassFile.FieldType.int), 10),
  (yX10_fillTable, cX10_fillTable, 10, (Option.none : Option Jvm.ClassFile.FieldType), 10),
  (yX10_gainAt, cX10_gainAt, 2, (Option.some Jvm.ClassFile.FieldType.int), 10),
  (yX10_gainBehind, cX10_gainBehind, 4, (Option.some Jvm.ClassFile.FieldType.int), 10),
  (yX10_isRest, cX10_isRest, 5, (Option.some Jvm.ClassFile.FieldType.boolean), 10),
  (yX10_ring, cX10_ring, 5, (Option.some Jvm.ClassFile.FieldType.int), 10),
  (yX5_face, cX5_face, 4, (Option.some Jvm.ClassFile.FieldType.long), 5),
  (yX10_litres, cX10_litres, 9, (Option.some Jvm.ClassFile.FieldType.int), 10),
  (yX10_lack, cX10_lack, 2, (Option.some Jvm.ClassFile.FieldType.int), 10),
  (yX10_note, cX10_note, 5, (Option.some Jvm.ClassFile.FieldType.int), 10),
  (yX2_add, cX2_add, 4, (Option.none : Option Jvm.ClassFile.FieldType), 2),
  (yX10_wished, cX10_wished, 6, (Option.some Jvm.ClassFile.FieldType.int), 10),
  (yX10_tryFromBegin, cX10_tryFromBegin, 2, (Option.some (Jvm.ClassFile.FieldType.object "LetOff$Round")), 10),
  (yX10_fitsNotes, cX10_fitsNotes, 4, (Option.some Jvm.ClassFile.FieldType.boolean), 10),
  (yX2_lastStep, cX2_lastStep, 3, (Option.some Jvm.ClassFile.FieldType.int), 2),
  (yX2_areSo, cX2_areSo, 4, (Option.some Jvm.ClassFile.FieldType.boolean), 2),
  (yX10_ruled, cX10_ruled, 5, (Option.some Jvm.ClassFile.FieldType.int), 10),
  (yX10_look, cX10_look, 6, (Option.some Jvm.ClassFile.FieldType.int), 10),
  (yJ7_fill_53178, cJ7_fill_53178, 4, (Option.none : Option Jvm.ClassFile.FieldType), 15),
  (yX10_countCells, cX10_countCells, 3, (Option.none : Option Jvm.ClassFile.FieldType), 10),
  (yX10_mostAlike, cX10_mostAlike, 4, (Option.some Jvm.ClassFile.FieldType.int), 10),
  (yX10_seed, cX10_seed, 3, (Option.some Jvm.ClassFile.FieldType.int), 10),
  (yX10_shows, cX10_shows, 11, (Option.some Jvm.ClassFile.FieldType.int), 10),
  (yX10_drawWaiting, cX10_drawWaiting, 5, (Option.none : Option Jvm.ClassFile.FieldType), 10),
  (yX10_draw, cX10_draw, 1, (Option.some Jvm.ClassFile.FieldType.int), 10),
  (yX10_image, cX10_image, 3, (Option.some Jvm.ClassFile.FieldType.int), 10),
  (yX2_copyFrom, cX2_copyFrom, 2, (Option.none : Option Jvm.ClassFile.FieldType), 2),
  (yX10_back, cX10_back, 3, (Option.some Jvm.ClassFile.FieldType.int), 10),
  (yX11_init, cX11_init, 1, (Option.none : Option Jvm.ClassFile.FieldType), 11),
  (yX11_feed, cX11_feed, 6, (Option.some Jvm.ClassFile.FieldType.int), 11),
  (yX11_four, cX11_four, 3, (Option.none : Option Jvm.ClassFile.FieldType), 11),
  (yX11_end, cX11_end, 2, (Option.some Jvm.ClassFile.FieldType.int), 11),
  (yX11_rule, cX11_rule, 1, (Option.some Jvm.ClassFile.FieldType.int), 11),
  (yX11_readsAll, cX11_readsAll, 2, (Option.some Jvm.ClassFile.FieldType.boolean), 11),
  (yX11_clauseHere, cX11_clauseHere, 3, (Option.some Jvm.ClassFile.FieldType.boolean), 11),
  (yX11_see, cX11_see, 1, (Option.some Jvm.ClassFile.FieldType.int), 11),
  (yX11_isShowWord, cX11_isShowWord, 1, (Option.some Jvm.ClassFile.FieldType.boolean), 11),
  (yX11_isWord, cX11_isWord, 6, (Option.some Jvm.ClassFile.FieldType.boolean), 11),
  (yX11_isLetter, cX11_isLetter, 2, (Option.some Jvm.ClassFile.FieldType.boolean), 11),
  (yX11_fails, cX11_fails, 3, (Option.some Jvm.ClassFile.FieldType.boolean), 11),
  (yX11_showLineHere, cX11_showLineHere, 2, (Option.some Jvm.ClassFile.FieldType.boolean), 11),
  (yX11_isShowHere, cX11_isShowHere, 2, (Option.some Jvm.ClassFile.FieldType.boolean), 11),
  (yX11_passWord, cX11_passWord, 1, (Option.none : Option Jvm.ClassFile.FieldType), 11),
  (yX11_cellHere, cX11_cellHere, 4, (Option.some Jvm.ClassFile.FieldType.boolean), 11),
  (yX11_numberHere, cX11_numberHere, 5, (Option.some Jvm.ClassFile.FieldType.boolean), 11),
  (yX11_isDigit, cX11_isDigit, 2, (Option.some Jvm.ClassFile.FieldType.boolean), 11),
  (yX11_in, cX11_in, 6, (Option.some Jvm.ClassFile.FieldType.boolean), 11),
  (yX11_isRoadHere, cX11_isRoadHere, 3, (Option.some Jvm.ClassFile.FieldType.boolean), 11),
  (yX11_isRoadIn, cX11_isRoadIn, 3, (Option.some Jvm.ClassFile.FieldType.boolean), 11),
  (yX11_isCarHere, cX11_isCarHere, 4, (Option.some Jvm.ClassFile.FieldType.boolean), 11),
  (yX11_isCarIn, cX11_isCarIn, 3, (Option.some Jvm.ClassFile.FieldType.boolean), 11),
  (yX11_isGapHere, cX11_isGapHere, 2, (Option.some Jvm.ClassFile.FieldType.boolean), 11),
  (yX11_isGoHere, cX11_isGoHere, 2, (Option.some Jvm.ClassFile.FieldType.boolean), 11),
  (yX11_sum, cX11_sum, 2, (Option.some Jvm.ClassFile.FieldType.boolean), 11),
  (yX11_term, cX11_term, 2, (Option.some Jvm.ClassFile.FieldType.boolean), 11),
  (yX11_value, cX11_value, 3, (Option.some Jvm.ClassFile.FieldType.boolean), 11),
  (yX11_makes, cX11_makes, 2, (Option.some Jvm.ClassFile.FieldType.boolean), 11),
  (yX11_puts, cX11_puts, 3, (Option.none : Option Jvm.ClassFile.FieldType), 11),
  (yX11_wordHere, cX11_wordHere, 1, (Option.some Jvm.ClassFile.FieldType.int), 11),
  (yX11_takesWord, cX11_takesWord, 3, (Option.some Jvm.ClassFile.FieldType.boolean), 11),
  (yX11_tested, cX11_tested, 3, (Option.some Jvm.ClassFile.FieldType.boolean), 11),
  (yX11_fact, cX11_fact, 3, (Option.some Jvm.ClassFile.FieldType.boolean), 11),
  (yX11_opens, cX11_opens, 2, (Option.some Jvm.ClassFile.FieldType.boolean), 11),
  (yX11_compare, cX11_compare, 5, (Option.some Jvm.ClassFile.FieldType.boolean), 11),
  (yX11_closes, cX11_closes, 1, (Option.none : Option Jvm.ClassFile.FieldType), 11),
  (yX11_layDown, cX11_layDown, 2, (Option.none : Option Jvm.ClassFile.FieldType), 11),
  (yX11_strength, cX11_strength, 1, (Option.some Jvm.ClassFile.FieldType.int), 11),
  (yX11_isInside, cX11_isInside, 2, (Option.some Jvm.ClassFile.FieldType.boolean), 11),
  (yX11_show, cX11_show, 2, (Option.some Jvm.ClassFile.FieldType.int), 11),
  (yX11_begins, cX11_begins, 3, (Option.none : Option Jvm.ClassFile.FieldType), 11),
  (yX11_stands, cX11_stands, 7, (Option.none : Option Jvm.ClassFile.FieldType), 11),
  (yX11_force, cX11_force, 3, (Option.some Jvm.ClassFile.FieldType.int), 11),
  (yX11_isRule, cX11_isRule, 2, (Option.some Jvm.ClassFile.FieldType.boolean), 11),
  (yX11_car, cX11_car, 3, (Option.some Jvm.ClassFile.FieldType.int), 11),
  (yX11_isCar, cX11_isCar, 2, (Option.some Jvm.ClassFile.FieldType.boolean), 11),
  (yX11_isShow, cX11_isShow, 1, (Option.some Jvm.ClassFile.FieldType.boolean), 11),
  (yX11_isOn, cX11_isOn, 2, (Option.some Jvm.ClassFile.FieldType.boolean), 11),
  (yX11_road, cX11_road, 3, (Option.some Jvm.ClassFile.FieldType.int), 11),
  (yX11_isRoad, cX11_isRoad, 2, (Option.some Jvm.ClassFile.FieldType.boolean), 11),
  (yX11_gapIn, cX11_gapIn, 2, (Option.some Jvm.ClassFile.FieldType.int), 11),
  (yX11_isCell, cX11_isCell, 2, (Option.some Jvm.ClassFile.FieldType.boolean), 11),
  (yX11_undo, cX11_undo, 2, (Option.some Jvm.ClassFile.FieldType.int), 11),
  (yX11_step, cX11_step, 1, (Option.some Jvm.ClassFile.FieldType.int), 11),
  (yX11_keepsAct, cX11_keepsAct, 2, (Option.none : Option Jvm.ClassFile.FieldType), 11),
  (yX11_passes, cX11_passes, 3, (Option.some Jvm.ClassFile.FieldType.int), 11),
  (yX11_fuelOf, cX11_fuelOf, 2, (Option.some Jvm.ClassFile.FieldType.int), 11),
  (yX11_drives, cX11_drives, 3, (Option.some Jvm.ClassFile.FieldType.boolean), 11),
  (yX11_cellOf, cX11_cellOf, 2, (Option.some Jvm.ClassFile.FieldType.int), 11),
  (yX11_roadOf, cX11_roadOf, 2, (Option.some Jvm.ClassFile.FieldType.int), 11),
  (yX11_isLetOff, cX11_isLetOff, 2, (Option.some Jvm.ClassFile.FieldType.boolean), 11),
  (yX11_isOf, cX11_isOf, 2, (Option.some Jvm.ClassFile.FieldType.boolean), 11),
  (yX11_behindOf, cX11_behindOf, 3, (Option.some Jvm.ClassFile.FieldType.int), 11),
  (yX11_carIn, cX11_carIn, 3, (Option.some Jvm.ClassFile.FieldType.int), 11),
  (yX11_manyOn, cX11_manyOn, 3, (Option.some Jvm.ClassFile.FieldType.int), 11),
  (yX11_summedBy, cX11_summedBy, 4, (Option.some Jvm.ClassFile.FieldType.long), 11),
  (yX11_reckons, cX11_reckons, 11, (Option.some Jvm.ClassFile.FieldType.long), 11),
  (yX11_push, cX11_push, 3, (Option.none : Option Jvm.ClassFile.FieldType), 11),
  (yX11_pop, cX11_pop, 1, (Option.some Jvm.ClassFile.FieldType.long), 11),
  (yX11_one, cX11_one, 5, (Option.some Jvm.ClassFile.FieldType.long), 11),
  (yX11_leaves, cX11_leaves, 2, (Option.none : Option Jvm.ClassFile.FieldType), 11),
  (yX11_isFree, cX11_isFree, 2, (Option.some Jvm.ClassFile.FieldType.boolean), 11),
  (yX11_waits, cX11_waits, 2, (Option.none : Option Jvm.ClassFile.FieldType), 11),
  (yX11_comesOn, cX11_comesOn, 3, (Option.none : Option Jvm.ClassFile.FieldType), 11),
  (yX11_pole, cX11_pole, 4, (Option.some Jvm.ClassFile.FieldType.int), 11),
  (yX11_isCarOn, cX11_isCarOn, 2, (Option.some Jvm.ClassFile.FieldType.boolean), 11),
  (yX11_grass, cX11_grass, 3, (Option.some Jvm.ClassFile.FieldType.int), 11),
  (yX11_crosses, cX11_crosses, 2, (Option.none : Option Jvm.ClassFile.FieldType), 11),
  (yX11_fill, cX11_fill, 2, (Option.some Jvm.ClassFile.FieldType.int), 11),
  (yX11_gaps, cX11_gaps, 3, (Option.some Jvm.ClassFile.FieldType.int), 11),
  (yX11_wish, cX11_wish, 4, (Option.some Jvm.ClassFile.FieldType.int), 11),
  (yX11_ahead, cX11_ahead, 5, (Option.some Jvm.ClassFile.FieldType.int), 11),
  (yX11_keeps, cX11_keeps, 2, (Option.none : Option Jvm.ClassFile.FieldType), 11),
  (yX11_passesAll, cX11_passesAll, 3, (Option.none : Option Jvm.ClassFile.FieldType), 11),
  (yX11_laysBack, cX11_laysBack, 2, (Option.none : Option Jvm.ClassFile.FieldType), 11),
  (yX11_lets, cX11_lets, 4, (Option.some Jvm.ClassFile.FieldType.int), 11),
  (yX11_still, cX11_still, 3, (Option.some Jvm.ClassFile.FieldType.int), 11),
  (yX11_leastFuel, cX11_leastFuel, 5, (Option.some Jvm.ClassFile.FieldType.int), 11),
  (yX11_offIn, cX11_offIn, 4, (Option.some Jvm.ClassFile.FieldType.int), 11),
  (yX11_bestGrass, cX11_bestGrass, 4, (Option.some Jvm.ClassFile.FieldType.int), 11),
  (yX11_offAllIn, cX11_offAllIn, 4, (Option.some Jvm.ClassFile.FieldType.int), 11),
  (yX11_weighs, cX11_weighs, 3, (Option.none : Option Jvm.ClassFile.FieldType), 11),
  (yX11_bestFill, cX11_bestFill, 4, (Option.some Jvm.ClassFile.FieldType.int), 11),
  (yX11_closed, cX11_closed, 4, (Option.some Jvm.ClassFile.FieldType.int), 11),
  (yX11_row, cX11_row, 7, (Option.some Jvm.ClassFile.FieldType.int), 11),
  (yX11_offByRow, cX11_offByRow, 5, (Option.some Jvm.ClassFile.FieldType.int), 11),
  (yX11_longest, cX11_longest, 8, (Option.some Jvm.ClassFile.FieldType.int), 11),
  (yX11_rests, cX11_rests, 8, (Option.some Jvm.ClassFile.FieldType.int), 11),
  (yX11_isTwo, cX11_isTwo, 2, (Option.some Jvm.ClassFile.FieldType.boolean), 11),
  (yX11_fillsRest, cX11_fillsRest, 7, (Option.none : Option Jvm.ClassFile.FieldType), 11),
  (yX11_isRest, cX11_isRest, 4, (Option.some Jvm.ClassFile.FieldType.boolean), 11),
  (yX11_ring, cX11_ring, 4, (Option.some Jvm.ClassFile.FieldType.int), 11),
  (yX11_areAlike, cX11_areAlike, 4, (Option.some Jvm.ClassFile.FieldType.boolean), 11),
  (yX11_litres, cX11_litres, 10, (Option.some Jvm.ClassFile.FieldType.int), 11),
  (yX11_shortOf, cX11_shortOf, 2, (Option.some Jvm.ClassFile.FieldType.int), 11),
  (yX11_note, cX11_note, 5, (Option.some Jvm.ClassFile.FieldType.int), 11),
  (yX11_wished, cX11_wished, 6, (Option.some Jvm.ClassFile.FieldType.int), 11),
  (yX11_areAllSo, cX11_areAllSo, 6, (Option.some Jvm.ClassFile.FieldType.boolean), 11),
  (yX11_areNotesSo, cX11_areNotesSo, 3, (Option.some Jvm.ClassFile.FieldType.boolean), 11),
  (yX11_cellOn, cX11_cellOn, 2, (Option.some Jvm.ClassFile.FieldType.int), 11),
  (yX11_ruled, cX11_ruled, 5, (Option.some Jvm.ClassFile.FieldType.int), 11),
  (yX11_fillsFits, cX11_fillsFits, 4, (Option.none : Option Jvm.ClassFile.FieldType), 11),
  (yX11_look, cX11_look, 7, (Option.some Jvm.ClassFile.FieldType.int), 11),
  (yX11_alikeAt, cX11_alikeAt, 6, (Option.some Jvm.ClassFile.FieldType.int), 11),
  (yX11_seed, cX11_seed, 3, (Option.some Jvm.ClassFile.FieldType.int), 11),
  (yX11_shows, cX11_shows, 10, (Option.some Jvm.ClassFile.FieldType.int), 11),
  (yX11_draw, cX11_draw, 2, (Option.some Jvm.ClassFile.FieldType.int), 11),
  (yX11_waitAll, cX11_waitAll, 3, (Option.some Jvm.ClassFile.FieldType.int), 11),
  (yX11_count, cX11_count, 2, (Option.some Jvm.ClassFile.FieldType.int), 11),
  (yX11_onesOn, cX11_onesOn, 3, (Option.some Jvm.ClassFile.FieldType.int), 11),
  (yX11_image, cX11_image, 3, (Option.some Jvm.ClassFile.FieldType.int), 11),
  (yX11_back, cX11_back, 3, (Option.some Jvm.ClassFile.FieldType.int), 11),
  (yL_law, cL_law, 4, (Option.some Jvm.ClassFile.FieldType.boolean : Option Jvm.ClassFile.FieldType), 12)]
def zMd : ZM := (yL_law, cL_law, 4, none, 12)
def zM (y : Nat) : ZM := (znth zMl y).getD zMd
def zFL (o : Nat) : List (Nat × Nat × Nat) := match o with
  | 0 => [(39, 5, 0), (88, 5, 1), (45, 5, 2), (60, 5, 3), (94, 5, 4), (110, 5, 5), (71, 5, 7), (119, 5, 8), (9, 0, 0), (15, 0, 1), (19, 0, 2), (23, 0, 3), (26, 0, 4), (32, 0, 5), (36, 0, 6), (74, 3, 0), (63, 3, 1), (91, 3, 3), (122, 3, 4)]
  | 1 => [(9, 1, 0), (15, 1, 1), (19, 1, 2), (23, 1, 3), (29, 1, 4), (36, 1, 5)]
  | 2 => [(37, 5, 0), (9, 2, 0), (15, 2, 1), (19, 2, 2), (22, 2, 3)]
  | 3 => [(9, 3, 0), (15, 3, 1), (18, 3, 2), (21, 3, 3), (25, 3, 4), (31, 3, 5)]
  | 4 => [(11, 4, 0), (15, 4, 1), (18, 4, 2), (21, 4, 3), (25, 4, 4), (28, 4, 5), (31, 4, 6)]
  | 5 => [(9, 5, 0), (15, 5, 1), (18, 5, 2), (21, 5, 3), (24, 5, 4), (27, 5, 5), (31, 5, 6), (34, 5, 7), (37, 5, 8)]
  | 6 => [(59, 0, 3), (9, 6, 0), (15, 6, 1), (19, 6, 2), (24, 6, 3)]
  | 7 => [(7, 7, 0)]
  | 8 => [(55, 4, 0), (99, 4, 1), (72, 4, 2), (14, 8, 0), (18, 8, 1), (22, 8, 2), (26, 8, 3)]
  | 9 => [(90, 5, 5), (95, 5, 6), (29, 4, 0), (37, 4, 2), (12, 9, 0), (62, 3, 0), (49, 3, 1), (52, 3, 2), (79, 3, 3), (83, 3, 4), (86, 3, 5)]
  | 10 => [(146, 5, 0), (149, 5, 1), (152, 5, 2), (155, 5, 3), (167, 5, 4), (192, 5, 6), (182, 5, 7), (189, 5, 8), (132, 2, 0), (118, 4, 2), (114, 9, 0), (141, 8, 0), (236, 0, 0), (237, 0, 1), (241, 0, 2), (244, 0, 3), (259, 0, 4), (275, 6, 0), (278, 6, 1), (350, 1, 0), (353, 1, 1), (357, 1, 2), (358, 1, 3), (354, 1, 4), (359, 1, 5), (9, 10, 0), (13, 10, 1), (19, 10, 2), (23, 10, 3), (26, 10, 4), (33, 10, 5), (37, 10, 6), (40, 10, 7), (46, 10, 8), (52, 10, 9), (56, 10, 10), (60, 10, 11), (63, 10, 12), (69, 10, 13), (76, 10, 14), (83, 10, 15), (90, 10, 16), (94, 10, 17), (97, 10, 18), (101, 10, 19), (176, 3, 0), (179, 3, 1), (135, 3, 2), (161, 3, 3), (164, 3, 4), (123, 3, 5)]
  | 11 => [(7, 11, 0), (83, 11, 1), (260, 11, 2), (13, 11, 3), (17, 11, 4), (20, 11, 5), (23, 11, 6), (26, 11, 7), (93, 11, 8), (90, 11, 9), (118, 11, 10), (145, 11, 11), (148, 11, 12), (151, 11, 13), (248, 11, 14), (29, 11, 15), (154, 11, 16), (32, 11, 17), (272, 11, 18), (36, 11, 19), (39, 11, 20), (42, 11, 21), (453, 11, 22), (46, 11, 23), (49, 11, 24), (350, 11, 25), (52, 11, 26), (269, 11, 27), (55, 11, 28), (404, 11, 29), (401, 11, 30), (58, 11, 31), (61, 11, 32), (64, 11, 33), (68, 11, 34), (456, 11, 35), (71, 11, 36), (74, 11, 37), (77, 11, 38), (80, 11, 39)]
  | _ => []
def zML (o : Nat) : List (Nat × Nat × Nat) := match o with
  | 0 => [(48, 62, 0), (85, 63, 0), (97, 64, 0), (106, 65, 0), (113, 56, 1), (100, 66, 0), (52, 70, 0), (56, 71, 0), (77, 72, 0), (81, 73, 0), (68, 74, 0), (125, 75, 0), (129, 28, 0)]
  | 1 => [(28, 1, 3), (35, 2, 3)]
  | 2 => [(31, 17, 1)]
  | 3 => [(30, 1, 3)]
  | 4 => [(34, 16, 1), (40, 17, 1), (49, 18, 0), (52, 19, 1), (60, 22, 0), (64, 24, 0), (56, 31, 0)]
  | 5 => [(40, 70, 0)]
  | 6 => [(29, 32, 0), (33, 16, 1), (39, 100, 0), (43, 101, 0), (49, 56, 1), (55, 102, 0), (62, 61, 0), (28, 1, 3)]
  | 7 => [(17, 67, 1), (21, 68, 1), (25, 69, 1)]
  | 8 => [(29, 15, 0), (33, 35, 0), (42, 21, 0), (79, 22, 0), (46, 18, 0), (37, 36, 0), (105, 37, 0), (110, 24, 0), (102, 38, 0), (76, 39, 0), (52, 40, 0), (49, 41, 0), (84, 42, 0), (91, 31, 0), (95, 43, 0), (69, 30, 0), (60, 44, 1), (66, 45, 2), (13, 4, 3)]
  | 9 => [(21, 15, 0), (25, 20, 0), (42, 21, 0), (46, 22, 0), (55, 18, 0), (58, 23, 0), (65, 25, 0), (75, 26, 0), (69, 27, 0), (98, 28, 0), (72, 29, 0), (33, 30, 0), (11, 4, 3), (20, 14, 3)]
  | 10 => [(89, 7, 2), (106, 10, 0), (110, 13, 0), (128, 32, 0), (138, 34, 0), (142, 48, 1), (158, 50, 0), (170, 52, 0), (173, 53, 0), (185, 55, 0), (195, 56, 1), (201, 57, 0), (204, 59, 0), (221, 16, 1), (207, 60, 0), (210, 61, 0), (214, 77, 0), (217, 78, 1), (227, 80, 0), (230, 82, 0), (233, 85, 1), (247, 87, 0), (251, 88, 0), (255, 90, 0), (263, 94, 0), (267, 95, 0), (271, 99, 0), (281, 17, 1), (284, 105, 0), (292, 106, 1), (295, 107, 1), (288, 108, 0), (299, 110, 0), (303, 112, 0), (306, 114, 0), (316, 116, 0), (320, 117, 0), (309, 118, 0), (312, 119, 0), (324, 122, 1), (330, 123, 0), (333, 124, 0), (336, 127, 0), (340, 128, 0), (360, 130, 0), (32, 1, 3), (45, 2, 3), (68, 3, 3), (75, 5, 3), (82, 6, 3), (105, 8, 3)]
  | 11 => [(86, 134, 0), (263, 137, 0), (257, 138, 0), (96, 139, 0), (243, 140, 0), (104, 141, 0), (100, 142, 0), (114, 143, 0), (251, 144, 0), (229, 145, 0), (108, 146, 0), (217, 147, 0), (166, 148, 0), (111, 149, 0), (121, 150, 1), (232, 151, 0), (221, 152, 0), (235, 153, 0), (224, 154, 0), (238, 155, 0), (254, 156, 0), (182, 157, 0), (179, 158, 0), (175, 159, 0), (169, 160, 0), (161, 161, 0), (172, 162, 0), (211, 163, 0), (214, 164, 0), (199, 165, 0), (187, 166, 0), (190, 167, 0), (202, 168, 0), (193, 169, 0), (157, 170, 1), (196, 171, 0), (266, 173, 0), (304, 174, 0), (308, 176, 0), (292, 178, 0), (287, 179, 0), (295, 180, 0), (313, 182, 0), (318, 184, 0), (369, 187, 0), (366, 188, 0), (331, 189, 0), (357, 190, 0), (298, 191, 0), (328, 192, 0), (344, 193, 0), (325, 194, 1), (334, 195, 0), (301, 196, 0), (337, 197, 0), (340, 198, 0), (321, 199, 0), (275, 200, 0), (279, 201, 0), (283, 202, 1), (347, 203, 0), (354, 204, 0), (360, 205, 0), (363, 206, 0), (372, 208, 0), (377, 210, 0), (380, 212, 0), (385, 215, 0), (388, 216, 0), (391, 177, 0), (395, 217, 0), (398, 221, 0), (409, 223, 0), (412, 224, 0), (415, 228, 0), (418, 231, 0), (421, 232, 0), (425, 233, 0), (428, 235, 0), (433, 237, 0), (444, 240, 0), (441, 241, 0), (438, 242, 0), (447, 244, 0), (450, 246, 0), (470, 249, 0), (473, 250, 0), (476, 252, 0)]
  | 12 => [(9, 0, 2), (13, 9, 0), (18, 11, 0), (23, 12, 0), (28, 33, 0), (32, 46, 0), (36, 47, 0), (41, 49, 0), (45, 51, 0), (147, 54, 0), (49, 58, 0), (53, 76, 0), (57, 79, 0), (61, 81, 0), (65, 83, 0), (69, 84, 0), (73, 86, 0), (78, 89, 0), (82, 91, 0), (86, 92, 0), (90, 93, 0), (94, 96, 0), (98, 97, 0), (102, 98, 0), (110, 103, 0), (114, 104, 0), (119, 109, 0), (123, 111, 0), (127, 113, 0), (106, 115, 0), (131, 120, 0), (135, 121, 0), (139, 125, 0), (143, 126, 0), (151, 129, 0), (155, 131, 0), (12, 132, 2), (17, 133, 0), (22, 135, 0), (31, 136, 0), (27, 172, 0), (35, 175, 0), (40, 177, 0), (44, 181, 0), (48, 183, 0), (72, 185, 0), (52, 186, 0), (56, 207, 0), (60, 209, 0), (64, 211, 0), (68, 213, 0), (77, 214, 0), (81, 218, 0), (85, 219, 0), (89, 220, 0), (93, 222, 0), (97, 225, 0), (101, 226, 0), (105, 227, 0), (113, 229, 0), (118, 230, 0), (122, 234, 0), (126, 236, 0), (130, 238, 0), (109, 239, 0), (134, 243, 0), (138, 245, 0), (142, 247, 0), (146, 248, 0), (150, 251, 0), (154, 253, 0), (158, 254, 0)]
  | 15 => [(304, 16, 1)]
  | _ => []
def zOL (o : Nat) : List (Nat) := match o with
  | 0 => [3]
  | 1 => [3]
  | 2 => [3]
  | 3 => [3]
  | 4 => [3]
  | 5 => [3]
  | 6 => [3]
  | 7 => [1]
  | 8 => [7]
  | 9 => [3]
  | 10 => [1]
  | 11 => [1]
  | _ => []
def zSL (o : Nat) : List (Nat × Nat) := match o with
  | 4 => [(68, 1001), (73, 1002)]
  | _ => []
def zAL (o : Nat) : List (Nat) := match o with
  | 2 => [25]
  | 4 => [43]
  | 6 => [65]
  | 15 => [150]
  | _ => []
def zKL (o : Nat) : List (Nat) := match o with
  | 15 => [316]
  | _ => []
def zCL (o : Nat) : List (Nat × Nat) := match o with
  | 1 => [(26, 5), (33, 2)]
  | 3 => [(28, 5)]
  | 6 => [(22, 5)]
  | 8 => [(3, 4), (58, 7)]
  | 9 => [(9, 4), (18, 3)]
  | 10 => [(17, 7), (30, 5), (43, 2), (50, 1), (66, 9), (73, 8), (80, 0), (87, 6)]
  | 12 => [(7, 10), (10, 11)]
  | _ => []
def zCI (o : Nat) : List (Nat × Int) := match o with
  | 7 => [(15, 100010), (16, 100000)]
  | 8 => [(114, 100000), (75, 100010)]
  | 10 => [(349, 65536)]
  | 11 => [(165, 99999)]
  | 13 => [(265, 1431655765), (266, 858993459), (267, 252645135)]
  | _ => []
def zCJ (o : Nat) : List (Nat × Int) := match o with
  | 10 => [(343, 1103515245), (345, 12345), (347, 2147483647)]
  | 11 => [(227, 1936224119), (127, 1919902052), (125, 6513010), (241, 6775152), (246, 26479), (129, 1718969708), (131, 33602627781095015), (133, 108187682958948), (135, 28526), (137, 7300710), (139, 125823037105267), (141, 435778056825), (143, 1937007984), (209, 26982), (185, 7237492), (205, 6385252), (207, 28530), (290, 5), (311, 3), (316, 2), (375, 20), (383, 100), (407, 40), (431, 9999), (436, 60), (468, 10), (460, 1103515245), (462, 12345), (464, 2147483648), (466, 65536)]
  | _ => []
def zCS (o : Nat) : List (Nat × Nat) := match o with
  | 8 => [(82, 3), (108, 5), (40, 4), (89, 1), (87, 2)]
  | 9 => [(40, 0)]
  | _ => []
def zTx (k : Nat) : String := match k with
  | 0 => "show road car gap"
  | 1 => "not"
  | 2 => "and or"
  | 3 => "go"
  | 4 => "if"
  | _ => "car road fuel waiting behind on off rounds every step"
def zFL_p (o : Nat) (q : Nat × Nat × Nat) : Prop := Cond.fieldLink (zRN o) q.1 (zRX q.2.1) (zTX q.2.1 q.2.2).2.1 (zTX q.2.1 q.2.2).2.2.1 ∈ tables_1
theorem zFL_0_0 : ∀ q ∈ ([(39, 5, 0), (88, 5, 1), (45, 5, 2), (60, 5, 3), (94, 5, 4), (110, 5, 5), (71, 5, 7), (119, 5, 8), (9, 0, 0), (15, 0, 1), (19, 0, 2), (23, 0, 3)] : List (Nat × Nat × Nat)), zFL_p 0 q := List.forall_mem_cons.mpr ⟨List.mem_of_getElem? (i := 38) (by decide +kernel), List.forall_mem_cons.mpr ⟨List.mem_of_getElem? (i := 42) (by decide +kernel), List.forall_mem_cons.mpr ⟨List.mem_of_getElem? (i := 45) (by decide +kernel), List.forall_mem_cons.mpr ⟨List.mem_of_getElem? (i := 48) (by decide +kernel), List.forall_mem_cons.mpr ⟨List.mem_of_getElem? (i := 51) (by decide +kernel), List.forall_mem_cons.mpr ⟨List.mem_of_getElem? (i := 55) (by decide +kernel), List.forall_mem_cons.mpr ⟨List.mem_of_getElem? (i := 60) (by decide +kernel), List.forall_mem_cons.mpr ⟨List.mem_of_getElem? (i := 63) (by decide +kernel), List.forall_mem_cons.mpr ⟨List.mem_of_getElem? (i := 182) (by decide +kernel), List.forall_mem_cons.mpr ⟨List.mem_of_getElem? (i := 184) (by decide +kernel), List.forall_mem_cons.mpr ⟨List.mem_of_getElem? (i := 186) (by decide +kernel), List.forall_mem_cons.mpr ⟨List.mem_of_getElem? (i := 188) (by decide +kernel), fun _ h => absurd h List.not_mem_nil⟩⟩⟩⟩⟩⟩⟩⟩⟩⟩⟩⟩
theorem zFL_0_1 : ∀ q ∈ ([(26, 0, 4), (32, 0, 5), (36, 0, 6), (74, 3, 0), (63, 3, 1), (91, 3, 3), (122, 3, 4)] : List (Nat × Nat × Nat)), zFL_p 0 q := List.forall_mem_cons.mpr ⟨List.mem_of_getElem? (i := 191) (by decide +kernel), List.forall_mem_cons.mpr ⟨List.mem_of_getElem? (i := 193) (by decide +kernel), List.forall_mem_cons.mpr ⟨List.mem_of_getElem? (i := 194) (by decide +kernel), List.forall_mem_cons.mpr ⟨List.mem_of_getElem? (i := 358) (by decide +kernel), List.forall_mem_cons.mpr ⟨List.mem_of_getElem? (i := 362) (by decide +kernel), List.forall_mem_cons.mpr ⟨List.mem_of_getElem? (i := 370) (by decide +kernel), List.forall_mem_cons.mpr ⟨List.mem_of_getElem? (i := 374) (by decide +kernel), fun _ h => absurd h List.not_mem_nil⟩⟩⟩⟩⟩⟩⟩
theorem zFL_0 : ∀ q ∈ zFL 0, zFL_p 0 q := by
  show ∀ q ∈ ([(39, 5, 0), (88, 5, 1), (45, 5, 2), (60, 5, 3), (94, 5, 4), (110, 5, 5), (71, 5, 7), (119, 5, 8), (9, 0, 0), (15, 0, 1), (19, 0, 2), (23, 0, 3)] ++ ([(26, 0, 4), (32, 0, 5), (36, 0, 6), (74, 3, 0), (63, 3, 1), (91, 3, 3), (122, 3, 4)]) : List (Nat × Nat × Nat)), _
  exact List.forall_mem_append.mpr ⟨zFL_0_0, zFL_0_1⟩
theorem zFL_1_0 : ∀ q ∈ ([(9, 1, 0), (15, 1, 1), (19, 1, 2), (23, 1, 3), (29, 1, 4), (36, 1, 5)] : List (Nat × Nat × Nat)), zFL_p 1 q := List.forall_mem_cons.mpr ⟨List.mem_of_getElem? (i := 243) (by decide +kernel), List.forall_mem_cons.mpr ⟨List.mem_of_getElem? (i := 245) (by decide +kernel), List.forall_mem_cons.mpr ⟨List.mem_of_getElem? (i := 247) (by decide +kernel), List.forall_mem_cons.mpr ⟨List.mem_of_getElem? (i := 249) (by decide +kernel), List.forall_mem_cons.mpr ⟨List.mem_of_getElem? (i := 251) (by decide +kernel), List.forall_mem_cons.mpr ⟨List.mem_of_getElem? (i := 253) (by decide +kernel), fun _ h => absurd h List.not_mem_nil⟩⟩⟩⟩⟩⟩
theorem zFL_1 : ∀ q ∈ zFL 1, zFL_p 1 q := by
  show ∀ q ∈ ([(9, 1, 0), (15, 1, 1), (19, 1, 2), (23, 1, 3), (29, 1, 4), (36, 1, 5)] : List (Nat × Nat × Nat)), _
  exact zFL_1_0
theorem zFL_2_0 : ∀ q ∈ ([(37, 5, 0), (9, 2, 0), (15, 2, 1), (19, 2, 2), (22, 2, 3)] : List (Nat × Nat × Nat)), zFL_p 2 q := List.forall_mem_cons.mpr ⟨List.mem_of_getElem? (i := 39) (by decide +kernel), List.forall_mem_cons.mpr ⟨List.mem_of_getElem? (i := 92) (by decide +kernel), List.forall_mem_cons.mpr ⟨List.mem_of_getElem? (i := 94) (by decide +kernel), List.forall_mem_cons.mpr ⟨List.mem_of_getElem? (i := 95) (by decide +kernel), List.forall_mem_cons.mpr ⟨List.mem_of_getElem? (i := 96) (by decide +kernel), fun _ h => absurd h List.not_mem_nil⟩⟩⟩⟩⟩
theorem zFL_2 : ∀ q ∈ zFL 2, zFL_p 2 q := by
  show ∀ q ∈ ([(37, 5, 0), (9, 2, 0), (15, 2, 1), (19, 2, 2), (22, 2, 3)] : List (Nat × Nat × Nat)), _
  exact zFL_2_0
theorem zFL_3_0 : ∀ q ∈ ([(9, 3, 0), (15, 3, 1), (18, 3, 2), (21, 3, 3), (25, 3, 4), (31, 3, 5)] : List (Nat × Nat × Nat)), zFL_p 3 q := List.forall_mem_cons.mpr ⟨List.mem_of_getElem? (i := 357) (by decide +kernel), List.forall_mem_cons.mpr ⟨List.mem_of_getElem? (i := 361) (by decide +kernel), List.forall_mem_cons.mpr ⟨List.mem_of_getElem? (i := 365) (by decide +kernel), List.forall_mem_cons.mpr ⟨List.mem_of_getElem? (i := 368) (by decide +kernel), List.forall_mem_cons.mpr ⟨List.mem_of_getElem? (i := 372) (by decide +kernel), List.forall_mem_cons.mpr ⟨List.mem_of_getElem? (i := 376) (by decide +kernel), fun _ h => absurd h List.not_mem_nil⟩⟩⟩⟩⟩⟩
theorem zFL_3 : ∀ q ∈ zFL 3, zFL_p 3 q := by
  show ∀ q ∈ ([(9, 3, 0), (15, 3, 1), (18, 3, 2), (21, 3, 3), (25, 3, 4), (31, 3, 5)] : List (Nat × Nat × Nat)), _
  exact zFL_3_0
theorem zFL_4_0 : ∀ q ∈ ([(11, 4, 0), (15, 4, 1), (18, 4, 2), (21, 4, 3), (25, 4, 4), (28, 4, 5), (31, 4, 6)] : List (Nat × Nat × Nat)), zFL_p 4 q := List.forall_mem_cons.mpr ⟨List.mem_of_getElem? (i := 121) (by decide +kernel), List.forall_mem_cons.mpr ⟨List.mem_of_getElem? (i := 124) (by decide +kernel), List.forall_mem_cons.mpr ⟨List.mem_of_getElem? (i := 126) (by decide +kernel), List.forall_mem_cons.mpr ⟨List.mem_of_getElem? (i := 130) (by decide +kernel), List.forall_mem_cons.mpr ⟨List.mem_of_getElem? (i := 131) (by decide +kernel), List.forall_mem_cons.mpr ⟨List.mem_of_getElem? (i := 132) (by decide +kernel), List.forall_mem_cons.mpr ⟨List.mem_of_getElem? (i := 133) (by decide +kernel), fun _ h => absurd h List.not_mem_nil⟩⟩⟩⟩⟩⟩⟩
theorem zFL_4 : ∀ q ∈ zFL 4, zFL_p 4 q := by
  show ∀ q ∈ ([(11, 4, 0), (15, 4, 1), (18, 4, 2), (21, 4, 3), (25, 4, 4), (28, 4, 5), (31, 4, 6)] : List (Nat × Nat × Nat)), _
  exact zFL_4_0
theorem zFL_5_0 : ∀ q ∈ ([(9, 5, 0), (15, 5, 1), (18, 5, 2), (21, 5, 3), (24, 5, 4), (27, 5, 5), (31, 5, 6), (34, 5, 7), (37, 5, 8)] : List (Nat × Nat × Nat)), zFL_p 5 q := List.forall_mem_cons.mpr ⟨List.mem_of_getElem? (i := 37) (by decide +kernel), List.forall_mem_cons.mpr ⟨List.mem_of_getElem? (i := 41) (by decide +kernel), List.forall_mem_cons.mpr ⟨List.mem_of_getElem? (i := 44) (by decide +kernel), List.forall_mem_cons.mpr ⟨List.mem_of_getElem? (i := 47) (by decide +kernel), List.forall_mem_cons.mpr ⟨List.mem_of_getElem? (i := 50) (by decide +kernel), List.forall_mem_cons.mpr ⟨List.mem_of_getElem? (i := 53) (by decide +kernel), List.forall_mem_cons.mpr ⟨List.mem_of_getElem? (i := 56) (by decide +kernel), List.forall_mem_cons.mpr ⟨List.mem_of_getElem? (i := 59) (by decide +kernel), List.forall_mem_cons.mpr ⟨List.mem_of_getElem? (i := 62) (by decide +kernel), fun _ h => absurd h List.not_mem_nil⟩⟩⟩⟩⟩⟩⟩⟩⟩
theorem zFL_5 : ∀ q ∈ zFL 5, zFL_p 5 q := by
  show ∀ q ∈ ([(9, 5, 0), (15, 5, 1), (18, 5, 2), (21, 5, 3), (24, 5, 4), (27, 5, 5), (31, 5, 6), (34, 5, 7), (37, 5, 8)] : List (Nat × Nat × Nat)), _
  exact zFL_5_0
theorem zFL_6_0 : ∀ q ∈ ([(59, 0, 3), (9, 6, 0), (15, 6, 1), (19, 6, 2), (24, 6, 3)] : List (Nat × Nat × Nat)), zFL_p 6 q := List.forall_mem_cons.mpr ⟨List.mem_of_getElem? (i := 189) (by decide +kernel), List.forall_mem_cons.mpr ⟨List.mem_of_getElem? (i := 219) (by decide +kernel), List.forall_mem_cons.mpr ⟨List.mem_of_getElem? (i := 221) (by decide +kernel), List.forall_mem_cons.mpr ⟨List.mem_of_getElem? (i := 223) (by decide +kernel), List.forall_mem_cons.mpr ⟨List.mem_of_getElem? (i := 224) (by decide +kernel), fun _ h => absurd h List.not_mem_nil⟩⟩⟩⟩⟩
theorem zFL_6 : ∀ q ∈ zFL 6, zFL_p 6 q := by
  show ∀ q ∈ ([(59, 0, 3), (9, 6, 0), (15, 6, 1), (19, 6, 2), (24, 6, 3)] : List (Nat × Nat × Nat)), _
  exact zFL_6_0
theorem zFL_7_0 : ∀ q ∈ ([(7, 7, 0)] : List (Nat × Nat × Nat)), zFL_p 7 q := List.forall_mem_cons.mpr ⟨List.mem_of_getElem? (i := 591) (by decide +kernel), fun _ h => absurd h List.not_mem_nil⟩
theorem zFL_7 : ∀ q ∈ zFL 7, zFL_p 7 q := by
  show ∀ q ∈ ([(7, 7, 0)] : List (Nat × Nat × Nat)), _
  exact zFL_7_0
theorem zFL_8_0 : ∀ q ∈ ([(55, 4, 0), (99, 4, 1), (72, 4, 2), (14, 8, 0), (18, 8, 1), (22, 8, 2), (26, 8, 3)] : List (Nat × Nat × Nat)), zFL_p 8 q := List.forall_mem_cons.mpr ⟨List.mem_of_getElem? (i := 123) (by decide +kernel), List.forall_mem_cons.mpr ⟨List.mem_of_getElem? (i := 125) (by decide +kernel), List.forall_mem_cons.mpr ⟨List.mem_of_getElem? (i := 128) (by decide +kernel), List.forall_mem_cons.mpr ⟨List.mem_of_getElem? (i := 162) (by decide +kernel), List.forall_mem_cons.mpr ⟨List.mem_of_getElem? (i := 164) (by decide +kernel), List.forall_mem_cons.mpr ⟨List.mem_of_getElem? (i := 165) (by decide +kernel), List.forall_mem_cons.mpr ⟨List.mem_of_getElem? (i := 166) (by decide +kernel), fun _ h => absurd h List.not_mem_nil⟩⟩⟩⟩⟩⟩⟩
theorem zFL_8 : ∀ q ∈ zFL 8, zFL_p 8 q := by
  show ∀ q ∈ ([(55, 4, 0), (99, 4, 1), (72, 4, 2), (14, 8, 0), (18, 8, 1), (22, 8, 2), (26, 8, 3)] : List (Nat × Nat × Nat)), _
  exact zFL_8_0
theorem zFL_9_0 : ∀ q ∈ ([(90, 5, 5), (95, 5, 6), (29, 4, 0), (37, 4, 2), (12, 9, 0), (62, 3, 0), (49, 3, 1), (52, 3, 2), (79, 3, 3), (83, 3, 4), (86, 3, 5)] : List (Nat × Nat × Nat)), zFL_p 9 q := List.forall_mem_cons.mpr ⟨List.mem_of_getElem? (i := 54) (by decide +kernel), List.forall_mem_cons.mpr ⟨List.mem_of_getElem? (i := 57) (by decide +kernel), List.forall_mem_cons.mpr ⟨List.mem_of_getElem? (i := 122) (by decide +kernel), List.forall_mem_cons.mpr ⟨List.mem_of_getElem? (i := 127) (by decide +kernel), List.forall_mem_cons.mpr ⟨List.mem_of_getElem? (i := 149) (by decide +kernel), List.forall_mem_cons.mpr ⟨List.mem_of_getElem? (i := 359) (by decide +kernel), List.forall_mem_cons.mpr ⟨List.mem_of_getElem? (i := 363) (by decide +kernel), List.forall_mem_cons.mpr ⟨List.mem_of_getElem? (i := 366) (by decide +kernel), List.forall_mem_cons.mpr ⟨List.mem_of_getElem? (i := 369) (by decide +kernel), List.forall_mem_cons.mpr ⟨List.mem_of_getElem? (i := 373) (by decide +kernel), List.forall_mem_cons.mpr ⟨List.mem_of_getElem? (i := 377) (by decide +kernel), fun _ h => absurd h List.not_mem_nil⟩⟩⟩⟩⟩⟩⟩⟩⟩⟩⟩
theorem zFL_9 : ∀ q ∈ zFL 9, zFL_p 9 q := by
  show ∀ q ∈ ([(90, 5, 5), (95, 5, 6), (29, 4, 0), (37, 4, 2), (12, 9, 0), (62, 3, 0), (49, 3, 1), (52, 3, 2), (79, 3, 3), (83, 3, 4), (86, 3, 5)] : List (Nat × Nat × Nat)), _
  exact zFL_9_0
theorem zFL_10_0 : ∀ q ∈ ([(146, 5, 0), (149, 5, 1), (152, 5, 2), (155, 5, 3), (167, 5, 4), (192, 5, 6), (182, 5, 7), (189, 5, 8), (132, 2, 0), (118, 4, 2), (114, 9, 0), (141, 8, 0)] : List (Nat × Nat × Nat)), zFL_p 10 q := List.forall_mem_cons.mpr ⟨List.mem_of_getElem? (i := 40) (by decide +kernel), List.forall_mem_cons.mpr ⟨List.mem_of_getElem? (i := 43) (by decide +kernel), List.forall_mem_cons.mpr ⟨List.mem_of_getElem? (i := 46) (by decide +kernel), List.forall_mem_cons.mpr ⟨List.mem_of_getElem? (i := 49) (by decide +kernel), List.forall_mem_cons.mpr ⟨List.mem_of_getElem? (i := 52) (by decide +kernel), List.forall_mem_cons.mpr ⟨List.mem_of_getElem? (i := 58) (by decide +kernel), List.forall_mem_cons.mpr ⟨List.mem_of_getElem? (i := 61) (by decide +kernel), List.forall_mem_cons.mpr ⟨List.mem_of_getElem? (i := 64) (by decide +kernel), List.forall_mem_cons.mpr ⟨List.mem_of_getElem? (i := 93) (by decide +kernel), List.forall_mem_cons.mpr ⟨List.mem_of_getElem? (i := 129) (by decide +kernel), List.forall_mem_cons.mpr ⟨List.mem_of_getElem? (i := 150) (by decide +kernel), List.forall_mem_cons.mpr ⟨List.mem_of_getElem? (i := 163) (by decide +kernel), fun _ h => absurd h List.not_mem_nil⟩⟩⟩⟩⟩⟩⟩⟩⟩⟩⟩⟩
theorem zFL_10_1 : ∀ q ∈ ([(236, 0, 0), (237, 0, 1), (241, 0, 2), (244, 0, 3), (259, 0, 4), (275, 6, 0), (278, 6, 1), (350, 1, 0), (353, 1, 1), (357, 1, 2), (358, 1, 3), (354, 1, 4)] : List (Nat × Nat × Nat)), zFL_p 10 q := List.forall_mem_cons.mpr ⟨List.mem_of_getElem? (i := 183) (by decide +kernel), List.forall_mem_cons.mpr ⟨List.mem_of_getElem? (i := 185) (by decide +kernel), List.forall_mem_cons.mpr ⟨List.mem_of_getElem? (i := 187) (by decide +kernel), List.forall_mem_cons.mpr ⟨List.mem_of_getElem? (i := 190) (by decide +kernel), List.forall_mem_cons.mpr ⟨List.mem_of_getElem? (i := 192) (by decide +kernel), List.forall_mem_cons.mpr ⟨List.mem_of_getElem? (i := 220) (by decide +kernel), List.forall_mem_cons.mpr ⟨List.mem_of_getElem? (i := 222) (by decide +kernel), List.forall_mem_cons.mpr ⟨List.mem_of_getElem? (i := 244) (by decide +kernel), List.forall_mem_cons.mpr ⟨List.mem_of_getElem? (i := 246) (by decide +kernel), List.forall_mem_cons.mpr ⟨List.mem_of_getElem? (i := 248) (by decide +kernel), List.forall_mem_cons.mpr ⟨List.mem_of_getElem? (i := 250) (by decide +kernel), List.forall_mem_cons.mpr ⟨List.mem_of_getElem? (i := 252) (by decide +kernel), fun _ h => absurd h List.not_mem_nil⟩⟩⟩⟩⟩⟩⟩⟩⟩⟩⟩⟩
theorem zFL_10_2 : ∀ q ∈ ([(359, 1, 5), (9, 10, 0), (13, 10, 1), (19, 10, 2), (23, 10, 3), (26, 10, 4), (33, 10, 5), (37, 10, 6), (40, 10, 7), (46, 10, 8), (52, 10, 9), (56, 10, 10)] : List (Nat × Nat × Nat)), zFL_p 10 q := List.forall_mem_cons.mpr ⟨List.mem_of_getElem? (i := 254) (by decide +kernel), List.forall_mem_cons.mpr ⟨List.mem_of_getElem? (i := 268) (by decide +kernel), List.forall_mem_cons.mpr ⟨List.mem_of_getElem? (i := 269) (by decide +kernel), List.forall_mem_cons.mpr ⟨List.mem_of_getElem? (i := 270) (by decide +kernel), List.forall_mem_cons.mpr ⟨List.mem_of_getElem? (i := 271) (by decide +kernel), List.forall_mem_cons.mpr ⟨List.mem_of_getElem? (i := 272) (by decide +kernel), List.forall_mem_cons.mpr ⟨List.mem_of_getElem? (i := 273) (by decide +kernel), List.forall_mem_cons.mpr ⟨List.mem_of_getElem? (i := 274) (by decide +kernel), List.forall_mem_cons.mpr ⟨List.mem_of_getElem? (i := 275) (by decide +kernel), List.forall_mem_cons.mpr ⟨List.mem_of_getElem? (i := 276) (by decide +kernel), List.forall_mem_cons.mpr ⟨List.mem_of_getElem? (i := 277) (by decide +kernel), List.forall_mem_cons.mpr ⟨List.mem_of_getElem? (i := 278) (by decide +kernel), fun _ h => absurd h List.not_mem_nil⟩⟩⟩⟩⟩⟩⟩⟩⟩⟩⟩⟩
theorem zFL_10_3 : ∀ q ∈ ([(60, 10, 11), (63, 10, 12), (69, 10, 13), (76, 10, 14), (83, 10, 15), (90, 10, 16), (94, 10, 17), (97, 10, 18), (101, 10, 19), (176, 3, 0), (179, 3, 1), (135, 3, 2)] : List (Nat × Nat × Nat)), zFL_p 10 q := List.forall_mem_cons.mpr ⟨List.mem_of_getElem? (i := 279) (by decide +kernel), List.forall_mem_cons.mpr ⟨List.mem_of_getElem? (i := 280) (by decide +kernel), List.forall_mem_cons.mpr ⟨List.mem_of_getElem? (i := 281) (by decide +kernel), List.forall_mem_cons.mpr ⟨List.mem_of_getElem? (i := 282) (by decide +kernel), List.forall_mem_cons.mpr ⟨List.mem_of_getElem? (i := 283) (by decide +kernel), List.forall_mem_cons.mpr ⟨List.mem_of_getElem? (i := 284) (by decide +kernel), List.forall_mem_cons.mpr ⟨List.mem_of_getElem? (i := 285) (by decide +kernel), List.forall_mem_cons.mpr ⟨List.mem_of_getElem? (i := 286) (by decide +kernel), List.forall_mem_cons.mpr ⟨List.mem_of_getElem? (i := 287) (by decide +kernel), List.forall_mem_cons.mpr ⟨List.mem_of_getElem? (i := 360) (by decide +kernel), List.forall_mem_cons.mpr ⟨List.mem_of_getElem? (i := 364) (by decide +kernel), List.forall_mem_cons.mpr ⟨List.mem_of_getElem? (i := 367) (by decide +kernel), fun _ h => absurd h List.not_mem_nil⟩⟩⟩⟩⟩⟩⟩⟩⟩⟩⟩⟩
theorem zFL_10_4 : ∀ q ∈ ([(161, 3, 3), (164, 3, 4), (123, 3, 5)] : List (Nat × Nat × Nat)), zFL_p 10 q := List.forall_mem_cons.mpr ⟨List.mem_of_getElem? (i := 371) (by decide +kernel), List.forall_mem_cons.mpr ⟨List.mem_of_getElem? (i := 375) (by decide +kernel), List.forall_mem_cons.mpr ⟨List.mem_of_getElem? (i := 378) (by decide +kernel), fun _ h => absurd h List.not_mem_nil⟩⟩⟩
theorem zFL_10 : ∀ q ∈ zFL 10, zFL_p 10 q := by
  show ∀ q ∈ ([(146, 5, 0), (149, 5, 1), (152, 5, 2), (155, 5, 3), (167, 5, 4), (192, 5, 6), (182, 5, 7), (189, 5, 8), (132, 2, 0), (118, 4, 2), (114, 9, 0), (141, 8, 0)] ++ ([(236, 0, 0), (237, 0, 1), (241, 0, 2), (244, 0, 3), (259, 0, 4), (275, 6, 0), (278, 6, 1), (350, 1, 0), (353, 1, 1), (357, 1, 2), (358, 1, 3), (354, 1, 4)] ++ ([(359, 1, 5), (9, 10, 0), (13, 10, 1), (19, 10, 2), (23, 10, 3), (26, 10, 4), (33, 10, 5), (37, 10, 6), (40, 10, 7), (46, 10, 8), (52, 10, 9), (56, 10, 10)] ++ ([(60, 10, 11), (63, 10, 12), (69, 10, 13), (76, 10, 14), (83, 10, 15), (90, 10, 16), (94, 10, 17), (97, 10, 18), (101, 10, 19), (176, 3, 0), (179, 3, 1), (135, 3, 2)] ++ ([(161, 3, 3), (164, 3, 4), (123, 3, 5)])))) : List (Nat × Nat × Nat)), _
  exact List.forall_mem_append.mpr ⟨zFL_10_0, List.forall_mem_append.mpr ⟨zFL_10_1, List.forall_mem_append.mpr ⟨zFL_10_2, List.forall_mem_append.mpr ⟨zFL_10_3, zFL_10_4⟩⟩⟩⟩
theorem zFL_11_0 : ∀ q ∈ ([(7, 11, 0), (83, 11, 1), (260, 11, 2), (13, 11, 3), (17, 11, 4), (20, 11, 5), (23, 11, 6), (26, 11, 7), (93, 11, 8), (90, 11, 9), (118, 11, 10), (145, 11, 11)] : List (Nat × Nat × Nat)), zFL_p 11 q := List.forall_mem_cons.mpr ⟨List.mem_of_getElem? (i := 956) (by decide +kernel), List.forall_mem_cons.mpr ⟨List.mem_of_getElem? (i := 957) (by decide +kernel), List.forall_mem_cons.mpr ⟨List.mem_of_getElem? (i := 958) (by decide +kernel), List.forall_mem_cons.mpr ⟨List.mem_of_getElem? (i := 959) (by decide +kernel), List.forall_mem_cons.mpr ⟨List.mem_of_getElem? (i := 960) (by decide +kernel), List.forall_mem_cons.mpr ⟨List.mem_of_getElem? (i := 961) (by decide +kernel), List.forall_mem_cons.mpr ⟨List.mem_of_getElem? (i := 962) (by decide +kernel), List.forall_mem_cons.mpr ⟨List.mem_of_getElem? (i := 963) (by decide +kernel), List.forall_mem_cons.mpr ⟨List.mem_of_getElem? (i := 964) (by decide +kernel), List.forall_mem_cons.mpr ⟨List.mem_of_getElem? (i := 965) (by decide +kernel), List.forall_mem_cons.mpr ⟨List.mem_of_getElem? (i := 966) (by decide +kernel), List.forall_mem_cons.mpr ⟨List.mem_of_getElem? (i := 967) (by decide +kernel), fun _ h => absurd h List.not_mem_nil⟩⟩⟩⟩⟩⟩⟩⟩⟩⟩⟩⟩
theorem zFL_11_1 : ∀ q ∈ ([(148, 11, 12), (151, 11, 13), (248, 11, 14), (29, 11, 15), (154, 11, 16), (32, 11, 17), (272, 11, 18), (36, 11, 19), (39, 11, 20), (42, 11, 21), (453, 11, 22), (46, 11, 23)] : List (Nat × Nat × Nat)), zFL_p 11 q := List.forall_mem_cons.mpr ⟨List.mem_of_getElem? (i := 968) (by decide +kernel), List.forall_mem_cons.mpr ⟨List.mem_of_getElem? (i := 969) (by decide +kernel), List.forall_mem_cons.mpr ⟨List.mem_of_getElem? (i := 970) (by decide +kernel), List.forall_mem_cons.mpr ⟨List.mem_of_getElem? (i := 971) (by decide +kernel), List.forall_mem_cons.mpr ⟨List.mem_of_getElem? (i := 972) (by decide +kernel), List.forall_mem_cons.mpr ⟨List.mem_of_getElem? (i := 973) (by decide +kernel), List.forall_mem_cons.mpr ⟨List.mem_of_getElem? (i := 974) (by decide +kernel), List.forall_mem_cons.mpr ⟨List.mem_of_getElem? (i := 975) (by decide +kernel), List.forall_mem_cons.mpr ⟨List.mem_of_getElem? (i := 976) (by decide +kernel), List.forall_mem_cons.mpr ⟨List.mem_of_getElem? (i := 977) (by decide +kernel), List.forall_mem_cons.mpr ⟨List.mem_of_getElem? (i := 978) (by decide +kernel), List.forall_mem_cons.mpr ⟨List.mem_of_getElem? (i := 979) (by decide +kernel), fun _ h => absurd h List.not_mem_nil⟩⟩⟩⟩⟩⟩⟩⟩⟩⟩⟩⟩
theorem zFL_11_2 : ∀ q ∈ ([(49, 11, 24), (350, 11, 25), (52, 11, 26), (269, 11, 27), (55, 11, 28), (404, 11, 29), (401, 11, 30), (58, 11, 31), (61, 11, 32), (64, 11, 33), (68, 11, 34), (456, 11, 35)] : List (Nat × Nat × Nat)), zFL_p 11 q := List.forall_mem_cons.mpr ⟨List.mem_of_getElem? (i := 980) (by decide +kernel), List.forall_mem_cons.mpr ⟨List.mem_of_getElem? (i := 981) (by decide +kernel), List.forall_mem_cons.mpr ⟨List.mem_of_getElem? (i := 982) (by decide +kernel), List.forall_mem_cons.mpr ⟨List.mem_of_getElem? (i := 983) (by decide +kernel), List.forall_mem_cons.mpr ⟨List.mem_of_getElem? (i := 984) (by decide +kernel), List.forall_mem_cons.mpr ⟨List.mem_of_getElem? (i := 985) (by decide +kernel), List.forall_mem_cons.mpr ⟨List.mem_of_getElem? (i := 986) (by decide +kernel), List.forall_mem_cons.mpr ⟨List.mem_of_getElem? (i := 987) (by decide +kernel), List.forall_mem_cons.mpr ⟨List.mem_of_getElem? (i := 988) (by decide +kernel), List.forall_mem_cons.mpr ⟨List.mem_of_getElem? (i := 989) (by decide +kernel), List.forall_mem_cons.mpr ⟨List.mem_of_getElem? (i := 990) (by decide +kernel), List.forall_mem_cons.mpr ⟨List.mem_of_getElem? (i := 991) (by decide +kernel), fun _ h => absurd h List.not_mem_nil⟩⟩⟩⟩⟩⟩⟩⟩⟩⟩⟩⟩
theorem zFL_11_3 : ∀ q ∈ ([(71, 11, 36), (74, 11, 37), (77, 11, 38), (80, 11, 39)] : List (Nat × Nat × Nat)), zFL_p 11 q := List.forall_mem_cons.mpr ⟨List.mem_of_getElem? (i := 992) (by decide +kernel), List.forall_mem_cons.mpr ⟨List.mem_of_getElem? (i := 993) (by decide +kernel), List.forall_mem_cons.mpr ⟨List.mem_of_getElem? (i := 994) (by decide +kernel), List.forall_mem_cons.mpr ⟨List.mem_of_getElem? (i := 995) (by decide +kernel), fun _ h => absurd h List.not_mem_nil⟩⟩⟩⟩
theorem zFL_11 : ∀ q ∈ zFL 11, zFL_p 11 q := by
  show ∀ q ∈ ([(7, 11, 0), (83, 11, 1), (260, 11, 2), (13, 11, 3), (17, 11, 4), (20, 11, 5), (23, 11, 6), (26, 11, 7), (93, 11, 8), (90, 11, 9), (118, 11, 10), (145, 11, 11)] ++ ([(148, 11, 12), (151, 11, 13), (248, 11, 14), (29, 11, 15), (154, 11, 16), (32, 11, 17), (272, 11, 18), (36, 11, 19), (39, 11, 20), (42, 11, 21), (453, 11, 22), (46, 11, 23)] ++ ([(49, 11, 24), (350, 11, 25), (52, 11, 26), (269, 11, 27), (55, 11, 28), (404, 11, 29), (401, 11, 30), (58, 11, 31), (61, 11, 32), (64, 11, 33), (68, 11, 34), (456, 11, 35)] ++ ([(71, 11, 36), (74, 11, 37), (77, 11, 38), (80, 11, 39)]))) : List (Nat × Nat × Nat)), _
  exact List.forall_mem_append.mpr ⟨zFL_11_0, List.forall_mem_append.mpr ⟨zFL_11_1, List.forall_mem_append.mpr ⟨zFL_11_2, zFL_11_3⟩⟩⟩
theorem zFL_ok : ∀ o, ∀ q ∈ zFL o, zFL_p o q := by
  intro o; unfold zFL; split
  · exact zFL_0
  · exact zFL_1
  · exact zFL_2
  · exact zFL_3
  · exact zFL_4
  · exact zFL_5
  · exact zFL_6
  · exact zFL_7
  · exact zFL_8
  · exact zFL_9
  · exact zFL_10
  · exact zFL_11
  · intro q h; cases h
def zML_p (o : Nat) (q : Nat × Nat × Nat) : Prop := (if q.2.2 = 3 then Cond.methodLinkNest (zRN o) q.1 (zM q.2.1).1 "LetOff" else Cond.methodLink (zRN o) q.1 (zM q.2.1).1) ∈ tables_1
theorem zML_0_0 : ∀ q ∈ ([(48, 62, 0), (85, 63, 0), (97, 64, 0), (106, 65, 0), (113, 56, 1), (100, 66, 0), (52, 70, 0), (56, 71, 0), (77, 72, 0), (81, 73, 0), (68, 74, 0), (125, 75, 0)] : List (Nat × Nat × Nat)), zML_p 0 q := List.forall_mem_cons.mpr ⟨List.mem_of_getElem? (i := 661) (by decide +kernel), List.forall_mem_cons.mpr ⟨List.mem_of_getElem? (i := 665) (by decide +kernel), List.forall_mem_cons.mpr ⟨List.mem_of_getElem? (i := 669) (by decide +kernel), List.forall_mem_cons.mpr ⟨List.mem_of_getElem? (i := 673) (by decide +kernel), List.forall_mem_cons.mpr ⟨List.mem_of_getElem? (i := 677) (by decide +kernel), List.forall_mem_cons.mpr ⟨List.mem_of_getElem? (i := 678) (by decide +kernel), List.forall_mem_cons.mpr ⟨List.mem_of_getElem? (i := 693) (by decide +kernel), List.forall_mem_cons.mpr ⟨List.mem_of_getElem? (i := 697) (by decide +kernel), List.forall_mem_cons.mpr ⟨List.mem_of_getElem? (i := 701) (by decide +kernel), List.forall_mem_cons.mpr ⟨List.mem_of_getElem? (i := 705) (by decide +kernel), List.forall_mem_cons.mpr ⟨List.mem_of_getElem? (i := 709) (by decide +kernel), List.forall_mem_cons.mpr ⟨List.mem_of_getElem? (i := 713) (by decide +kernel), fun _ h => absurd h List.not_mem_nil⟩⟩⟩⟩⟩⟩⟩⟩⟩⟩⟩⟩
theorem zML_0_1 : ∀ q ∈ ([(129, 28, 0)] : List (Nat × Nat × Nat)), zML_p 0 q := List.forall_mem_cons.mpr ⟨List.mem_of_getElem? (i := 717) (by decide +kernel), fun _ h => absurd h List.not_mem_nil⟩
theorem zML_0 : ∀ q ∈ zML 0, zML_p 0 q := by
  show ∀ q ∈ ([(48, 62, 0), (85, 63, 0), (97, 64, 0), (106, 65, 0), (113, 56, 1), (100, 66, 0), (52, 70, 0), (56, 71, 0), (77, 72, 0), (81, 73, 0), (68, 74, 0), (125, 75, 0)] ++ ([(129, 28, 0)]) : List (Nat × Nat × Nat)), _
  exact List.forall_mem_append.mpr ⟨zML_0_0, zML_0_1⟩
theorem zML_1_0 : ∀ q ∈ ([(28, 1, 3), (35, 2, 3)] : List (Nat × Nat × Nat)), zML_p 1 q := List.forall_mem_cons.mpr ⟨List.mem_of_getElem? (i := 240) (by decide +kernel), List.forall_mem_cons.mpr ⟨List.mem_of_getElem? (i := 242) (by decide +kernel), fun _ h => absurd h List.not_mem_nil⟩⟩
theorem zML_1 : ∀ q ∈ zML 1, zML_p 1 q := by
  show ∀ q ∈ ([(28, 1, 3), (35, 2, 3)] : List (Nat × Nat × Nat)), _
  exact zML_1_0
theorem zML_2_0 : ∀ q ∈ ([(31, 17, 1)] : List (Nat × Nat × Nat)), zML_p 2 q := List.forall_mem_cons.mpr ⟨List.mem_of_getElem? (i := 893) (by decide +kernel), fun _ h => absurd h List.not_mem_nil⟩
theorem zML_2 : ∀ q ∈ zML 2, zML_p 2 q := by
  show ∀ q ∈ ([(31, 17, 1)] : List (Nat × Nat × Nat)), _
  exact zML_2_0
theorem zML_3_0 : ∀ q ∈ ([(30, 1, 3)] : List (Nat × Nat × Nat)), zML_p 3 q := List.forall_mem_cons.mpr ⟨List.mem_of_getElem? (i := 356) (by decide +kernel), fun _ h => absurd h List.not_mem_nil⟩
theorem zML_3 : ∀ q ∈ zML 3, zML_p 3 q := by
  show ∀ q ∈ ([(30, 1, 3)] : List (Nat × Nat × Nat)), _
  exact zML_3_0
theorem zML_4_0 : ∀ q ∈ ([(34, 16, 1), (40, 17, 1), (49, 18, 0), (52, 19, 1), (60, 22, 0), (64, 24, 0), (56, 31, 0)] : List (Nat × Nat × Nat)), zML_p 4 q := List.forall_mem_cons.mpr ⟨List.mem_of_getElem? (i := 396) (by decide +kernel), List.forall_mem_cons.mpr ⟨List.mem_of_getElem? (i := 399) (by decide +kernel), List.forall_mem_cons.mpr ⟨List.mem_of_getElem? (i := 405) (by decide +kernel), List.forall_mem_cons.mpr ⟨List.mem_of_getElem? (i := 409) (by decide +kernel), List.forall_mem_cons.mpr ⟨List.mem_of_getElem? (i := 478) (by decide +kernel), List.forall_mem_cons.mpr ⟨List.mem_of_getElem? (i := 479) (by decide +kernel), List.forall_mem_cons.mpr ⟨List.mem_of_getElem? (i := 507) (by decide +kernel), fun _ h => absurd h List.not_mem_nil⟩⟩⟩⟩⟩⟩⟩
theorem zML_4 : ∀ q ∈ zML 4, zML_p 4 q := by
  show ∀ q ∈ ([(34, 16, 1), (40, 17, 1), (49, 18, 0), (52, 19, 1), (60, 22, 0), (64, 24, 0), (56, 31, 0)] : List (Nat × Nat × Nat)), _
  exact zML_4_0
theorem zML_5_0 : ∀ q ∈ ([(40, 70, 0)] : List (Nat × Nat × Nat)), zML_p 5 q := List.forall_mem_cons.mpr ⟨List.mem_of_getElem? (i := 737) (by decide +kernel), fun _ h => absurd h List.not_mem_nil⟩
theorem zML_5 : ∀ q ∈ zML 5, zML_p 5 q := by
  show ∀ q ∈ ([(40, 70, 0)] : List (Nat × Nat × Nat)), _
  exact zML_5_0
theorem zML_6_0 : ∀ q ∈ ([(29, 32, 0), (33, 16, 1), (39, 100, 0), (43, 101, 0), (49, 56, 1), (55, 102, 0), (62, 61, 0), (28, 1, 3)] : List (Nat × Nat × Nat)), zML_p 6 q := List.forall_mem_cons.mpr ⟨List.mem_of_getElem? (i := 813) (by decide +kernel), List.forall_mem_cons.mpr ⟨List.mem_of_getElem? (i := 814) (by decide +kernel), List.forall_mem_cons.mpr ⟨List.mem_of_getElem? (i := 815) (by decide +kernel), List.forall_mem_cons.mpr ⟨List.mem_of_getElem? (i := 819) (by decide +kernel), List.forall_mem_cons.mpr ⟨List.mem_of_getElem? (i := 823) (by decide +kernel), List.forall_mem_cons.mpr ⟨List.mem_of_getElem? (i := 824) (by decide +kernel), List.forall_mem_cons.mpr ⟨List.mem_of_getElem? (i := 829) (by decide +kernel), List.forall_mem_cons.mpr ⟨List.mem_of_getElem? (i := 218) (by decide +kernel), fun _ h => absurd h List.not_mem_nil⟩⟩⟩⟩⟩⟩⟩⟩
theorem zML_6 : ∀ q ∈ zML 6, zML_p 6 q := by
  show ∀ q ∈ ([(29, 32, 0), (33, 16, 1), (39, 100, 0), (43, 101, 0), (49, 56, 1), (55, 102, 0), (62, 61, 0), (28, 1, 3)] : List (Nat × Nat × Nat)), _
  exact zML_6_0
theorem zML_7_0 : ∀ q ∈ ([(17, 67, 1), (21, 68, 1), (25, 69, 1)] : List (Nat × Nat × Nat)), zML_p 7 q := List.forall_mem_cons.mpr ⟨List.mem_of_getElem? (i := 684) (by decide +kernel), List.forall_mem_cons.mpr ⟨List.mem_of_getElem? (i := 687) (by decide +kernel), List.forall_mem_cons.mpr ⟨List.mem_of_getElem? (i := 690) (by decide +kernel), fun _ h => absurd h List.not_mem_nil⟩⟩⟩
theorem zML_7 : ∀ q ∈ zML 7, zML_p 7 q := by
  show ∀ q ∈ ([(17, 67, 1), (21, 68, 1), (25, 69, 1)] : List (Nat × Nat × Nat)), _
  exact zML_7_0
theorem zML_8_0 : ∀ q ∈ ([(29, 15, 0), (33, 35, 0), (42, 21, 0), (79, 22, 0), (46, 18, 0), (37, 36, 0), (105, 37, 0), (110, 24, 0), (102, 38, 0), (76, 39, 0), (52, 40, 0), (49, 41, 0)] : List (Nat × Nat × Nat)), zML_p 8 q := List.forall_mem_cons.mpr ⟨List.mem_of_getElem? (i := 523) (by decide +kernel), List.forall_mem_cons.mpr ⟨List.mem_of_getElem? (i := 524) (by decide +kernel), List.forall_mem_cons.mpr ⟨List.mem_of_getElem? (i := 529) (by decide +kernel), List.forall_mem_cons.mpr ⟨List.mem_of_getElem? (i := 530) (by decide +kernel), List.forall_mem_cons.mpr ⟨List.mem_of_getElem? (i := 531) (by decide +kernel), List.forall_mem_cons.mpr ⟨List.mem_of_getElem? (i := 532) (by decide +kernel), List.forall_mem_cons.mpr ⟨List.mem_of_getElem? (i := 536) (by decide +kernel), List.forall_mem_cons.mpr ⟨List.mem_of_getElem? (i := 541) (by decide +kernel), List.forall_mem_cons.mpr ⟨List.mem_of_getElem? (i := 542) (by decide +kernel), List.forall_mem_cons.mpr ⟨List.mem_of_getElem? (i := 547) (by decide +kernel), List.forall_mem_cons.mpr ⟨List.mem_of_getElem? (i := 551) (by decide +kernel), List.forall_mem_cons.mpr ⟨List.mem_of_getElem? (i := 557) (by decide +kernel), fun _ h => absurd h List.not_mem_nil⟩⟩⟩⟩⟩⟩⟩⟩⟩⟩⟩⟩
theorem zML_8_1 : ∀ q ∈ ([(84, 42, 0), (91, 31, 0), (95, 43, 0), (69, 30, 0), (60, 44, 1), (66, 45, 2), (13, 4, 3)] : List (Nat × Nat × Nat)), zML_p 8 q := List.forall_mem_cons.mpr ⟨List.mem_of_getElem? (i := 561) (by decide +kernel), List.forall_mem_cons.mpr ⟨List.mem_of_getElem? (i := 566) (by decide +kernel), List.forall_mem_cons.mpr ⟨List.mem_of_getElem? (i := 567) (by decide +kernel), List.forall_mem_cons.mpr ⟨List.mem_of_getElem? (i := 571) (by decide +kernel), List.forall_mem_cons.mpr ⟨List.mem_of_getElem? (i := 575) (by decide +kernel), List.forall_mem_cons.mpr ⟨List.mem_of_getElem? (i := 587) (by decide +kernel), List.forall_mem_cons.mpr ⟨List.mem_of_getElem? (i := 161) (by decide +kernel), fun _ h => absurd h List.not_mem_nil⟩⟩⟩⟩⟩⟩⟩
theorem zML_8 : ∀ q ∈ zML 8, zML_p 8 q := by
  show ∀ q ∈ ([(29, 15, 0), (33, 35, 0), (42, 21, 0), (79, 22, 0), (46, 18, 0), (37, 36, 0), (105, 37, 0), (110, 24, 0), (102, 38, 0), (76, 39, 0), (52, 40, 0), (49, 41, 0)] ++ ([(84, 42, 0), (91, 31, 0), (95, 43, 0), (69, 30, 0), (60, 44, 1), (66, 45, 2), (13, 4, 3)]) : List (Nat × Nat × Nat)), _
  exact List.forall_mem_append.mpr ⟨zML_8_0, zML_8_1⟩
theorem zML_9_0 : ∀ q ∈ ([(21, 15, 0), (25, 20, 0), (42, 21, 0), (46, 22, 0), (55, 18, 0), (58, 23, 0), (65, 25, 0), (75, 26, 0), (69, 27, 0), (98, 28, 0), (72, 29, 0), (33, 30, 0)] : List (Nat × Nat × Nat)), zML_p 9 q := List.forall_mem_cons.mpr ⟨List.mem_of_getElem? (i := 392) (by decide +kernel), List.forall_mem_cons.mpr ⟨List.mem_of_getElem? (i := 412) (by decide +kernel), List.forall_mem_cons.mpr ⟨List.mem_of_getElem? (i := 417) (by decide +kernel), List.forall_mem_cons.mpr ⟨List.mem_of_getElem? (i := 469) (by decide +kernel), List.forall_mem_cons.mpr ⟨List.mem_of_getElem? (i := 473) (by decide +kernel), List.forall_mem_cons.mpr ⟨List.mem_of_getElem? (i := 474) (by decide +kernel), List.forall_mem_cons.mpr ⟨List.mem_of_getElem? (i := 483) (by decide +kernel), List.forall_mem_cons.mpr ⟨List.mem_of_getElem? (i := 487) (by decide +kernel), List.forall_mem_cons.mpr ⟨List.mem_of_getElem? (i := 491) (by decide +kernel), List.forall_mem_cons.mpr ⟨List.mem_of_getElem? (i := 495) (by decide +kernel), List.forall_mem_cons.mpr ⟨List.mem_of_getElem? (i := 499) (by decide +kernel), List.forall_mem_cons.mpr ⟨List.mem_of_getElem? (i := 503) (by decide +kernel), fun _ h => absurd h List.not_mem_nil⟩⟩⟩⟩⟩⟩⟩⟩⟩⟩⟩⟩
theorem zML_9_1 : ∀ q ∈ ([(11, 4, 3), (20, 14, 3)] : List (Nat × Nat × Nat)), zML_p 9 q := List.forall_mem_cons.mpr ⟨List.mem_of_getElem? (i := 117) (by decide +kernel), List.forall_mem_cons.mpr ⟨List.mem_of_getElem? (i := 351) (by decide +kernel), fun _ h => absurd h List.not_mem_nil⟩⟩
theorem zML_9 : ∀ q ∈ zML 9, zML_p 9 q := by
  show ∀ q ∈ ([(21, 15, 0), (25, 20, 0), (42, 21, 0), (46, 22, 0), (55, 18, 0), (58, 23, 0), (65, 25, 0), (75, 26, 0), (69, 27, 0), (98, 28, 0), (72, 29, 0), (33, 30, 0)] ++ ([(11, 4, 3), (20, 14, 3)]) : List (Nat × Nat × Nat)), _
  exact List.forall_mem_append.mpr ⟨zML_9_0, zML_9_1⟩
theorem zML_10_0 : ∀ q ∈ ([(89, 7, 2), (106, 10, 0), (110, 13, 0), (128, 32, 0), (138, 34, 0), (142, 48, 1), (158, 50, 0), (170, 52, 0), (173, 53, 0), (185, 55, 0), (195, 56, 1), (201, 57, 0)] : List (Nat × Nat × Nat)), zML_p 10 q := List.forall_mem_cons.mpr ⟨List.mem_of_getElem? (i := 213) (by decide +kernel), List.forall_mem_cons.mpr ⟨List.mem_of_getElem? (i := 333) (by decide +kernel), List.forall_mem_cons.mpr ⟨List.mem_of_getElem? (i := 345) (by decide +kernel), List.forall_mem_cons.mpr ⟨List.mem_of_getElem? (i := 511) (by decide +kernel), List.forall_mem_cons.mpr ⟨List.mem_of_getElem? (i := 519) (by decide +kernel), List.forall_mem_cons.mpr ⟨List.mem_of_getElem? (i := 603) (by decide +kernel), List.forall_mem_cons.mpr ⟨List.mem_of_getElem? (i := 610) (by decide +kernel), List.forall_mem_cons.mpr ⟨List.mem_of_getElem? (i := 618) (by decide +kernel), List.forall_mem_cons.mpr ⟨List.mem_of_getElem? (i := 622) (by decide +kernel), List.forall_mem_cons.mpr ⟨List.mem_of_getElem? (i := 630) (by decide +kernel), List.forall_mem_cons.mpr ⟨List.mem_of_getElem? (i := 634) (by decide +kernel), List.forall_mem_cons.mpr ⟨List.mem_of_getElem? (i := 640) (by decide +kernel), fun _ h => absurd h List.not_mem_nil⟩⟩⟩⟩⟩⟩⟩⟩⟩⟩⟩⟩
theorem zML_10_1 : ∀ q ∈ ([(204, 59, 0), (221, 16, 1), (207, 60, 0), (210, 61, 0), (214, 77, 0), (217, 78, 1), (227, 80, 0), (230, 82, 0), (233, 85, 1), (247, 87, 0), (251, 88, 0), (255, 90, 0)] : List (Nat × Nat × Nat)), zML_p 10 q := List.forall_mem_cons.mpr ⟨List.mem_of_getElem? (i := 648) (by decide +kernel), List.forall_mem_cons.mpr ⟨List.mem_of_getElem? (i := 652) (by decide +kernel), List.forall_mem_cons.mpr ⟨List.mem_of_getElem? (i := 653) (by decide +kernel), List.forall_mem_cons.mpr ⟨List.mem_of_getElem? (i := 657) (by decide +kernel), List.forall_mem_cons.mpr ⟨List.mem_of_getElem? (i := 722) (by decide +kernel), List.forall_mem_cons.mpr ⟨List.mem_of_getElem? (i := 726) (by decide +kernel), List.forall_mem_cons.mpr ⟨List.mem_of_getElem? (i := 733) (by decide +kernel), List.forall_mem_cons.mpr ⟨List.mem_of_getElem? (i := 742) (by decide +kernel), List.forall_mem_cons.mpr ⟨List.mem_of_getElem? (i := 754) (by decide +kernel), List.forall_mem_cons.mpr ⟨List.mem_of_getElem? (i := 761) (by decide +kernel), List.forall_mem_cons.mpr ⟨List.mem_of_getElem? (i := 765) (by decide +kernel), List.forall_mem_cons.mpr ⟨List.mem_of_getElem? (i := 773) (by decide +kernel), fun _ h => absurd h List.not_mem_nil⟩⟩⟩⟩⟩⟩⟩⟩⟩⟩⟩⟩
theorem zML_10_2 : ∀ q ∈ ([(263, 94, 0), (267, 95, 0), (271, 99, 0), (281, 17, 1), (284, 105, 0), (292, 106, 1), (295, 107, 1), (288, 108, 0), (299, 110, 0), (303, 112, 0), (306, 114, 0), (316, 116, 0)] : List (Nat × Nat × Nat)), zML_p 10 q := List.forall_mem_cons.mpr ⟨List.mem_of_getElem? (i := 789) (by decide +kernel), List.forall_mem_cons.mpr ⟨List.mem_of_getElem? (i := 793) (by decide +kernel), List.forall_mem_cons.mpr ⟨List.mem_of_getElem? (i := 809) (by decide +kernel), List.forall_mem_cons.mpr ⟨List.mem_of_getElem? (i := 834) (by decide +kernel), List.forall_mem_cons.mpr ⟨List.mem_of_getElem? (i := 839) (by decide +kernel), List.forall_mem_cons.mpr ⟨List.mem_of_getElem? (i := 843) (by decide +kernel), List.forall_mem_cons.mpr ⟨List.mem_of_getElem? (i := 846) (by decide +kernel), List.forall_mem_cons.mpr ⟨List.mem_of_getElem? (i := 849) (by decide +kernel), List.forall_mem_cons.mpr ⟨List.mem_of_getElem? (i := 857) (by decide +kernel), List.forall_mem_cons.mpr ⟨List.mem_of_getElem? (i := 865) (by decide +kernel), List.forall_mem_cons.mpr ⟨List.mem_of_getElem? (i := 873) (by decide +kernel), List.forall_mem_cons.mpr ⟨List.mem_of_getElem? (i := 881) (by decide +kernel), fun _ h => absurd h List.not_mem_nil⟩⟩⟩⟩⟩⟩⟩⟩⟩⟩⟩⟩
theorem zML_10_3 : ∀ q ∈ ([(320, 117, 0), (309, 118, 0), (312, 119, 0), (324, 122, 1), (330, 123, 0), (333, 124, 0), (336, 127, 0), (340, 128, 0), (360, 130, 0), (32, 1, 3), (45, 2, 3), (68, 3, 3)] : List (Nat × Nat × Nat)), zML_p 10 q := List.forall_mem_cons.mpr ⟨List.mem_of_getElem? (i := 885) (by decide +kernel), List.forall_mem_cons.mpr ⟨List.mem_of_getElem? (i := 889) (by decide +kernel), List.forall_mem_cons.mpr ⟨List.mem_of_getElem? (i := 894) (by decide +kernel), List.forall_mem_cons.mpr ⟨List.mem_of_getElem? (i := 906) (by decide +kernel), List.forall_mem_cons.mpr ⟨List.mem_of_getElem? (i := 909) (by decide +kernel), List.forall_mem_cons.mpr ⟨List.mem_of_getElem? (i := 913) (by decide +kernel), List.forall_mem_cons.mpr ⟨List.mem_of_getElem? (i := 925) (by decide +kernel), List.forall_mem_cons.mpr ⟨List.mem_of_getElem? (i := 929) (by decide +kernel), List.forall_mem_cons.mpr ⟨List.mem_of_getElem? (i := 941) (by decide +kernel), List.forall_mem_cons.mpr ⟨List.mem_of_getElem? (i := 33) (by decide +kernel), List.forall_mem_cons.mpr ⟨List.mem_of_getElem? (i := 88) (by decide +kernel), List.forall_mem_cons.mpr ⟨List.mem_of_getElem? (i := 111) (by decide +kernel), fun _ h => absurd h List.not_mem_nil⟩⟩⟩⟩⟩⟩⟩⟩⟩⟩⟩⟩
theorem zML_10_4 : ∀ q ∈ ([(75, 5, 3), (82, 6, 3), (105, 8, 3)] : List (Nat × Nat × Nat)), zML_p 10 q := List.forall_mem_cons.mpr ⟨List.mem_of_getElem? (i := 156) (by decide +kernel), List.forall_mem_cons.mpr ⟨List.mem_of_getElem? (i := 178) (by decide +kernel), List.forall_mem_cons.mpr ⟨List.mem_of_getElem? (i := 235) (by decide +kernel), fun _ h => absurd h List.not_mem_nil⟩⟩⟩
theorem zML_10 : ∀ q ∈ zML 10, zML_p 10 q := by
  show ∀ q ∈ ([(89, 7, 2), (106, 10, 0), (110, 13, 0), (128, 32, 0), (138, 34, 0), (142, 48, 1), (158, 50, 0), (170, 52, 0), (173, 53, 0), (185, 55, 0), (195, 56, 1), (201, 57, 0)] ++ ([(204, 59, 0), (221, 16, 1), (207, 60, 0), (210, 61, 0), (214, 77, 0), (217, 78, 1), (227, 80, 0), (230, 82, 0), (233, 85, 1), (247, 87, 0), (251, 88, 0), (255, 90, 0)] ++ ([(263, 94, 0), (267, 95, 0), (271, 99, 0), (281, 17, 1), (284, 105, 0), (292, 106, 1), (295, 107, 1), (288, 108, 0), (299, 110, 0), (303, 112, 0), (306, 114, 0), (316, 116, 0)] ++ ([(320, 117, 0), (309, 118, 0), (312, 119, 0), (324, 122, 1), (330, 123, 0), (333, 124, 0), (336, 127, 0), (340, 128, 0), (360, 130, 0), (32, 1, 3), (45, 2, 3), (68, 3, 3)] ++ ([(75, 5, 3), (82, 6, 3), (105, 8, 3)])))) : List (Nat × Nat × Nat)), _
  exact List.forall_mem_append.mpr ⟨zML_10_0, List.forall_mem_append.mpr ⟨zML_10_1, List.forall_mem_append.mpr ⟨zML_10_2, List.forall_mem_append.mpr ⟨zML_10_3, zML_10_4⟩⟩⟩⟩
theorem zML_11_0 : ∀ q ∈ ([(86, 134, 0), (263, 137, 0), (257, 138, 0), (96, 139, 0), (243, 140, 0), (104, 141, 0), (100, 142, 0), (114, 143, 0), (251, 144, 0), (229, 145, 0), (108, 146, 0), (217, 147, 0)] : List (Nat × Nat × Nat)), zML_p 11 q := List.forall_mem_cons.mpr ⟨List.mem_of_getElem? (i := 1082) (by decide +kernel), List.forall_mem_cons.mpr ⟨List.mem_of_getElem? (i := 1094) (by decide +kernel), List.forall_mem_cons.mpr ⟨List.mem_of_getElem? (i := 1098) (by decide +kernel), List.forall_mem_cons.mpr ⟨List.mem_of_getElem? (i := 1102) (by decide +kernel), List.forall_mem_cons.mpr ⟨List.mem_of_getElem? (i := 1106) (by decide +kernel), List.forall_mem_cons.mpr ⟨List.mem_of_getElem? (i := 1111) (by decide +kernel), List.forall_mem_cons.mpr ⟨List.mem_of_getElem? (i := 1115) (by decide +kernel), List.forall_mem_cons.mpr ⟨List.mem_of_getElem? (i := 1123) (by decide +kernel), List.forall_mem_cons.mpr ⟨List.mem_of_getElem? (i := 1127) (by decide +kernel), List.forall_mem_cons.mpr ⟨List.mem_of_getElem? (i := 1131) (by decide +kernel), List.forall_mem_cons.mpr ⟨List.mem_of_getElem? (i := 1135) (by decide +kernel), List.forall_mem_cons.mpr ⟨List.mem_of_getElem? (i := 1139) (by decide +kernel), fun _ h => absurd h List.not_mem_nil⟩⟩⟩⟩⟩⟩⟩⟩⟩⟩⟩⟩
theorem zML_11_1 : ∀ q ∈ ([(166, 148, 0), (111, 149, 0), (121, 150, 1), (232, 151, 0), (221, 152, 0), (235, 153, 0), (224, 154, 0), (238, 155, 0), (254, 156, 0), (182, 157, 0), (179, 158, 0), (175, 159, 0)] : List (Nat × Nat × Nat)), zML_p 11 q := List.forall_mem_cons.mpr ⟨List.mem_of_getElem? (i := 1143) (by decide +kernel), List.forall_mem_cons.mpr ⟨List.mem_of_getElem? (i := 1147) (by decide +kernel), List.forall_mem_cons.mpr ⟨List.mem_of_getElem? (i := 1151) (by decide +kernel), List.forall_mem_cons.mpr ⟨List.mem_of_getElem? (i := 1154) (by decide +kernel), List.forall_mem_cons.mpr ⟨List.mem_of_getElem? (i := 1158) (by decide +kernel), List.forall_mem_cons.mpr ⟨List.mem_of_getElem? (i := 1162) (by decide +kernel), List.forall_mem_cons.mpr ⟨List.mem_of_getElem? (i := 1166) (by decide +kernel), List.forall_mem_cons.mpr ⟨List.mem_of_getElem? (i := 1170) (by decide +kernel), List.forall_mem_cons.mpr ⟨List.mem_of_getElem? (i := 1174) (by decide +kernel), List.forall_mem_cons.mpr ⟨List.mem_of_getElem? (i := 1178) (by decide +kernel), List.forall_mem_cons.mpr ⟨List.mem_of_getElem? (i := 1182) (by decide +kernel), List.forall_mem_cons.mpr ⟨List.mem_of_getElem? (i := 1186) (by decide +kernel), fun _ h => absurd h List.not_mem_nil⟩⟩⟩⟩⟩⟩⟩⟩⟩⟩⟩⟩
theorem zML_11_2 : ∀ q ∈ ([(169, 160, 0), (161, 161, 0), (172, 162, 0), (211, 163, 0), (214, 164, 0), (199, 165, 0), (187, 166, 0), (190, 167, 0), (202, 168, 0), (193, 169, 0), (157, 170, 1), (196, 171, 0)] : List (Nat × Nat × Nat)), zML_p 11 q := List.forall_mem_cons.mpr ⟨List.mem_of_getElem? (i := 1191) (by decide +kernel), List.forall_mem_cons.mpr ⟨List.mem_of_getElem? (i := 1195) (by decide +kernel), List.forall_mem_cons.mpr ⟨List.mem_of_getElem? (i := 1199) (by decide +kernel), List.forall_mem_cons.mpr ⟨List.mem_of_getElem? (i := 1212) (by decide +kernel), List.forall_mem_cons.mpr ⟨List.mem_of_getElem? (i := 1216) (by decide +kernel), List.forall_mem_cons.mpr ⟨List.mem_of_getElem? (i := 1220) (by decide +kernel), List.forall_mem_cons.mpr ⟨List.mem_of_getElem? (i := 1225) (by decide +kernel), List.forall_mem_cons.mpr ⟨List.mem_of_getElem? (i := 1229) (by decide +kernel), List.forall_mem_cons.mpr ⟨List.mem_of_getElem? (i := 1233) (by decide +kernel), List.forall_mem_cons.mpr ⟨List.mem_of_getElem? (i := 1237) (by decide +kernel), List.forall_mem_cons.mpr ⟨List.mem_of_getElem? (i := 1241) (by decide +kernel), List.forall_mem_cons.mpr ⟨List.mem_of_getElem? (i := 1244) (by decide +kernel), fun _ h => absurd h List.not_mem_nil⟩⟩⟩⟩⟩⟩⟩⟩⟩⟩⟩⟩
theorem zML_11_3 : ∀ q ∈ ([(266, 173, 0), (304, 174, 0), (308, 176, 0), (292, 178, 0), (287, 179, 0), (295, 180, 0), (313, 182, 0), (318, 184, 0), (369, 187, 0), (366, 188, 0), (331, 189, 0), (357, 190, 0)] : List (Nat × Nat × Nat)), zML_p 11 q := List.forall_mem_cons.mpr ⟨List.mem_of_getElem? (i := 1254) (by decide +kernel), List.forall_mem_cons.mpr ⟨List.mem_of_getElem? (i := 1258) (by decide +kernel), List.forall_mem_cons.mpr ⟨List.mem_of_getElem? (i := 1266) (by decide +kernel), List.forall_mem_cons.mpr ⟨List.mem_of_getElem? (i := 1274) (by decide +kernel), List.forall_mem_cons.mpr ⟨List.mem_of_getElem? (i := 1278) (by decide +kernel), List.forall_mem_cons.mpr ⟨List.mem_of_getElem? (i := 1284) (by decide +kernel), List.forall_mem_cons.mpr ⟨List.mem_of_getElem? (i := 1292) (by decide +kernel), List.forall_mem_cons.mpr ⟨List.mem_of_getElem? (i := 1301) (by decide +kernel), List.forall_mem_cons.mpr ⟨List.mem_of_getElem? (i := 1313) (by decide +kernel), List.forall_mem_cons.mpr ⟨List.mem_of_getElem? (i := 1317) (by decide +kernel), List.forall_mem_cons.mpr ⟨List.mem_of_getElem? (i := 1321) (by decide +kernel), List.forall_mem_cons.mpr ⟨List.mem_of_getElem? (i := 1325) (by decide +kernel), fun _ h => absurd h List.not_mem_nil⟩⟩⟩⟩⟩⟩⟩⟩⟩⟩⟩⟩
theorem zML_11_4 : ∀ q ∈ ([(298, 191, 0), (328, 192, 0), (344, 193, 0), (325, 194, 1), (334, 195, 0), (301, 196, 0), (337, 197, 0), (340, 198, 0), (321, 199, 0), (275, 200, 0), (279, 201, 0), (283, 202, 1)] : List (Nat × Nat × Nat)), zML_p 11 q := List.forall_mem_cons.mpr ⟨List.mem_of_getElem? (i := 1329) (by decide +kernel), List.forall_mem_cons.mpr ⟨List.mem_of_getElem? (i := 1333) (by decide +kernel), List.forall_mem_cons.mpr ⟨List.mem_of_getElem? (i := 1337) (by decide +kernel), List.forall_mem_cons.mpr ⟨List.mem_of_getElem? (i := 1341) (by decide +kernel), List.forall_mem_cons.mpr ⟨List.mem_of_getElem? (i := 1344) (by decide +kernel), List.forall_mem_cons.mpr ⟨List.mem_of_getElem? (i := 1348) (by decide +kernel), List.forall_mem_cons.mpr ⟨List.mem_of_getElem? (i := 1352) (by decide +kernel), List.forall_mem_cons.mpr ⟨List.mem_of_getElem? (i := 1356) (by decide +kernel), List.forall_mem_cons.mpr ⟨List.mem_of_getElem? (i := 1360) (by decide +kernel), List.forall_mem_cons.mpr ⟨List.mem_of_getElem? (i := 1364) (by decide +kernel), List.forall_mem_cons.mpr ⟨List.mem_of_getElem? (i := 1368) (by decide +kernel), List.forall_mem_cons.mpr ⟨List.mem_of_getElem? (i := 1372) (by decide +kernel), fun _ h => absurd h List.not_mem_nil⟩⟩⟩⟩⟩⟩⟩⟩⟩⟩⟩⟩
theorem zML_11_5 : ∀ q ∈ ([(347, 203, 0), (354, 204, 0), (360, 205, 0), (363, 206, 0), (372, 208, 0), (377, 210, 0), (380, 212, 0), (385, 215, 0), (388, 216, 0), (391, 177, 0), (395, 217, 0), (398, 221, 0)] : List (Nat × Nat × Nat)), zML_p 11 q := List.forall_mem_cons.mpr ⟨List.mem_of_getElem? (i := 1375) (by decide +kernel), List.forall_mem_cons.mpr ⟨List.mem_of_getElem? (i := 1379) (by decide +kernel), List.forall_mem_cons.mpr ⟨List.mem_of_getElem? (i := 1383) (by decide +kernel), List.forall_mem_cons.mpr ⟨List.mem_of_getElem? (i := 1387) (by decide +kernel), List.forall_mem_cons.mpr ⟨List.mem_of_getElem? (i := 1395) (by decide +kernel), List.forall_mem_cons.mpr ⟨List.mem_of_getElem? (i := 1404) (by decide +kernel), List.forall_mem_cons.mpr ⟨List.mem_of_getElem? (i := 1412) (by decide +kernel), List.forall_mem_cons.mpr ⟨List.mem_of_getElem? (i := 1425) (by decide +kernel), List.forall_mem_cons.mpr ⟨List.mem_of_getElem? (i := 1429) (by decide +kernel), List.forall_mem_cons.mpr ⟨List.mem_of_getElem? (i := 1433) (by decide +kernel), List.forall_mem_cons.mpr ⟨List.mem_of_getElem? (i := 1434) (by decide +kernel), List.forall_mem_cons.mpr ⟨List.mem_of_getElem? (i := 1450) (by decide +kernel), fun _ h => absurd h List.not_mem_nil⟩⟩⟩⟩⟩⟩⟩⟩⟩⟩⟩⟩
theorem zML_11_6 : ∀ q ∈ ([(409, 223, 0), (412, 224, 0), (415, 228, 0), (418, 231, 0), (421, 232, 0), (425, 233, 0), (428, 235, 0), (433, 237, 0), (444, 240, 0), (441, 241, 0), (438, 242, 0), (447, 244, 0)] : List (Nat × Nat × Nat)), zML_p 11 q := List.forall_mem_cons.mpr ⟨List.mem_of_getElem? (i := 1459) (by decide +kernel), List.forall_mem_cons.mpr ⟨List.mem_of_getElem? (i := 1463) (by decide +kernel), List.forall_mem_cons.mpr ⟨List.mem_of_getElem? (i := 1479) (by decide +kernel), List.forall_mem_cons.mpr ⟨List.mem_of_getElem? (i := 1491) (by decide +kernel), List.forall_mem_cons.mpr ⟨List.mem_of_getElem? (i := 1495) (by decide +kernel), List.forall_mem_cons.mpr ⟨List.mem_of_getElem? (i := 1499) (by decide +kernel), List.forall_mem_cons.mpr ⟨List.mem_of_getElem? (i := 1507) (by decide +kernel), List.forall_mem_cons.mpr ⟨List.mem_of_getElem? (i := 1516) (by decide +kernel), List.forall_mem_cons.mpr ⟨List.mem_of_getElem? (i := 1529) (by decide +kernel), List.forall_mem_cons.mpr ⟨List.mem_of_getElem? (i := 1533) (by decide +kernel), List.forall_mem_cons.mpr ⟨List.mem_of_getElem? (i := 1537) (by decide +kernel), List.forall_mem_cons.mpr ⟨List.mem_of_getElem? (i := 1545) (by decide +kernel), fun _ h => absurd h List.not_mem_nil⟩⟩⟩⟩⟩⟩⟩⟩⟩⟩⟩⟩
theorem zML_11_7 : ∀ q ∈ ([(450, 246, 0), (470, 249, 0), (473, 250, 0), (476, 252, 0)] : List (Nat × Nat × Nat)), zML_p 11 q := List.forall_mem_cons.mpr ⟨List.mem_of_getElem? (i := 1553) (by decide +kernel), List.forall_mem_cons.mpr ⟨List.mem_of_getElem? (i := 1566) (by decide +kernel), List.forall_mem_cons.mpr ⟨List.mem_of_getElem? (i := 1574) (by decide +kernel), List.forall_mem_cons.mpr ⟨List.mem_of_getElem? (i := 1582) (by decide +kernel), fun _ h => absurd h List.not_mem_nil⟩⟩⟩⟩
theorem zML_11 : ∀ q ∈ zML 11, zML_p 11 q := by
  show ∀ q ∈ ([(86, 134, 0), (263, 137, 0), (257, 138, 0), (96, 139, 0), (243, 140, 0), (104, 141, 0), (100, 142, 0), (114, 143, 0), (251, 144, 0), (229, 145, 0), (108, 146, 0), (217, 147, 0)] ++ ([(166, 148, 0), (111, 149, 0), (121, 150, 1), (232, 151, 0), (221, 152, 0), (235, 153, 0), (224, 154, 0), (238, 155, 0), (254, 156, 0), (182, 157, 0), (179, 158, 0), (175, 159, 0)] ++ ([(169, 160, 0), (161, 161, 0), (172, 162, 0), (211, 163, 0), (214, 164, 0), (199, 165, 0), (187, 166, 0), (190, 167, 0), (202, 168, 0), (193, 169, 0), (157, 170, 1), (196, 171, 0)] ++ ([(266, 173, 0), (304, 174, 0), (308, 176, 0), (292, 178, 0), (287, 179, 0), (295, 180, 0), (313, 182, 0), (318, 184, 0), (369, 187, 0), (366, 188, 0), (331, 189, 0), (357, 190, 0)] ++ ([(298, 191, 0), (328, 192, 0), (344, 193, 0), (325, 194, 1), (334, 195, 0), (301, 196, 0), (337, 197, 0), (340, 198, 0), (321, 199, 0), (275, 200, 0), (279, 201, 0), (283, 202, 1)] ++ ([(347, 203, 0), (354, 204, 0), (360, 205, 0), (363, 206, 0), (372, 208, 0), (377, 210, 0), (380, 212, 0), (385, 215, 0), (388, 216, 0), (391, 177, 0), (395, 217, 0), (398, 221, 0)] ++ ([(409, 223, 0), (412, 224, 0), (415, 228, 0), (418, 231, 0), (421, 232, 0), (425, 233, 0), (428, 235, 0), (433, 237, 0), (444, 240, 0), (441, 241, 0), (438, 242, 0), (447, 244, 0)] ++ ([(450, 246, 0), (470, 249, 0), (473, 250, 0), (476, 252, 0)]))))))) : List (Nat × Nat × Nat)), _
  exact List.forall_mem_append.mpr ⟨zML_11_0, List.forall_mem_append.mpr ⟨zML_11_1, List.forall_mem_append.mpr ⟨zML_11_2, List.forall_mem_append.mpr ⟨zML_11_3, List.forall_mem_append.mpr ⟨zML_11_4, List.forall_mem_append.mpr ⟨zML_11_5, List.forall_mem_append.mpr ⟨zML_11_6, zML_11_7⟩⟩⟩⟩⟩⟩⟩
theorem zML_12_0 : ∀ q ∈ ([(9, 0, 2), (13, 9, 0), (18, 11, 0), (23, 12, 0), (28, 33, 0), (32, 46, 0), (36, 47, 0), (41, 49, 0), (45, 51, 0), (147, 54, 0), (49, 58, 0), (53, 76, 0)] : List (Nat × Nat × Nat)), zML_p 12 q := List.forall_mem_cons.mpr ⟨List.mem_of_getElem? (i := 23) (by decide +kernel), List.forall_mem_cons.mpr ⟨List.mem_of_getElem? (i := 329) (by decide +kernel), List.forall_mem_cons.mpr ⟨List.mem_of_getElem? (i := 337) (by decide +kernel), List.forall_mem_cons.mpr ⟨List.mem_of_getElem? (i := 341) (by decide +kernel), List.forall_mem_cons.mpr ⟨List.mem_of_getElem? (i := 515) (by decide +kernel), List.forall_mem_cons.mpr ⟨List.mem_of_getElem? (i := 595) (by decide +kernel), List.forall_mem_cons.mpr ⟨List.mem_of_getElem? (i := 599) (by decide +kernel), List.forall_mem_cons.mpr ⟨List.mem_of_getElem? (i := 606) (by decide +kernel), List.forall_mem_cons.mpr ⟨List.mem_of_getElem? (i := 614) (by decide +kernel), List.forall_mem_cons.mpr ⟨List.mem_of_getElem? (i := 626) (by decide +kernel), List.forall_mem_cons.mpr ⟨List.mem_of_getElem? (i := 644) (by decide +kernel), List.forall_mem_cons.mpr ⟨List.mem_of_getElem? (i := 718) (by decide +kernel), fun _ h => absurd h List.not_mem_nil⟩⟩⟩⟩⟩⟩⟩⟩⟩⟩⟩⟩
theorem zML_12_1 : ∀ q ∈ ([(57, 79, 0), (61, 81, 0), (65, 83, 0), (69, 84, 0), (73, 86, 0), (78, 89, 0), (82, 91, 0), (86, 92, 0), (90, 93, 0), (94, 96, 0), (98, 97, 0), (102, 98, 0)] : List (Nat × Nat × Nat)), zML_p 12 q := List.forall_mem_cons.mpr ⟨List.mem_of_getElem? (i := 729) (by decide +kernel), List.forall_mem_cons.mpr ⟨List.mem_of_getElem? (i := 738) (by decide +kernel), List.forall_mem_cons.mpr ⟨List.mem_of_getElem? (i := 746) (by decide +kernel), List.forall_mem_cons.mpr ⟨List.mem_of_getElem? (i := 750) (by decide +kernel), List.forall_mem_cons.mpr ⟨List.mem_of_getElem? (i := 757) (by decide +kernel), List.forall_mem_cons.mpr ⟨List.mem_of_getElem? (i := 769) (by decide +kernel), List.forall_mem_cons.mpr ⟨List.mem_of_getElem? (i := 777) (by decide +kernel), List.forall_mem_cons.mpr ⟨List.mem_of_getElem? (i := 781) (by decide +kernel), List.forall_mem_cons.mpr ⟨List.mem_of_getElem? (i := 785) (by decide +kernel), List.forall_mem_cons.mpr ⟨List.mem_of_getElem? (i := 797) (by decide +kernel), List.forall_mem_cons.mpr ⟨List.mem_of_getElem? (i := 801) (by decide +kernel), List.forall_mem_cons.mpr ⟨List.mem_of_getElem? (i := 805) (by decide +kernel), fun _ h => absurd h List.not_mem_nil⟩⟩⟩⟩⟩⟩⟩⟩⟩⟩⟩⟩
theorem zML_12_2 : ∀ q ∈ ([(110, 103, 0), (114, 104, 0), (119, 109, 0), (123, 111, 0), (127, 113, 0), (106, 115, 0), (131, 120, 0), (135, 121, 0), (139, 125, 0), (143, 126, 0), (151, 129, 0), (155, 131, 0)] : List (Nat × Nat × Nat)), zML_p 12 q := List.forall_mem_cons.mpr ⟨List.mem_of_getElem? (i := 830) (by decide +kernel), List.forall_mem_cons.mpr ⟨List.mem_of_getElem? (i := 835) (by decide +kernel), List.forall_mem_cons.mpr ⟨List.mem_of_getElem? (i := 853) (by decide +kernel), List.forall_mem_cons.mpr ⟨List.mem_of_getElem? (i := 861) (by decide +kernel), List.forall_mem_cons.mpr ⟨List.mem_of_getElem? (i := 869) (by decide +kernel), List.forall_mem_cons.mpr ⟨List.mem_of_getElem? (i := 877) (by decide +kernel), List.forall_mem_cons.mpr ⟨List.mem_of_getElem? (i := 898) (by decide +kernel), List.forall_mem_cons.mpr ⟨List.mem_of_getElem? (i := 902) (by decide +kernel), List.forall_mem_cons.mpr ⟨List.mem_of_getElem? (i := 917) (by decide +kernel), List.forall_mem_cons.mpr ⟨List.mem_of_getElem? (i := 921) (by decide +kernel), List.forall_mem_cons.mpr ⟨List.mem_of_getElem? (i := 937) (by decide +kernel), List.forall_mem_cons.mpr ⟨List.mem_of_getElem? (i := 946) (by decide +kernel), fun _ h => absurd h List.not_mem_nil⟩⟩⟩⟩⟩⟩⟩⟩⟩⟩⟩⟩
theorem zML_12_3 : ∀ q ∈ ([(12, 132, 2), (17, 133, 0), (22, 135, 0), (31, 136, 0), (27, 172, 0), (35, 175, 0), (40, 177, 0), (44, 181, 0), (48, 183, 0), (72, 185, 0), (52, 186, 0), (56, 207, 0)] : List (Nat × Nat × Nat)), zML_p 12 q := List.forall_mem_cons.mpr ⟨List.mem_of_getElem? (i := 952) (by decide +kernel), List.forall_mem_cons.mpr ⟨List.mem_of_getElem? (i := 1078) (by decide +kernel), List.forall_mem_cons.mpr ⟨List.mem_of_getElem? (i := 1086) (by decide +kernel), List.forall_mem_cons.mpr ⟨List.mem_of_getElem? (i := 1090) (by decide +kernel), List.forall_mem_cons.mpr ⟨List.mem_of_getElem? (i := 1250) (by decide +kernel), List.forall_mem_cons.mpr ⟨List.mem_of_getElem? (i := 1262) (by decide +kernel), List.forall_mem_cons.mpr ⟨List.mem_of_getElem? (i := 1270) (by decide +kernel), List.forall_mem_cons.mpr ⟨List.mem_of_getElem? (i := 1288) (by decide +kernel), List.forall_mem_cons.mpr ⟨List.mem_of_getElem? (i := 1297) (by decide +kernel), List.forall_mem_cons.mpr ⟨List.mem_of_getElem? (i := 1305) (by decide +kernel), List.forall_mem_cons.mpr ⟨List.mem_of_getElem? (i := 1309) (by decide +kernel), List.forall_mem_cons.mpr ⟨List.mem_of_getElem? (i := 1391) (by decide +kernel), fun _ h => absurd h List.not_mem_nil⟩⟩⟩⟩⟩⟩⟩⟩⟩⟩⟩⟩
theorem zML_12_4 : ∀ q ∈ ([(60, 209, 0), (64, 211, 0), (68, 213, 0), (77, 214, 0), (81, 218, 0), (85, 219, 0), (89, 220, 0), (93, 222, 0), (97, 225, 0), (101, 226, 0), (105, 227, 0), (113, 229, 0)] : List (Nat × Nat × Nat)), zML_p 12 q := List.forall_mem_cons.mpr ⟨List.mem_of_getElem? (i := 1400) (by decide +kernel), List.forall_mem_cons.mpr ⟨List.mem_of_getElem? (i := 1408) (by decide +kernel), List.forall_mem_cons.mpr ⟨List.mem_of_getElem? (i := 1416) (by decide +kernel), List.forall_mem_cons.mpr ⟨List.mem_of_getElem? (i := 1420) (by decide +kernel), List.forall_mem_cons.mpr ⟨List.mem_of_getElem? (i := 1438) (by decide +kernel), List.forall_mem_cons.mpr ⟨List.mem_of_getElem? (i := 1442) (by decide +kernel), List.forall_mem_cons.mpr ⟨List.mem_of_getElem? (i := 1446) (by decide +kernel), List.forall_mem_cons.mpr ⟨List.mem_of_getElem? (i := 1454) (by decide +kernel), List.forall_mem_cons.mpr ⟨List.mem_of_getElem? (i := 1467) (by decide +kernel), List.forall_mem_cons.mpr ⟨List.mem_of_getElem? (i := 1471) (by decide +kernel), List.forall_mem_cons.mpr ⟨List.mem_of_getElem? (i := 1475) (by decide +kernel), List.forall_mem_cons.mpr ⟨List.mem_of_getElem? (i := 1483) (by decide +kernel), fun _ h => absurd h List.not_mem_nil⟩⟩⟩⟩⟩⟩⟩⟩⟩⟩⟩⟩
theorem zML_12_5 : ∀ q ∈ ([(118, 230, 0), (122, 234, 0), (126, 236, 0), (130, 238, 0), (109, 239, 0), (134, 243, 0), (138, 245, 0), (142, 247, 0), (146, 248, 0), (150, 251, 0), (154, 253, 0), (158, 254, 0)] : List (Nat × Nat × Nat)), zML_p 12 q := List.forall_mem_cons.mpr ⟨List.mem_of_getElem? (i := 1487) (by decide +kernel), List.forall_mem_cons.mpr ⟨List.mem_of_getElem? (i := 1503) (by decide +kernel), List.forall_mem_cons.mpr ⟨List.mem_of_getElem? (i := 1511) (by decide +kernel), List.forall_mem_cons.mpr ⟨List.mem_of_getElem? (i := 1520) (by decide +kernel), List.forall_mem_cons.mpr ⟨List.mem_of_getElem? (i := 1525) (by decide +kernel), List.forall_mem_cons.mpr ⟨List.mem_of_getElem? (i := 1541) (by decide +kernel), List.forall_mem_cons.mpr ⟨List.mem_of_getElem? (i := 1549) (by decide +kernel), List.forall_mem_cons.mpr ⟨List.mem_of_getElem? (i := 1557) (by decide +kernel), List.forall_mem_cons.mpr ⟨List.mem_of_getElem? (i := 1561) (by decide +kernel), List.forall_mem_cons.mpr ⟨List.mem_of_getElem? (i := 1578) (by decide +kernel), List.forall_mem_cons.mpr ⟨List.mem_of_getElem? (i := 1586) (by decide +kernel), List.forall_mem_cons.mpr ⟨List.mem_of_getElem? (i := 1590) (by decide +kernel), fun _ h => absurd h List.not_mem_nil⟩⟩⟩⟩⟩⟩⟩⟩⟩⟩⟩⟩
theorem zML_12 : ∀ q ∈ zML 12, zML_p 12 q := by
  show ∀ q ∈ ([(9, 0, 2), (13, 9, 0), (18, 11, 0), (23, 12, 0), (28, 33, 0), (32, 46, 0), (36, 47, 0), (41, 49, 0), (45, 51, 0), (147, 54, 0), (49, 58, 0), (53, 76, 0)] ++ ([(57, 79, 0), (61, 81, 0), (65, 83, 0), (69, 84, 0), (73, 86, 0), (78, 89, 0), (82, 91, 0), (86, 92, 0), (90, 93, 0), (94, 96, 0), (98, 97, 0), (102, 98, 0)] ++ ([(110, 103, 0), (114, 104, 0), (119, 109, 0), (123, 111, 0), (127, 113, 0), (106, 115, 0), (131, 120, 0), (135, 121, 0), (139, 125, 0), (143, 126, 0), (151, 129, 0), (155, 131, 0)] ++ ([(12, 132, 2), (17, 133, 0), (22, 135, 0), (31, 136, 0), (27, 172, 0), (35, 175, 0), (40, 177, 0), (44, 181, 0), (48, 183, 0), (72, 185, 0), (52, 186, 0), (56, 207, 0)] ++ ([(60, 209, 0), (64, 211, 0), (68, 213, 0), (77, 214, 0), (81, 218, 0), (85, 219, 0), (89, 220, 0), (93, 222, 0), (97, 225, 0), (101, 226, 0), (105, 227, 0), (113, 229, 0)] ++ ([(118, 230, 0), (122, 234, 0), (126, 236, 0), (130, 238, 0), (109, 239, 0), (134, 243, 0), (138, 245, 0), (142, 247, 0), (146, 248, 0), (150, 251, 0), (154, 253, 0), (158, 254, 0)]))))) : List (Nat × Nat × Nat)), _
  exact List.forall_mem_append.mpr ⟨zML_12_0, List.forall_mem_append.mpr ⟨zML_12_1, List.forall_mem_append.mpr ⟨zML_12_2, List.forall_mem_append.mpr ⟨zML_12_3, List.forall_mem_append.mpr ⟨zML_12_4, zML_12_5⟩⟩⟩⟩⟩
theorem zML_15_0 : ∀ q ∈ ([(304, 16, 1)] : List (Nat × Nat × Nat)), zML_p 15 q := List.forall_mem_cons.mpr ⟨List.mem_of_getElem? (i := 585) (by decide +kernel), fun _ h => absurd h List.not_mem_nil⟩
theorem zML_15 : ∀ q ∈ zML 15, zML_p 15 q := by
  show ∀ q ∈ ([(304, 16, 1)] : List (Nat × Nat × Nat)), _
  exact zML_15_0
theorem zML_ok : ∀ o, ∀ q ∈ zML o, zML_p o q := by
  intro o; unfold zML; split
  · exact zML_0
  · exact zML_1
  · exact zML_2
  · exact zML_3
  · exact zML_4
  · exact zML_5
  · exact zML_6
  · exact zML_7
  · exact zML_8
  · exact zML_9
  · exact zML_10
  · exact zML_11
  · exact zML_12
  · exact zML_15
  · intro q h; cases h
def zOL_p (o : Nat) (q : Nat) : Prop := Cond.methodLink (zRN o) q ⟨"java/lang/Object", "<init>", "()V"⟩ ∈ tables_1
theorem zOL_0_0 : ∀ q ∈ ([3] : List (Nat)), zOL_p 0 q := List.forall_mem_cons.mpr ⟨List.mem_of_getElem? (i := 181) (by decide +kernel), fun _ h => absurd h List.not_mem_nil⟩
theorem zOL_0 : ∀ q ∈ zOL 0, zOL_p 0 q := by
  show ∀ q ∈ ([3] : List (Nat)), _
  exact zOL_0_0
theorem zOL_1_0 : ∀ q ∈ ([3] : List (Nat)), zOL_p 1 q := List.forall_mem_cons.mpr ⟨List.mem_of_getElem? (i := 238) (by decide +kernel), fun _ h => absurd h List.not_mem_nil⟩
theorem zOL_1 : ∀ q ∈ zOL 1, zOL_p 1 q := by
  show ∀ q ∈ ([3] : List (Nat)), _
  exact zOL_1_0
theorem zOL_2_0 : ∀ q ∈ ([3] : List (Nat)), zOL_p 2 q := List.forall_mem_cons.mpr ⟨List.mem_of_getElem? (i := 91) (by decide +kernel), fun _ h => absurd h List.not_mem_nil⟩
theorem zOL_2 : ∀ q ∈ zOL 2, zOL_p 2 q := by
  show ∀ q ∈ ([3] : List (Nat)), _
  exact zOL_2_0
theorem zOL_3_0 : ∀ q ∈ ([3] : List (Nat)), zOL_p 3 q := List.forall_mem_cons.mpr ⟨List.mem_of_getElem? (i := 354) (by decide +kernel), fun _ h => absurd h List.not_mem_nil⟩
theorem zOL_3 : ∀ q ∈ zOL 3, zOL_p 3 q := by
  show ∀ q ∈ ([3] : List (Nat)), _
  exact zOL_3_0
theorem zOL_4_0 : ∀ q ∈ ([3] : List (Nat)), zOL_p 4 q := List.forall_mem_cons.mpr ⟨List.mem_of_getElem? (i := 120) (by decide +kernel), fun _ h => absurd h List.not_mem_nil⟩
theorem zOL_4 : ∀ q ∈ zOL 4, zOL_p 4 q := by
  show ∀ q ∈ ([3] : List (Nat)), _
  exact zOL_4_0
theorem zOL_5_0 : ∀ q ∈ ([3] : List (Nat)), zOL_p 5 q := List.forall_mem_cons.mpr ⟨List.mem_of_getElem? (i := 36) (by decide +kernel), fun _ h => absurd h List.not_mem_nil⟩
theorem zOL_5 : ∀ q ∈ zOL 5, zOL_p 5 q := by
  show ∀ q ∈ ([3] : List (Nat)), _
  exact zOL_5_0
theorem zOL_6_0 : ∀ q ∈ ([3] : List (Nat)), zOL_p 6 q := List.forall_mem_cons.mpr ⟨List.mem_of_getElem? (i := 216) (by decide +kernel), fun _ h => absurd h List.not_mem_nil⟩
theorem zOL_6 : ∀ q ∈ zOL 6, zOL_p 6 q := by
  show ∀ q ∈ ([3] : List (Nat)), _
  exact zOL_6_0
theorem zOL_7_0 : ∀ q ∈ ([1] : List (Nat)), zOL_p 7 q := List.forall_mem_cons.mpr ⟨List.mem_of_getElem? (i := 590) (by decide +kernel), fun _ h => absurd h List.not_mem_nil⟩
theorem zOL_7 : ∀ q ∈ zOL 7, zOL_p 7 q := by
  show ∀ q ∈ ([1] : List (Nat)), _
  exact zOL_7_0
theorem zOL_8_0 : ∀ q ∈ ([7] : List (Nat)), zOL_p 8 q := List.forall_mem_cons.mpr ⟨List.mem_of_getElem? (i := 159) (by decide +kernel), fun _ h => absurd h List.not_mem_nil⟩
theorem zOL_8 : ∀ q ∈ zOL 8, zOL_p 8 q := by
  show ∀ q ∈ ([7] : List (Nat)), _
  exact zOL_8_0
theorem zOL_9_0 : ∀ q ∈ ([3] : List (Nat)), zOL_p 9 q := List.forall_mem_cons.mpr ⟨List.mem_of_getElem? (i := 114) (by decide +kernel), fun _ h => absurd h List.not_mem_nil⟩
theorem zOL_9 : ∀ q ∈ zOL 9, zOL_p 9 q := by
  show ∀ q ∈ ([3] : List (Nat)), _
  exact zOL_9_0
theorem zOL_10_0 : ∀ q ∈ ([1] : List (Nat)), zOL_p 10 q := List.forall_mem_cons.mpr ⟨List.mem_of_getElem? (i := 26) (by decide +kernel), fun _ h => absurd h List.not_mem_nil⟩
theorem zOL_10 : ∀ q ∈ zOL 10, zOL_p 10 q := by
  show ∀ q ∈ ([1] : List (Nat)), _
  exact zOL_10_0
theorem zOL_11_0 : ∀ q ∈ ([1] : List (Nat)), zOL_p 11 q := List.forall_mem_cons.mpr ⟨List.mem_of_getElem? (i := 955) (by decide +kernel), fun _ h => absurd h List.not_mem_nil⟩
theorem zOL_11 : ∀ q ∈ zOL 11, zOL_p 11 q := by
  show ∀ q ∈ ([1] : List (Nat)), _
  exact zOL_11_0
theorem zOL_ok : ∀ o, ∀ q ∈ zOL o, zOL_p o q := by
  intro o; unfold zOL; split
  · exact zOL_0
  · exact zOL_1
  · exact zOL_2
  · exact zOL_3
  · exact zOL_4
  · exact zOL_5
  · exact zOL_6
  · exact zOL_7
  · exact zOL_8
  · exact zOL_9
  · exact zOL_10
  · exact zOL_11
  · intro q h; cases h
def zSL_p (o : Nat) (q : Nat × Nat) : Prop := Cond.methodLink (zRN o) q.1 (if q.2 = 1001 then ⟨"java/lang/String", "length", "()I"⟩ else ⟨"java/lang/String", "charAt", "(I)C"⟩) ∈ tables_1
theorem zSL_4_0 : ∀ q ∈ ([(68, 1001), (73, 1002)] : List (Nat × Nat)), zSL_p 4 q := List.forall_mem_cons.mpr ⟨List.mem_of_getElem? (i := 421) (by decide +kernel), List.forall_mem_cons.mpr ⟨List.mem_of_getElem? (i := 431) (by decide +kernel), fun _ h => absurd h List.not_mem_nil⟩⟩
theorem zSL_4 : ∀ q ∈ zSL 4, zSL_p 4 q := by
  show ∀ q ∈ ([(68, 1001), (73, 1002)] : List (Nat × Nat)), _
  exact zSL_4_0
theorem zSL_ok : ∀ o, ∀ q ∈ zSL o, zSL_p o q := by
  intro o; unfold zSL; split
  · exact zSL_4
  · intro q h; cases h
def zAL_p (o : Nat) (q : Nat) : Prop := Cond.methodLink (zRN o) q arraycopyName ∈ tables_1
theorem zAL_2_0 : ∀ q ∈ ([25] : List (Nat)), zAL_p 2 q := List.forall_mem_cons.mpr ⟨List.mem_of_getElem? (i := 945) (by decide +kernel), fun _ h => absurd h List.not_mem_nil⟩
theorem zAL_2 : ∀ q ∈ zAL 2, zAL_p 2 q := by
  show ∀ q ∈ ([25] : List (Nat)), _
  exact zAL_2_0
theorem zAL_4_0 : ∀ q ∈ ([43] : List (Nat)), zAL_p 4 q := List.forall_mem_cons.mpr ⟨List.mem_of_getElem? (i := 402) (by decide +kernel), fun _ h => absurd h List.not_mem_nil⟩
theorem zAL_4 : ∀ q ∈ zAL 4, zAL_p 4 q := by
  show ∀ q ∈ ([43] : List (Nat)), _
  exact zAL_4_0
theorem zAL_6_0 : ∀ q ∈ ([65] : List (Nat)), zAL_p 6 q := List.forall_mem_cons.mpr ⟨List.mem_of_getElem? (i := 828) (by decide +kernel), fun _ h => absurd h List.not_mem_nil⟩
theorem zAL_6 : ∀ q ∈ zAL 6, zAL_p 6 q := by
  show ∀ q ∈ ([65] : List (Nat)), _
  exact zAL_6_0
theorem zAL_15_0 : ∀ q ∈ ([150] : List (Nat)), zAL_p 15 q := List.forall_mem_cons.mpr ⟨List.mem_of_getElem? (i := 586) (by decide +kernel), fun _ h => absurd h List.not_mem_nil⟩
theorem zAL_15 : ∀ q ∈ zAL 15, zAL_p 15 q := by
  show ∀ q ∈ ([150] : List (Nat)), _
  exact zAL_15_0
theorem zAL_ok : ∀ o, ∀ q ∈ zAL o, zAL_p o q := by
  intro o; unfold zAL; split
  · exact zAL_2
  · exact zAL_4
  · exact zAL_6
  · exact zAL_15
  · intro q h; cases h
def zCL_p (o : Nat) (q : Nat × Nat) : Prop := Cond.classLink (zRN o) q.1 (zRX q.2) ∈ tables_1
theorem zCL_1_0 : ∀ q ∈ ([(26, 5), (33, 2)] : List (Nat × Nat)), zCL_p 1 q := List.forall_mem_cons.mpr ⟨List.mem_of_getElem? (i := 239) (by decide +kernel), List.forall_mem_cons.mpr ⟨List.mem_of_getElem? (i := 241) (by decide +kernel), fun _ h => absurd h List.not_mem_nil⟩⟩
theorem zCL_1 : ∀ q ∈ zCL 1, zCL_p 1 q := by
  show ∀ q ∈ ([(26, 5), (33, 2)] : List (Nat × Nat)), _
  exact zCL_1_0
theorem zCL_3_0 : ∀ q ∈ ([(28, 5)] : List (Nat × Nat)), zCL_p 3 q := List.forall_mem_cons.mpr ⟨List.mem_of_getElem? (i := 355) (by decide +kernel), fun _ h => absurd h List.not_mem_nil⟩
theorem zCL_3 : ∀ q ∈ zCL 3, zCL_p 3 q := by
  show ∀ q ∈ ([(28, 5)] : List (Nat × Nat)), _
  exact zCL_3_0
theorem zCL_6_0 : ∀ q ∈ ([(22, 5)] : List (Nat × Nat)), zCL_p 6 q := List.forall_mem_cons.mpr ⟨List.mem_of_getElem? (i := 217) (by decide +kernel), fun _ h => absurd h List.not_mem_nil⟩
theorem zCL_6 : ∀ q ∈ zCL 6, zCL_p 6 q := by
  show ∀ q ∈ ([(22, 5)] : List (Nat × Nat)), _
  exact zCL_6_0
theorem zCL_8_0 : ∀ q ∈ ([(3, 4), (58, 7)] : List (Nat × Nat)), zCL_p 8 q := List.forall_mem_cons.mpr ⟨List.mem_of_getElem? (i := 160) (by decide +kernel), List.forall_mem_cons.mpr ⟨List.mem_of_getElem? (i := 573) (by decide +kernel), fun _ h => absurd h List.not_mem_nil⟩⟩
theorem zCL_8 : ∀ q ∈ zCL 8, zCL_p 8 q := by
  show ∀ q ∈ ([(3, 4), (58, 7)] : List (Nat × Nat)), _
  exact zCL_8_0
theorem zCL_9_0 : ∀ q ∈ ([(9, 4), (18, 3)] : List (Nat × Nat)), zCL_p 9 q := List.forall_mem_cons.mpr ⟨List.mem_of_getElem? (i := 115) (by decide +kernel), List.forall_mem_cons.mpr ⟨List.mem_of_getElem? (i := 349) (by decide +kernel), fun _ h => absurd h List.not_mem_nil⟩⟩
theorem zCL_9 : ∀ q ∈ zCL 9, zCL_p 9 q := by
  show ∀ q ∈ ([(9, 4), (18, 3)] : List (Nat × Nat)), _
  exact zCL_9_0
theorem zCL_10_0 : ∀ q ∈ ([(17, 7), (30, 5), (43, 2), (50, 1), (66, 9), (73, 8), (80, 0), (87, 6)] : List (Nat × Nat)), zCL_p 10 q := List.forall_mem_cons.mpr ⟨List.mem_of_getElem? (i := 29) (by decide +kernel), List.forall_mem_cons.mpr ⟨List.mem_of_getElem? (i := 31) (by decide +kernel), List.forall_mem_cons.mpr ⟨List.mem_of_getElem? (i := 86) (by decide +kernel), List.forall_mem_cons.mpr ⟨List.mem_of_getElem? (i := 106) (by decide +kernel), List.forall_mem_cons.mpr ⟨List.mem_of_getElem? (i := 109) (by decide +kernel), List.forall_mem_cons.mpr ⟨List.mem_of_getElem? (i := 154) (by decide +kernel), List.forall_mem_cons.mpr ⟨List.mem_of_getElem? (i := 176) (by decide +kernel), List.forall_mem_cons.mpr ⟨List.mem_of_getElem? (i := 211) (by decide +kernel), fun _ h => absurd h List.not_mem_nil⟩⟩⟩⟩⟩⟩⟩⟩
theorem zCL_10 : ∀ q ∈ zCL 10, zCL_p 10 q := by
  show ∀ q ∈ ([(17, 7), (30, 5), (43, 2), (50, 1), (66, 9), (73, 8), (80, 0), (87, 6)] : List (Nat × Nat)), _
  exact zCL_10_0
theorem zCL_12_0 : ∀ q ∈ ([(7, 10), (10, 11)] : List (Nat × Nat)), zCL_p 12 q := List.forall_mem_cons.mpr ⟨List.mem_of_getElem? (i := 21) (by decide +kernel), List.forall_mem_cons.mpr ⟨List.mem_of_getElem? (i := 950) (by decide +kernel), fun _ h => absurd h List.not_mem_nil⟩⟩
theorem zCL_12 : ∀ q ∈ zCL 12, zCL_p 12 q := by
  show ∀ q ∈ ([(7, 10), (10, 11)] : List (Nat × Nat)), _
  exact zCL_12_0
theorem zCL_ok : ∀ o, ∀ q ∈ zCL o, zCL_p o q := by
  intro o; unfold zCL; split
  · exact zCL_1
  · exact zCL_3
  · exact zCL_6
  · exact zCL_8
  · exact zCL_9
  · exact zCL_10
  · exact zCL_12
  · intro q h; cases h
def zCI_p (o : Nat) (q : Nat × Int) : Prop := Cond.constant (zRN o) q.1 (Int32.ofInt q.2) ∈ tables_1
theorem zCI_7_0 : ∀ q ∈ ([(15, 100010), (16, 100000)] : List (Nat × Int)), zCI_p 7 q := List.forall_mem_cons.mpr ⟨List.mem_of_getElem? (i := 682) (by decide +kernel), List.forall_mem_cons.mpr ⟨List.mem_of_getElem? (i := 683) (by decide +kernel), fun _ h => absurd h List.not_mem_nil⟩⟩
theorem zCI_7 : ∀ q ∈ zCI 7, zCI_p 7 q := by
  show ∀ q ∈ ([(15, 100010), (16, 100000)] : List (Nat × Int)), _
  exact zCI_7_0
theorem zCI_8_0 : ∀ q ∈ ([(114, 100000), (75, 100010)] : List (Nat × Int)), zCI_p 8 q := List.forall_mem_cons.mpr ⟨List.mem_of_getElem? (i := 546) (by decide +kernel), List.forall_mem_cons.mpr ⟨List.mem_of_getElem? (i := 555) (by decide +kernel), fun _ h => absurd h List.not_mem_nil⟩⟩
theorem zCI_8 : ∀ q ∈ zCI 8, zCI_p 8 q := by
  show ∀ q ∈ ([(114, 100000), (75, 100010)] : List (Nat × Int)), _
  exact zCI_8_0
theorem zCI_10_0 : ∀ q ∈ ([(349, 65536)] : List (Nat × Int)), zCI_p 10 q := List.forall_mem_cons.mpr ⟨List.mem_of_getElem? (i := 936) (by decide +kernel), fun _ h => absurd h List.not_mem_nil⟩
theorem zCI_10 : ∀ q ∈ zCI 10, zCI_p 10 q := by
  show ∀ q ∈ ([(349, 65536)] : List (Nat × Int)), _
  exact zCI_10_0
theorem zCI_11_0 : ∀ q ∈ ([(165, 99999)] : List (Nat × Int)), zCI_p 11 q := List.forall_mem_cons.mpr ⟨List.mem_of_getElem? (i := 1190) (by decide +kernel), fun _ h => absurd h List.not_mem_nil⟩
theorem zCI_11 : ∀ q ∈ zCI 11, zCI_p 11 q := by
  show ∀ q ∈ ([(165, 99999)] : List (Nat × Int)), _
  exact zCI_11_0
theorem zCI_13_0 : ∀ q ∈ ([(265, 1431655765), (266, 858993459), (267, 252645135)] : List (Nat × Int)), zCI_p 13 q := List.forall_mem_cons.mpr ⟨List.mem_of_getElem? (i := 637) (by decide +kernel), List.forall_mem_cons.mpr ⟨List.mem_of_getElem? (i := 638) (by decide +kernel), List.forall_mem_cons.mpr ⟨List.mem_of_getElem? (i := 639) (by decide +kernel), fun _ h => absurd h List.not_mem_nil⟩⟩⟩
theorem zCI_13 : ∀ q ∈ zCI 13, zCI_p 13 q := by
  show ∀ q ∈ ([(265, 1431655765), (266, 858993459), (267, 252645135)] : List (Nat × Int)), _
  exact zCI_13_0
theorem zCI_ok : ∀ o, ∀ q ∈ zCI o, zCI_p o q := by
  intro o; unfold zCI; split
  · exact zCI_7
  · exact zCI_8
  · exact zCI_10
  · exact zCI_11
  · exact zCI_13
  · intro q h; cases h
def zCJ_p (o : Nat) (q : Nat × Int) : Prop := Cond.constantLong (zRN o) q.1 (Int64.ofInt q.2) ∈ tables_1
theorem zCJ_10_0 : ∀ q ∈ ([(343, 1103515245), (345, 12345), (347, 2147483647)] : List (Nat × Int)), zCJ_p 10 q := List.forall_mem_cons.mpr ⟨List.mem_of_getElem? (i := 933) (by decide +kernel), List.forall_mem_cons.mpr ⟨List.mem_of_getElem? (i := 934) (by decide +kernel), List.forall_mem_cons.mpr ⟨List.mem_of_getElem? (i := 935) (by decide +kernel), fun _ h => absurd h List.not_mem_nil⟩⟩⟩
theorem zCJ_10 : ∀ q ∈ zCJ 10, zCJ_p 10 q := by
  show ∀ q ∈ ([(343, 1103515245), (345, 12345), (347, 2147483647)] : List (Nat × Int)), _
  exact zCJ_10_0
theorem zCJ_11_0 : ∀ q ∈ ([(227, 1936224119), (127, 1919902052), (125, 6513010), (241, 6775152), (246, 26479), (129, 1718969708), (131, 33602627781095015), (133, 108187682958948), (135, 28526), (137, 7300710), (139, 125823037105267), (141, 435778056825)] : List (Nat × Int)), zCJ_p 11 q := List.forall_mem_cons.mpr ⟨List.mem_of_getElem? (i := 1110) (by decide +kernel), List.forall_mem_cons.mpr ⟨List.mem_of_getElem? (i := 1119) (by decide +kernel), List.forall_mem_cons.mpr ⟨List.mem_of_getElem? (i := 1120) (by decide +kernel), List.forall_mem_cons.mpr ⟨List.mem_of_getElem? (i := 1121) (by decide +kernel), List.forall_mem_cons.mpr ⟨List.mem_of_getElem? (i := 1122) (by decide +kernel), List.forall_mem_cons.mpr ⟨List.mem_of_getElem? (i := 1203) (by decide +kernel), List.forall_mem_cons.mpr ⟨List.mem_of_getElem? (i := 1204) (by decide +kernel), List.forall_mem_cons.mpr ⟨List.mem_of_getElem? (i := 1205) (by decide +kernel), List.forall_mem_cons.mpr ⟨List.mem_of_getElem? (i := 1206) (by decide +kernel), List.forall_mem_cons.mpr ⟨List.mem_of_getElem? (i := 1207) (by decide +kernel), List.forall_mem_cons.mpr ⟨List.mem_of_getElem? (i := 1208) (by decide +kernel), List.forall_mem_cons.mpr ⟨List.mem_of_getElem? (i := 1209) (by decide +kernel), fun _ h => absurd h List.not_mem_nil⟩⟩⟩⟩⟩⟩⟩⟩⟩⟩⟩⟩
theorem zCJ_11_1 : ∀ q ∈ ([(143, 1937007984), (209, 26982), (185, 7237492), (205, 6385252), (207, 28530), (290, 5), (311, 3), (316, 2), (375, 20), (383, 100), (407, 40), (431, 9999)] : List (Nat × Int)), zCJ_p 11 q := List.forall_mem_cons.mpr ⟨List.mem_of_getElem? (i := 1210) (by decide +kernel), List.forall_mem_cons.mpr ⟨List.mem_of_getElem? (i := 1211) (by decide +kernel), List.forall_mem_cons.mpr ⟨List.mem_of_getElem? (i := 1224) (by decide +kernel), List.forall_mem_cons.mpr ⟨List.mem_of_getElem? (i := 1248) (by decide +kernel), List.forall_mem_cons.mpr ⟨List.mem_of_getElem? (i := 1249) (by decide +kernel), List.forall_mem_cons.mpr ⟨List.mem_of_getElem? (i := 1282) (by decide +kernel), List.forall_mem_cons.mpr ⟨List.mem_of_getElem? (i := 1283) (by decide +kernel), List.forall_mem_cons.mpr ⟨List.mem_of_getElem? (i := 1296) (by decide +kernel), List.forall_mem_cons.mpr ⟨List.mem_of_getElem? (i := 1399) (by decide +kernel), List.forall_mem_cons.mpr ⟨List.mem_of_getElem? (i := 1424) (by decide +kernel), List.forall_mem_cons.mpr ⟨List.mem_of_getElem? (i := 1458) (by decide +kernel), List.forall_mem_cons.mpr ⟨List.mem_of_getElem? (i := 1515) (by decide +kernel), fun _ h => absurd h List.not_mem_nil⟩⟩⟩⟩⟩⟩⟩⟩⟩⟩⟩⟩
theorem zCJ_11_2 : ∀ q ∈ ([(436, 60), (468, 10), (460, 1103515245), (462, 12345), (464, 2147483648), (466, 65536)] : List (Nat × Int)), zCJ_p 11 q := List.forall_mem_cons.mpr ⟨List.mem_of_getElem? (i := 1524) (by decide +kernel), List.forall_mem_cons.mpr ⟨List.mem_of_getElem? (i := 1565) (by decide +kernel), List.forall_mem_cons.mpr ⟨List.mem_of_getElem? (i := 1570) (by decide +kernel), List.forall_mem_cons.mpr ⟨List.mem_of_getElem? (i := 1571) (by decide +kernel), List.forall_mem_cons.mpr ⟨List.mem_of_getElem? (i := 1572) (by decide +kernel), List.forall_mem_cons.mpr ⟨List.mem_of_getElem? (i := 1573) (by decide +kernel), fun _ h => absurd h List.not_mem_nil⟩⟩⟩⟩⟩⟩
theorem zCJ_11 : ∀ q ∈ zCJ 11, zCJ_p 11 q := by
  show ∀ q ∈ ([(227, 1936224119), (127, 1919902052), (125, 6513010), (241, 6775152), (246, 26479), (129, 1718969708), (131, 33602627781095015), (133, 108187682958948), (135, 28526), (137, 7300710), (139, 125823037105267), (141, 435778056825)] ++ ([(143, 1937007984), (209, 26982), (185, 7237492), (205, 6385252), (207, 28530), (290, 5), (311, 3), (316, 2), (375, 20), (383, 100), (407, 40), (431, 9999)] ++ ([(436, 60), (468, 10), (460, 1103515245), (462, 12345), (464, 2147483648), (466, 65536)])) : List (Nat × Int)), _
  exact List.forall_mem_append.mpr ⟨zCJ_11_0, List.forall_mem_append.mpr ⟨zCJ_11_1, zCJ_11_2⟩⟩
theorem zCJ_ok : ∀ o, ∀ q ∈ zCJ o, zCJ_p o q := by
  intro o; unfold zCJ; split
  · exact zCJ_10
  · exact zCJ_11
  · intro q h; cases h
def zCS_p (o : Nat) (q : Nat × Nat) : Prop := Cond.stringRef (zRN o) q.1 (zTx q.2) ∈ tables_1
theorem zCS_8_0 : ∀ q ∈ ([(82, 3), (108, 5), (40, 4), (89, 1), (87, 2)] : List (Nat × Nat)), zCS_p 8 q := List.forall_mem_cons.mpr ⟨List.mem_of_getElem? (i := 528) (by decide +kernel), List.forall_mem_cons.mpr ⟨List.mem_of_getElem? (i := 540) (by decide +kernel), List.forall_mem_cons.mpr ⟨List.mem_of_getElem? (i := 556) (by decide +kernel), List.forall_mem_cons.mpr ⟨List.mem_of_getElem? (i := 565) (by decide +kernel), List.forall_mem_cons.mpr ⟨List.mem_of_getElem? (i := 572) (by decide +kernel), fun _ h => absurd h List.not_mem_nil⟩⟩⟩⟩⟩
theorem zCS_8 : ∀ q ∈ zCS 8, zCS_p 8 q := by
  show ∀ q ∈ ([(82, 3), (108, 5), (40, 4), (89, 1), (87, 2)] : List (Nat × Nat)), _
  exact zCS_8_0
theorem zCS_9_0 : ∀ q ∈ ([(40, 0)] : List (Nat × Nat)), zCS_p 9 q := List.forall_mem_cons.mpr ⟨List.mem_of_getElem? (i := 416) (by decide +kernel), fun _ h => absurd h List.not_mem_nil⟩
theorem zCS_9 : ∀ q ∈ zCS 9, zCS_p 9 q := by
  show ∀ q ∈ ([(40, 0)] : List (Nat × Nat)), _
  exact zCS_9_0
theorem zCS_ok : ∀ o, ∀ q ∈ zCS o, zCS_p o q := by
  intro o; unfold zCS; split
  · exact zCS_8
  · exact zCS_9
  · intro q h; cases h
end
section
/-! printed by wip/whole/gen.py: what the tables say of each method -/
def zMok (q : ZM) : Prop := (Cond.code q.1 q.2.1 q.2.2.1 q.2.2.2.1 ∈ tables_1 ∧ Cond.initialized q.1.cls ∈ tables_1) ∧ (Cond.static q.1 ∈ tables_1 ∨ Cond.instanceMethod q.1 ∈ tables_1) ∧ q.1.cls = zRN q.2.2.2.2 ∧ plainFor q.1 = true ∧ q.1.cls ≠ "java/lang/invoke/MethodHandle" ∧ q.1.cls ≠ "java/lang/invoke/VarHandle"
theorem zMok_0 : zMok (zM 0) := ⟨⟨List.mem_of_getElem? (i := 25) (by decide +kernel), List.mem_of_getElem? (i := 1) (by decide +kernel)⟩, Or.inr (List.mem_of_getElem? (i := 24) (by decide +kernel)), by decide +kernel, by decide +kernel, by decide +kernel, by decide +kernel⟩
theorem zMok_1 : zMok (zM 1) := ⟨⟨List.mem_of_getElem? (i := 35) (by decide +kernel), List.mem_of_getElem? (i := 2) (by decide +kernel)⟩, Or.inr (List.mem_of_getElem? (i := 34) (by decide +kernel)), by decide +kernel, by decide +kernel, by decide +kernel, by decide +kernel⟩
theorem zMok_2 : zMok (zM 2) := ⟨⟨List.mem_of_getElem? (i := 90) (by decide +kernel), List.mem_of_getElem? (i := 3) (by decide +kernel)⟩, Or.inr (List.mem_of_getElem? (i := 89) (by decide +kernel)), by decide +kernel, by decide +kernel, by decide +kernel, by decide +kernel⟩
theorem zMok_3 : zMok (zM 3) := ⟨⟨List.mem_of_getElem? (i := 113) (by decide +kernel), List.mem_of_getElem? (i := 4) (by decide +kernel)⟩, Or.inr (List.mem_of_getElem? (i := 112) (by decide +kernel)), by decide +kernel, by decide +kernel, by decide +kernel, by decide +kernel⟩
theorem zMok_4 : zMok (zM 4) := ⟨⟨List.mem_of_getElem? (i := 119) (by decide +kernel), List.mem_of_getElem? (i := 5) (by decide +kernel)⟩, Or.inr (List.mem_of_getElem? (i := 118) (by decide +kernel)), by decide +kernel, by decide +kernel, by decide +kernel, by decide +kernel⟩
theorem zMok_5 : zMok (zM 5) := ⟨⟨List.mem_of_getElem? (i := 158) (by decide +kernel), List.mem_of_getElem? (i := 6) (by decide +kernel)⟩, Or.inr (List.mem_of_getElem? (i := 157) (by decide +kernel)), by decide +kernel, by decide +kernel, by decide +kernel, by decide +kernel⟩
theorem zMok_6 : zMok (zM 6) := ⟨⟨List.mem_of_getElem? (i := 180) (by decide +kernel), List.mem_of_getElem? (i := 7) (by decide +kernel)⟩, Or.inr (List.mem_of_getElem? (i := 179) (by decide +kernel)), by decide +kernel, by decide +kernel, by decide +kernel, by decide +kernel⟩
theorem zMok_7 : zMok (zM 7) := ⟨⟨List.mem_of_getElem? (i := 215) (by decide +kernel), List.mem_of_getElem? (i := 8) (by decide +kernel)⟩, Or.inr (List.mem_of_getElem? (i := 214) (by decide +kernel)), by decide +kernel, by decide +kernel, by decide +kernel, by decide +kernel⟩
theorem zMok_8 : zMok (zM 8) := ⟨⟨List.mem_of_getElem? (i := 237) (by decide +kernel), List.mem_of_getElem? (i := 9) (by decide +kernel)⟩, Or.inr (List.mem_of_getElem? (i := 236) (by decide +kernel)), by decide +kernel, by decide +kernel, by decide +kernel, by decide +kernel⟩
theorem zMok_9 : zMok (zM 9) := ⟨⟨List.mem_of_getElem? (i := 332) (by decide +kernel), List.mem_of_getElem? (i := 1) (by decide +kernel)⟩, Or.inr (List.mem_of_getElem? (i := 330) (by decide +kernel)), by decide +kernel, by decide +kernel, by decide +kernel, by decide +kernel⟩
theorem zMok_10 : zMok (zM 10) := ⟨⟨List.mem_of_getElem? (i := 336) (by decide +kernel), List.mem_of_getElem? (i := 1) (by decide +kernel)⟩, Or.inr (List.mem_of_getElem? (i := 335) (by decide +kernel)), by decide +kernel, by decide +kernel, by decide +kernel, by decide +kernel⟩
theorem zMok_11 : zMok (zM 11) := ⟨⟨List.mem_of_getElem? (i := 340) (by decide +kernel), List.mem_of_getElem? (i := 1) (by decide +kernel)⟩, Or.inr (List.mem_of_getElem? (i := 338) (by decide +kernel)), by decide +kernel, by decide +kernel, by decide +kernel, by decide +kernel⟩
theorem zMok_12 : zMok (zM 12) := ⟨⟨List.mem_of_getElem? (i := 344) (by decide +kernel), List.mem_of_getElem? (i := 1) (by decide +kernel)⟩, Or.inr (List.mem_of_getElem? (i := 342) (by decide +kernel)), by decide +kernel, by decide +kernel, by decide +kernel, by decide +kernel⟩
theorem zMok_13 : zMok (zM 13) := ⟨⟨List.mem_of_getElem? (i := 348) (by decide +kernel), List.mem_of_getElem? (i := 4) (by decide +kernel)⟩, Or.inr (List.mem_of_getElem? (i := 346) (by decide +kernel)), by decide +kernel, by decide +kernel, by decide +kernel, by decide +kernel⟩
theorem zMok_14 : zMok (zM 14) := ⟨⟨List.mem_of_getElem? (i := 353) (by decide +kernel), List.mem_of_getElem? (i := 11) (by decide +kernel)⟩, Or.inr (List.mem_of_getElem? (i := 352) (by decide +kernel)), by decide +kernel, by decide +kernel, by decide +kernel, by decide +kernel⟩
theorem zMok_15 : zMok (zM 15) := ⟨⟨List.mem_of_getElem? (i := 395) (by decide +kernel), List.mem_of_getElem? (i := 5) (by decide +kernel)⟩, Or.inr (List.mem_of_getElem? (i := 393) (by decide +kernel)), by decide +kernel, by decide +kernel, by decide +kernel, by decide +kernel⟩
theorem zMok_16 : zMok (zM 16) := ⟨⟨List.mem_of_getElem? (i := 398) (by decide +kernel), List.mem_of_getElem? (i := 12) (by decide +kernel)⟩, Or.inl (List.mem_of_getElem? (i := 397) (by decide +kernel)), by decide +kernel, by decide +kernel, by decide +kernel, by decide +kernel⟩
theorem zMok_17 : zMok (zM 17) := ⟨⟨List.mem_of_getElem? (i := 401) (by decide +kernel), List.mem_of_getElem? (i := 12) (by decide +kernel)⟩, Or.inl (List.mem_of_getElem? (i := 400) (by decide +kernel)), by decide +kernel, by decide +kernel, by decide +kernel, by decide +kernel⟩
theorem zMok_18 : zMok (zM 18) := ⟨⟨List.mem_of_getElem? (i := 408) (by decide +kernel), List.mem_of_getElem? (i := 5) (by decide +kernel)⟩, Or.inr (List.mem_of_getElem? (i := 406) (by decide +kernel)), by decide +kernel, by decide +kernel, by decide +kernel, by decide +kernel⟩
theorem zMok_19 : zMok (zM 19) := ⟨⟨List.mem_of_getElem? (i := 411) (by decide +kernel), List.mem_of_getElem? (i := 5) (by decide +kernel)⟩, Or.inl (List.mem_of_getElem? (i := 410) (by decide +kernel)), by decide +kernel, by decide +kernel, by decide +kernel, by decide +kernel⟩
theorem zMok_20 : zMok (zM 20) := ⟨⟨List.mem_of_getElem? (i := 415) (by decide +kernel), List.mem_of_getElem? (i := 4) (by decide +kernel)⟩, Or.inr (List.mem_of_getElem? (i := 414) (by decide +kernel)), by decide +kernel, by decide +kernel, by decide +kernel, by decide +kernel⟩
theorem zMok_21 : zMok (zM 21) := ⟨⟨List.mem_of_getElem? (i := 420) (by decide +kernel), List.mem_of_getElem? (i := 5) (by decide +kernel)⟩, Or.inr (List.mem_of_getElem? (i := 418) (by decide +kernel)), by decide +kernel, by decide +kernel, by decide +kernel, by decide +kernel⟩
theorem zMok_22 : zMok (zM 22) := ⟨⟨List.mem_of_getElem? (i := 472) (by decide +kernel), List.mem_of_getElem? (i := 5) (by decide +kernel)⟩, Or.inr (List.mem_of_getElem? (i := 470) (by decide +kernel)), by decide +kernel, by decide +kernel, by decide +kernel, by decide +kernel⟩
theorem zMok_23 : zMok (zM 23) := ⟨⟨List.mem_of_getElem? (i := 477) (by decide +kernel), List.mem_of_getElem? (i := 5) (by decide +kernel)⟩, Or.inr (List.mem_of_getElem? (i := 475) (by decide +kernel)), by decide +kernel, by decide +kernel, by decide +kernel, by decide +kernel⟩
theorem zMok_24 : zMok (zM 24) := ⟨⟨List.mem_of_getElem? (i := 482) (by decide +kernel), List.mem_of_getElem? (i := 5) (by decide +kernel)⟩, Or.inr (List.mem_of_getElem? (i := 480) (by decide +kernel)), by decide +kernel, by decide +kernel, by decide +kernel, by decide +kernel⟩
theorem zMok_25 : zMok (zM 25) := ⟨⟨List.mem_of_getElem? (i := 486) (by decide +kernel), List.mem_of_getElem? (i := 4) (by decide +kernel)⟩, Or.inr (List.mem_of_getElem? (i := 485) (by decide +kernel)), by decide +kernel, by decide +kernel, by decide +kernel, by decide +kernel⟩
theorem zMok_26 : zMok (zM 26) := ⟨⟨List.mem_of_getElem? (i := 490) (by decide +kernel), List.mem_of_getElem? (i := 11) (by decide +kernel)⟩, Or.inr (List.mem_of_getElem? (i := 488) (by decide +kernel)), by decide +kernel, by decide +kernel, by decide +kernel, by decide +kernel⟩
theorem zMok_27 : zMok (zM 27) := ⟨⟨List.mem_of_getElem? (i := 494) (by decide +kernel), List.mem_of_getElem? (i := 4) (by decide +kernel)⟩, Or.inr (List.mem_of_getElem? (i := 493) (by decide +kernel)), by decide +kernel, by decide +kernel, by decide +kernel, by decide +kernel⟩
theorem zMok_28 : zMok (zM 28) := ⟨⟨List.mem_of_getElem? (i := 498) (by decide +kernel), List.mem_of_getElem? (i := 2) (by decide +kernel)⟩, Or.inr (List.mem_of_getElem? (i := 496) (by decide +kernel)), by decide +kernel, by decide +kernel, by decide +kernel, by decide +kernel⟩
theorem zMok_29 : zMok (zM 29) := ⟨⟨List.mem_of_getElem? (i := 502) (by decide +kernel), List.mem_of_getElem? (i := 4) (by decide +kernel)⟩, Or.inr (List.mem_of_getElem? (i := 501) (by decide +kernel)), by decide +kernel, by decide +kernel, by decide +kernel, by decide +kernel⟩
theorem zMok_30 : zMok (zM 30) := ⟨⟨List.mem_of_getElem? (i := 506) (by decide +kernel), List.mem_of_getElem? (i := 5) (by decide +kernel)⟩, Or.inr (List.mem_of_getElem? (i := 504) (by decide +kernel)), by decide +kernel, by decide +kernel, by decide +kernel, by decide +kernel⟩
theorem zMok_31 : zMok (zM 31) := ⟨⟨List.mem_of_getElem? (i := 510) (by decide +kernel), List.mem_of_getElem? (i := 5) (by decide +kernel)⟩, Or.inr (List.mem_of_getElem? (i := 508) (by decide +kernel)), by decide +kernel, by decide +kernel, by decide +kernel, by decide +kernel⟩
theorem zMok_32 : zMok (zM 32) := ⟨⟨List.mem_of_getElem? (i := 514) (by decide +kernel), List.mem_of_getElem? (i := 2) (by decide +kernel)⟩, Or.inr (List.mem_of_getElem? (i := 512) (by decide +kernel)), by decide +kernel, by decide +kernel, by decide +kernel, by decide +kernel⟩
theorem zMok_33 : zMok (zM 33) := ⟨⟨List.mem_of_getElem? (i := 518) (by decide +kernel), List.mem_of_getElem? (i := 1) (by decide +kernel)⟩, Or.inr (List.mem_of_getElem? (i := 516) (by decide +kernel)), by decide +kernel, by decide +kernel, by decide +kernel, by decide +kernel⟩
theorem zMok_34 : zMok (zM 34) := ⟨⟨List.mem_of_getElem? (i := 522) (by decide +kernel), List.mem_of_getElem? (i := 6) (by decide +kernel)⟩, Or.inr (List.mem_of_getElem? (i := 520) (by decide +kernel)), by decide +kernel, by decide +kernel, by decide +kernel, by decide +kernel⟩
theorem zMok_35 : zMok (zM 35) := ⟨⟨List.mem_of_getElem? (i := 527) (by decide +kernel), List.mem_of_getElem? (i := 6) (by decide +kernel)⟩, Or.inr (List.mem_of_getElem? (i := 526) (by decide +kernel)), by decide +kernel, by decide +kernel, by decide +kernel, by decide +kernel⟩
theorem zMok_36 : zMok (zM 36) := ⟨⟨List.mem_of_getElem? (i := 535) (by decide +kernel), List.mem_of_getElem? (i := 6) (by decide +kernel)⟩, Or.inr (List.mem_of_getElem? (i := 534) (by decide +kernel)), by decide +kernel, by decide +kernel, by decide +kernel, by decide +kernel⟩
theorem zMok_37 : zMok (zM 37) := ⟨⟨List.mem_of_getElem? (i := 539) (by decide +kernel), List.mem_of_getElem? (i := 6) (by decide +kernel)⟩, Or.inr (List.mem_of_getElem? (i := 538) (by decide +kernel)), by decide +kernel, by decide +kernel, by decide +kernel, by decide +kernel⟩
theorem zMok_38 : zMok (zM 38) := ⟨⟨List.mem_of_getElem? (i := 545) (by decide +kernel), List.mem_of_getElem? (i := 6) (by decide +kernel)⟩, Or.inr (List.mem_of_getElem? (i := 544) (by decide +kernel)), by decide +kernel, by decide +kernel, by decide +kernel, by decide +kernel⟩
theorem zMok_39 : zMok (zM 39) := ⟨⟨List.mem_of_getElem? (i := 550) (by decide +kernel), List.mem_of_getElem? (i := 6) (by decide +kernel)⟩, Or.inr (List.mem_of_getElem? (i := 549) (by decide +kernel)), by decide +kernel, by decide +kernel, by decide +kernel, by decide +kernel⟩
theorem zMok_40 : zMok (zM 40) := ⟨⟨List.mem_of_getElem? (i := 554) (by decide +kernel), List.mem_of_getElem? (i := 6) (by decide +kernel)⟩, Or.inr (List.mem_of_getElem? (i := 553) (by decide +kernel)), by decide +kernel, by decide +kernel, by decide +kernel, by decide +kernel⟩
theorem zMok_41 : zMok (zM 41) := ⟨⟨List.mem_of_getElem? (i := 560) (by decide +kernel), List.mem_of_getElem? (i := 6) (by decide +kernel)⟩, Or.inr (List.mem_of_getElem? (i := 559) (by decide +kernel)), by decide +kernel, by decide +kernel, by decide +kernel, by decide +kernel⟩
theorem zMok_42 : zMok (zM 42) := ⟨⟨List.mem_of_getElem? (i := 564) (by decide +kernel), List.mem_of_getElem? (i := 6) (by decide +kernel)⟩, Or.inr (List.mem_of_getElem? (i := 563) (by decide +kernel)), by decide +kernel, by decide +kernel, by decide +kernel, by decide +kernel⟩
theorem zMok_43 : zMok (zM 43) := ⟨⟨List.mem_of_getElem? (i := 570) (by decide +kernel), List.mem_of_getElem? (i := 6) (by decide +kernel)⟩, Or.inr (List.mem_of_getElem? (i := 569) (by decide +kernel)), by decide +kernel, by decide +kernel, by decide +kernel, by decide +kernel⟩
theorem zMok_44 : zMok (zM 44) := ⟨⟨List.mem_of_getElem? (i := 577) (by decide +kernel), List.mem_of_getElem? (i := 19) (by decide +kernel)⟩, Or.inl (List.mem_of_getElem? (i := 576) (by decide +kernel)), by decide +kernel, by decide +kernel, by decide +kernel, by decide +kernel⟩
theorem zMok_45 : zMok (zM 45) := ⟨⟨List.mem_of_getElem? (i := 589) (by decide +kernel), List.mem_of_getElem? (i := 18) (by decide +kernel)⟩, Or.inr (List.mem_of_getElem? (i := 588) (by decide +kernel)), by decide +kernel, by decide +kernel, by decide +kernel, by decide +kernel⟩
theorem zMok_46 : zMok (zM 46) := ⟨⟨List.mem_of_getElem? (i := 598) (by decide +kernel), List.mem_of_getElem? (i := 1) (by decide +kernel)⟩, Or.inr (List.mem_of_getElem? (i := 596) (by decide +kernel)), by decide +kernel, by decide +kernel, by decide +kernel, by decide +kernel⟩
theorem zMok_47 : zMok (zM 47) := ⟨⟨List.mem_of_getElem? (i := 602) (by decide +kernel), List.mem_of_getElem? (i := 1) (by decide +kernel)⟩, Or.inr (List.mem_of_getElem? (i := 600) (by decide +kernel)), by decide +kernel, by decide +kernel, by decide +kernel, by decide +kernel⟩
theorem zMok_48 : zMok (zM 48) := ⟨⟨List.mem_of_getElem? (i := 605) (by decide +kernel), List.mem_of_getElem? (i := 1) (by decide +kernel)⟩, Or.inl (List.mem_of_getElem? (i := 604) (by decide +kernel)), by decide +kernel, by decide +kernel, by decide +kernel, by decide +kernel⟩
theorem zMok_49 : zMok (zM 49) := ⟨⟨List.mem_of_getElem? (i := 609) (by decide +kernel), List.mem_of_getElem? (i := 1) (by decide +kernel)⟩, Or.inr (List.mem_of_getElem? (i := 607) (by decide +kernel)), by decide +kernel, by decide +kernel, by decide +kernel, by decide +kernel⟩
theorem zMok_50 : zMok (zM 50) := ⟨⟨List.mem_of_getElem? (i := 613) (by decide +kernel), List.mem_of_getElem? (i := 1) (by decide +kernel)⟩, Or.inr (List.mem_of_getElem? (i := 612) (by decide +kernel)), by decide +kernel, by decide +kernel, by decide +kernel, by decide +kernel⟩
theorem zMok_51 : zMok (zM 51) := ⟨⟨List.mem_of_getElem? (i := 617) (by decide +kernel), List.mem_of_getElem? (i := 1) (by decide +kernel)⟩, Or.inr (List.mem_of_getElem? (i := 615) (by decide +kernel)), by decide +kernel, by decide +kernel, by decide +kernel, by decide +kernel⟩
theorem zMok_52 : zMok (zM 52) := ⟨⟨List.mem_of_getElem? (i := 621) (by decide +kernel), List.mem_of_getElem? (i := 1) (by decide +kernel)⟩, Or.inr (List.mem_of_getElem? (i := 620) (by decide +kernel)), by decide +kernel, by decide +kernel, by decide +kernel, by decide +kernel⟩
theorem zMok_53 : zMok (zM 53) := ⟨⟨List.mem_of_getElem? (i := 625) (by decide +kernel), List.mem_of_getElem? (i := 2) (by decide +kernel)⟩, Or.inr (List.mem_of_getElem? (i := 623) (by decide +kernel)), by decide +kernel, by decide +kernel, by decide +kernel, by decide +kernel⟩
theorem zMok_54 : zMok (zM 54) := ⟨⟨List.mem_of_getElem? (i := 629) (by decide +kernel), List.mem_of_getElem? (i := 1) (by decide +kernel)⟩, Or.inr (List.mem_of_getElem? (i := 627) (by decide +kernel)), by decide +kernel, by decide +kernel, by decide +kernel, by decide +kernel⟩
theorem zMok_55 : zMok (zM 55) := ⟨⟨List.mem_of_getElem? (i := 633) (by decide +kernel), List.mem_of_getElem? (i := 2) (by decide +kernel)⟩, Or.inr (List.mem_of_getElem? (i := 631) (by decide +kernel)), by decide +kernel, by decide +kernel, by decide +kernel, by decide +kernel⟩
theorem zMok_56 : zMok (zM 56) := ⟨⟨List.mem_of_getElem? (i := 636) (by decide +kernel), List.mem_of_getElem? (i := 20) (by decide +kernel)⟩, Or.inl (List.mem_of_getElem? (i := 635) (by decide +kernel)), by decide +kernel, by decide +kernel, by decide +kernel, by decide +kernel⟩
theorem zMok_57 : zMok (zM 57) := ⟨⟨List.mem_of_getElem? (i := 643) (by decide +kernel), List.mem_of_getElem? (i := 2) (by decide +kernel)⟩, Or.inr (List.mem_of_getElem? (i := 641) (by decide +kernel)), by decide +kernel, by decide +kernel, by decide +kernel, by decide +kernel⟩
theorem zMok_58 : zMok (zM 58) := ⟨⟨List.mem_of_getElem? (i := 647) (by decide +kernel), List.mem_of_getElem? (i := 1) (by decide +kernel)⟩, Or.inr (List.mem_of_getElem? (i := 645) (by decide +kernel)), by decide +kernel, by decide +kernel, by decide +kernel, by decide +kernel⟩
theorem zMok_59 : zMok (zM 59) := ⟨⟨List.mem_of_getElem? (i := 651) (by decide +kernel), List.mem_of_getElem? (i := 1) (by decide +kernel)⟩, Or.inr (List.mem_of_getElem? (i := 650) (by decide +kernel)), by decide +kernel, by decide +kernel, by decide +kernel, by decide +kernel⟩
theorem zMok_60 : zMok (zM 60) := ⟨⟨List.mem_of_getElem? (i := 656) (by decide +kernel), List.mem_of_getElem? (i := 1) (by decide +kernel)⟩, Or.inr (List.mem_of_getElem? (i := 655) (by decide +kernel)), by decide +kernel, by decide +kernel, by decide +kernel, by decide +kernel⟩
theorem zMok_61 : zMok (zM 61) := ⟨⟨List.mem_of_getElem? (i := 660) (by decide +kernel), List.mem_of_getElem? (i := 7) (by decide +kernel)⟩, Or.inr (List.mem_of_getElem? (i := 658) (by decide +kernel)), by decide +kernel, by decide +kernel, by decide +kernel, by decide +kernel⟩
theorem zMok_62 : zMok (zM 62) := ⟨⟨List.mem_of_getElem? (i := 664) (by decide +kernel), List.mem_of_getElem? (i := 7) (by decide +kernel)⟩, Or.inr (List.mem_of_getElem? (i := 663) (by decide +kernel)), by decide +kernel, by decide +kernel, by decide +kernel, by decide +kernel⟩
theorem zMok_63 : zMok (zM 63) := ⟨⟨List.mem_of_getElem? (i := 668) (by decide +kernel), List.mem_of_getElem? (i := 7) (by decide +kernel)⟩, Or.inr (List.mem_of_getElem? (i := 667) (by decide +kernel)), by decide +kernel, by decide +kernel, by decide +kernel, by decide +kernel⟩
theorem zMok_64 : zMok (zM 64) := ⟨⟨List.mem_of_getElem? (i := 672) (by decide +kernel), List.mem_of_getElem? (i := 7) (by decide +kernel)⟩, Or.inr (List.mem_of_getElem? (i := 671) (by decide +kernel)), by decide +kernel, by decide +kernel, by decide +kernel, by decide +kernel⟩
theorem zMok_65 : zMok (zM 65) := ⟨⟨List.mem_of_getElem? (i := 676) (by decide +kernel), List.mem_of_getElem? (i := 7) (by decide +kernel)⟩, Or.inr (List.mem_of_getElem? (i := 675) (by decide +kernel)), by decide +kernel, by decide +kernel, by decide +kernel, by decide +kernel⟩
theorem zMok_66 : zMok (zM 66) := ⟨⟨List.mem_of_getElem? (i := 681) (by decide +kernel), List.mem_of_getElem? (i := 18) (by decide +kernel)⟩, Or.inr (List.mem_of_getElem? (i := 679) (by decide +kernel)), by decide +kernel, by decide +kernel, by decide +kernel, by decide +kernel⟩
theorem zMok_67 : zMok (zM 67) := ⟨⟨List.mem_of_getElem? (i := 686) (by decide +kernel), List.mem_of_getElem? (i := 18) (by decide +kernel)⟩, Or.inl (List.mem_of_getElem? (i := 685) (by decide +kernel)), by decide +kernel, by decide +kernel, by decide +kernel, by decide +kernel⟩
theorem zMok_68 : zMok (zM 68) := ⟨⟨List.mem_of_getElem? (i := 689) (by decide +kernel), List.mem_of_getElem? (i := 18) (by decide +kernel)⟩, Or.inl (List.mem_of_getElem? (i := 688) (by decide +kernel)), by decide +kernel, by decide +kernel, by decide +kernel, by decide +kernel⟩
theorem zMok_69 : zMok (zM 69) := ⟨⟨List.mem_of_getElem? (i := 692) (by decide +kernel), List.mem_of_getElem? (i := 18) (by decide +kernel)⟩, Or.inl (List.mem_of_getElem? (i := 691) (by decide +kernel)), by decide +kernel, by decide +kernel, by decide +kernel, by decide +kernel⟩
theorem zMok_70 : zMok (zM 70) := ⟨⟨List.mem_of_getElem? (i := 696) (by decide +kernel), List.mem_of_getElem? (i := 2) (by decide +kernel)⟩, Or.inr (List.mem_of_getElem? (i := 694) (by decide +kernel)), by decide +kernel, by decide +kernel, by decide +kernel, by decide +kernel⟩
theorem zMok_71 : zMok (zM 71) := ⟨⟨List.mem_of_getElem? (i := 700) (by decide +kernel), List.mem_of_getElem? (i := 7) (by decide +kernel)⟩, Or.inr (List.mem_of_getElem? (i := 699) (by decide +kernel)), by decide +kernel, by decide +kernel, by decide +kernel, by decide +kernel⟩
theorem zMok_72 : zMok (zM 72) := ⟨⟨List.mem_of_getElem? (i := 704) (by decide +kernel), List.mem_of_getElem? (i := 2) (by decide +kernel)⟩, Or.inr (List.mem_of_getElem? (i := 702) (by decide +kernel)), by decide +kernel, by decide +kernel, by decide +kernel, by decide +kernel⟩
theorem zMok_73 : zMok (zM 73) := ⟨⟨List.mem_of_getElem? (i := 708) (by decide +kernel), List.mem_of_getElem? (i := 2) (by decide +kernel)⟩, Or.inr (List.mem_of_getElem? (i := 706) (by decide +kernel)), by decide +kernel, by decide +kernel, by decide +kernel, by decide +kernel⟩
theorem zMok_74 : zMok (zM 74) := ⟨⟨List.mem_of_getElem? (i := 712) (by decide +kernel), List.mem_of_getElem? (i := 7) (by decide +kernel)⟩, Or.inr (List.mem_of_getElem? (i := 711) (by decide +kernel)), by decide +kernel, by decide +kernel, by decide +kernel, by decide +kernel⟩
theorem zMok_75 : zMok (zM 75) := ⟨⟨List.mem_of_getElem? (i := 716) (by decide +kernel), List.mem_of_getElem? (i := 2) (by decide +kernel)⟩, Or.inr (List.mem_of_getElem? (i := 714) (by decide +kernel)), by decide +kernel, by decide +kernel, by decide +kernel, by decide +kernel⟩
theorem zMok_76 : zMok (zM 76) := ⟨⟨List.mem_of_getElem? (i := 721) (by decide +kernel), List.mem_of_getElem? (i := 1) (by decide +kernel)⟩, Or.inr (List.mem_of_getElem? (i := 719) (by decide +kernel)), by decide +kernel, by decide +kernel, by decide +kernel, by decide +kernel⟩
theorem zMok_77 : zMok (zM 77) := ⟨⟨List.mem_of_getElem? (i := 725) (by decide +kernel), List.mem_of_getElem? (i := 1) (by decide +kernel)⟩, Or.inr (List.mem_of_getElem? (i := 724) (by decide +kernel)), by decide +kernel, by decide +kernel, by decide +kernel, by decide +kernel⟩
theorem zMok_78 : zMok (zM 78) := ⟨⟨List.mem_of_getElem? (i := 728) (by decide +kernel), List.mem_of_getElem? (i := 1) (by decide +kernel)⟩, Or.inl (List.mem_of_getElem? (i := 727) (by decide +kernel)), by decide +kernel, by decide +kernel, by decide +kernel, by decide +kernel⟩
theorem zMok_79 : zMok (zM 79) := ⟨⟨List.mem_of_getElem? (i := 732) (by decide +kernel), List.mem_of_getElem? (i := 1) (by decide +kernel)⟩, Or.inr (List.mem_of_getElem? (i := 730) (by decide +kernel)), by decide +kernel, by decide +kernel, by decide +kernel, by decide +kernel⟩
theorem zMok_80 : zMok (zM 80) := ⟨⟨List.mem_of_getElem? (i := 736) (by decide +kernel), List.mem_of_getElem? (i := 2) (by decide +kernel)⟩, Or.inr (List.mem_of_getElem? (i := 734) (by decide +kernel)), by decide +kernel, by decide +kernel, by decide +kernel, by decide +kernel⟩
theorem zMok_81 : zMok (zM 81) := ⟨⟨List.mem_of_getElem? (i := 741) (by decide +kernel), List.mem_of_getElem? (i := 1) (by decide +kernel)⟩, Or.inr (List.mem_of_getElem? (i := 739) (by decide +kernel)), by decide +kernel, by decide +kernel, by decide +kernel, by decide +kernel⟩
theorem zMok_82 : zMok (zM 82) := ⟨⟨List.mem_of_getElem? (i := 745) (by decide +kernel), List.mem_of_getElem? (i := 2) (by decide +kernel)⟩, Or.inr (List.mem_of_getElem? (i := 743) (by decide +kernel)), by decide +kernel, by decide +kernel, by decide +kernel, by decide +kernel⟩
theorem zMok_83 : zMok (zM 83) := ⟨⟨List.mem_of_getElem? (i := 749) (by decide +kernel), List.mem_of_getElem? (i := 1) (by decide +kernel)⟩, Or.inr (List.mem_of_getElem? (i := 747) (by decide +kernel)), by decide +kernel, by decide +kernel, by decide +kernel, by decide +kernel⟩
theorem zMok_84 : zMok (zM 84) := ⟨⟨List.mem_of_getElem? (i := 753) (by decide +kernel), List.mem_of_getElem? (i := 1) (by decide +kernel)⟩, Or.inr (List.mem_of_getElem? (i := 751) (by decide +kernel)), by decide +kernel, by decide +kernel, by decide +kernel, by decide +kernel⟩
theorem zMok_85 : zMok (zM 85) := ⟨⟨List.mem_of_getElem? (i := 756) (by decide +kernel), List.mem_of_getElem? (i := 12) (by decide +kernel)⟩, Or.inl (List.mem_of_getElem? (i := 755) (by decide +kernel)), by decide +kernel, by decide +kernel, by decide +kernel, by decide +kernel⟩
theorem zMok_86 : zMok (zM 86) := ⟨⟨List.mem_of_getElem? (i := 760) (by decide +kernel), List.mem_of_getElem? (i := 1) (by decide +kernel)⟩, Or.inr (List.mem_of_getElem? (i := 758) (by decide +kernel)), by decide +kernel, by decide +kernel, by decide +kernel, by decide +kernel⟩
theorem zMok_87 : zMok (zM 87) := ⟨⟨List.mem_of_getElem? (i := 764) (by decide +kernel), List.mem_of_getElem? (i := 1) (by decide +kernel)⟩, Or.inr (List.mem_of_getElem? (i := 763) (by decide +kernel)), by decide +kernel, by decide +kernel, by decide +kernel, by decide +kernel⟩
theorem zMok_88 : zMok (zM 88) := ⟨⟨List.mem_of_getElem? (i := 768) (by decide +kernel), List.mem_of_getElem? (i := 1) (by decide +kernel)⟩, Or.inr (List.mem_of_getElem? (i := 767) (by decide +kernel)), by decide +kernel, by decide +kernel, by decide +kernel, by decide +kernel⟩
theorem zMok_89 : zMok (zM 89) := ⟨⟨List.mem_of_getElem? (i := 772) (by decide +kernel), List.mem_of_getElem? (i := 1) (by decide +kernel)⟩, Or.inr (List.mem_of_getElem? (i := 770) (by decide +kernel)), by decide +kernel, by decide +kernel, by decide +kernel, by decide +kernel⟩
theorem zMok_90 : zMok (zM 90) := ⟨⟨List.mem_of_getElem? (i := 776) (by decide +kernel), List.mem_of_getElem? (i := 1) (by decide +kernel)⟩, Or.inr (List.mem_of_getElem? (i := 775) (by decide +kernel)), by decide +kernel, by decide +kernel, by decide +kernel, by decide +kernel⟩
theorem zMok_91 : zMok (zM 91) := ⟨⟨List.mem_of_getElem? (i := 780) (by decide +kernel), List.mem_of_getElem? (i := 1) (by decide +kernel)⟩, Or.inr (List.mem_of_getElem? (i := 778) (by decide +kernel)), by decide +kernel, by decide +kernel, by decide +kernel, by decide +kernel⟩
theorem zMok_92 : zMok (zM 92) := ⟨⟨List.mem_of_getElem? (i := 784) (by decide +kernel), List.mem_of_getElem? (i := 1) (by decide +kernel)⟩, Or.inr (List.mem_of_getElem? (i := 782) (by decide +kernel)), by decide +kernel, by decide +kernel, by decide +kernel, by decide +kernel⟩
theorem zMok_93 : zMok (zM 93) := ⟨⟨List.mem_of_getElem? (i := 788) (by decide +kernel), List.mem_of_getElem? (i := 1) (by decide +kernel)⟩, Or.inr (List.mem_of_getElem? (i := 786) (by decide +kernel)), by decide +kernel, by decide +kernel, by decide +kernel, by decide +kernel⟩
theorem zMok_94 : zMok (zM 94) := ⟨⟨List.mem_of_getElem? (i := 792) (by decide +kernel), List.mem_of_getElem? (i := 1) (by decide +kernel)⟩, Or.inr (List.mem_of_getElem? (i := 791) (by decide +kernel)), by decide +kernel, by decide +kernel, by decide +kernel, by decide +kernel⟩
theorem zMok_95 : zMok (zM 95) := ⟨⟨List.mem_of_getElem? (i := 796) (by decide +kernel), List.mem_of_getElem? (i := 1) (by decide +kernel)⟩, Or.inr (List.mem_of_getElem? (i := 795) (by decide +kernel)), by decide +kernel, by decide +kernel, by decide +kernel, by decide +kernel⟩
theorem zMok_96 : zMok (zM 96) := ⟨⟨List.mem_of_getElem? (i := 800) (by decide +kernel), List.mem_of_getElem? (i := 1) (by decide +kernel)⟩, Or.inr (List.mem_of_getElem? (i := 798) (by decide +kernel)), by decide +kernel, by decide +kernel, by decide +kernel, by decide +kernel⟩
theorem zMok_97 : zMok (zM 97) := ⟨⟨List.mem_of_getElem? (i := 804) (by decide +kernel), List.mem_of_getElem? (i := 1) (by decide +kernel)⟩, Or.inr (List.mem_of_getElem? (i := 802) (by decide +kernel)), by decide +kernel, by decide +kernel, by decide +kernel, by decide +kernel⟩
theorem zMok_98 : zMok (zM 98) := ⟨⟨List.mem_of_getElem? (i := 808) (by decide +kernel), List.mem_of_getElem? (i := 1) (by decide +kernel)⟩, Or.inr (List.mem_of_getElem? (i := 806) (by decide +kernel)), by decide +kernel, by decide +kernel, by decide +kernel, by decide +kernel⟩
theorem zMok_99 : zMok (zM 99) := ⟨⟨List.mem_of_getElem? (i := 812) (by decide +kernel), List.mem_of_getElem? (i := 8) (by decide +kernel)⟩, Or.inr (List.mem_of_getElem? (i := 810) (by decide +kernel)), by decide +kernel, by decide +kernel, by decide +kernel, by decide +kernel⟩
theorem zMok_100 : zMok (zM 100) := ⟨⟨List.mem_of_getElem? (i := 818) (by decide +kernel), List.mem_of_getElem? (i := 8) (by decide +kernel)⟩, Or.inr (List.mem_of_getElem? (i := 817) (by decide +kernel)), by decide +kernel, by decide +kernel, by decide +kernel, by decide +kernel⟩
theorem zMok_101 : zMok (zM 101) := ⟨⟨List.mem_of_getElem? (i := 822) (by decide +kernel), List.mem_of_getElem? (i := 7) (by decide +kernel)⟩, Or.inr (List.mem_of_getElem? (i := 820) (by decide +kernel)), by decide +kernel, by decide +kernel, by decide +kernel, by decide +kernel⟩
theorem zMok_102 : zMok (zM 102) := ⟨⟨List.mem_of_getElem? (i := 827) (by decide +kernel), List.mem_of_getElem? (i := 8) (by decide +kernel)⟩, Or.inr (List.mem_of_getElem? (i := 826) (by decide +kernel)), by decide +kernel, by decide +kernel, by decide +kernel, by decide +kernel⟩
theorem zMok_103 : zMok (zM 103) := ⟨⟨List.mem_of_getElem? (i := 833) (by decide +kernel), List.mem_of_getElem? (i := 1) (by decide +kernel)⟩, Or.inr (List.mem_of_getElem? (i := 831) (by decide +kernel)), by decide +kernel, by decide +kernel, by decide +kernel, by decide +kernel⟩
theorem zMok_104 : zMok (zM 104) := ⟨⟨List.mem_of_getElem? (i := 838) (by decide +kernel), List.mem_of_getElem? (i := 1) (by decide +kernel)⟩, Or.inr (List.mem_of_getElem? (i := 836) (by decide +kernel)), by decide +kernel, by decide +kernel, by decide +kernel, by decide +kernel⟩
theorem zMok_105 : zMok (zM 105) := ⟨⟨List.mem_of_getElem? (i := 842) (by decide +kernel), List.mem_of_getElem? (i := 1) (by decide +kernel)⟩, Or.inr (List.mem_of_getElem? (i := 841) (by decide +kernel)), by decide +kernel, by decide +kernel, by decide +kernel, by decide +kernel⟩
theorem zMok_106 : zMok (zM 106) := ⟨⟨List.mem_of_getElem? (i := 845) (by decide +kernel), List.mem_of_getElem? (i := 1) (by decide +kernel)⟩, Or.inl (List.mem_of_getElem? (i := 844) (by decide +kernel)), by decide +kernel, by decide +kernel, by decide +kernel, by decide +kernel⟩
theorem zMok_107 : zMok (zM 107) := ⟨⟨List.mem_of_getElem? (i := 848) (by decide +kernel), List.mem_of_getElem? (i := 1) (by decide +kernel)⟩, Or.inl (List.mem_of_getElem? (i := 847) (by decide +kernel)), by decide +kernel, by decide +kernel, by decide +kernel, by decide +kernel⟩
theorem zMok_108 : zMok (zM 108) := ⟨⟨List.mem_of_getElem? (i := 852) (by decide +kernel), List.mem_of_getElem? (i := 1) (by decide +kernel)⟩, Or.inr (List.mem_of_getElem? (i := 851) (by decide +kernel)), by decide +kernel, by decide +kernel, by decide +kernel, by decide +kernel⟩
theorem zMok_109 : zMok (zM 109) := ⟨⟨List.mem_of_getElem? (i := 856) (by decide +kernel), List.mem_of_getElem? (i := 1) (by decide +kernel)⟩, Or.inr (List.mem_of_getElem? (i := 854) (by decide +kernel)), by decide +kernel, by decide +kernel, by decide +kernel, by decide +kernel⟩
theorem zMok_110 : zMok (zM 110) := ⟨⟨List.mem_of_getElem? (i := 860) (by decide +kernel), List.mem_of_getElem? (i := 2) (by decide +kernel)⟩, Or.inr (List.mem_of_getElem? (i := 858) (by decide +kernel)), by decide +kernel, by decide +kernel, by decide +kernel, by decide +kernel⟩
theorem zMok_111 : zMok (zM 111) := ⟨⟨List.mem_of_getElem? (i := 864) (by decide +kernel), List.mem_of_getElem? (i := 1) (by decide +kernel)⟩, Or.inr (List.mem_of_getElem? (i := 862) (by decide +kernel)), by decide +kernel, by decide +kernel, by decide +kernel, by decide +kernel⟩
theorem zMok_112 : zMok (zM 112) := ⟨⟨List.mem_of_getElem? (i := 868) (by decide +kernel), List.mem_of_getElem? (i := 1) (by decide +kernel)⟩, Or.inr (List.mem_of_getElem? (i := 867) (by decide +kernel)), by decide +kernel, by decide +kernel, by decide +kernel, by decide +kernel⟩
theorem zMok_113 : zMok (zM 113) := ⟨⟨List.mem_of_getElem? (i := 872) (by decide +kernel), List.mem_of_getElem? (i := 1) (by decide +kernel)⟩, Or.inr (List.mem_of_getElem? (i := 870) (by decide +kernel)), by decide +kernel, by decide +kernel, by decide +kernel, by decide +kernel⟩
theorem zMok_114 : zMok (zM 114) := ⟨⟨List.mem_of_getElem? (i := 876) (by decide +kernel), List.mem_of_getElem? (i := 3) (by decide +kernel)⟩, Or.inr (List.mem_of_getElem? (i := 874) (by decide +kernel)), by decide +kernel, by decide +kernel, by decide +kernel, by decide +kernel⟩
theorem zMok_115 : zMok (zM 115) := ⟨⟨List.mem_of_getElem? (i := 880) (by decide +kernel), List.mem_of_getElem? (i := 1) (by decide +kernel)⟩, Or.inr (List.mem_of_getElem? (i := 878) (by decide +kernel)), by decide +kernel, by decide +kernel, by decide +kernel, by decide +kernel⟩
theorem zMok_116 : zMok (zM 116) := ⟨⟨List.mem_of_getElem? (i := 884) (by decide +kernel), List.mem_of_getElem? (i := 1) (by decide +kernel)⟩, Or.inr (List.mem_of_getElem? (i := 883) (by decide +kernel)), by decide +kernel, by decide +kernel, by decide +kernel, by decide +kernel⟩
theorem zMok_117 : zMok (zM 117) := ⟨⟨List.mem_of_getElem? (i := 888) (by decide +kernel), List.mem_of_getElem? (i := 1) (by decide +kernel)⟩, Or.inr (List.mem_of_getElem? (i := 887) (by decide +kernel)), by decide +kernel, by decide +kernel, by decide +kernel, by decide +kernel⟩
theorem zMok_118 : zMok (zM 118) := ⟨⟨List.mem_of_getElem? (i := 892) (by decide +kernel), List.mem_of_getElem? (i := 3) (by decide +kernel)⟩, Or.inr (List.mem_of_getElem? (i := 890) (by decide +kernel)), by decide +kernel, by decide +kernel, by decide +kernel, by decide +kernel⟩
theorem zMok_119 : zMok (zM 119) := ⟨⟨List.mem_of_getElem? (i := 897) (by decide +kernel), List.mem_of_getElem? (i := 3) (by decide +kernel)⟩, Or.inr (List.mem_of_getElem? (i := 895) (by decide +kernel)), by decide +kernel, by decide +kernel, by decide +kernel, by decide +kernel⟩
theorem zMok_120 : zMok (zM 120) := ⟨⟨List.mem_of_getElem? (i := 901) (by decide +kernel), List.mem_of_getElem? (i := 1) (by decide +kernel)⟩, Or.inr (List.mem_of_getElem? (i := 899) (by decide +kernel)), by decide +kernel, by decide +kernel, by decide +kernel, by decide +kernel⟩
theorem zMok_121 : zMok (zM 121) := ⟨⟨List.mem_of_getElem? (i := 905) (by decide +kernel), List.mem_of_getElem? (i := 1) (by decide +kernel)⟩, Or.inr (List.mem_of_getElem? (i := 903) (by decide +kernel)), by decide +kernel, by decide +kernel, by decide +kernel, by decide +kernel⟩
theorem zMok_122 : zMok (zM 122) := ⟨⟨List.mem_of_getElem? (i := 908) (by decide +kernel), List.mem_of_getElem? (i := 19) (by decide +kernel)⟩, Or.inl (List.mem_of_getElem? (i := 907) (by decide +kernel)), by decide +kernel, by decide +kernel, by decide +kernel, by decide +kernel⟩
theorem zMok_123 : zMok (zM 123) := ⟨⟨List.mem_of_getElem? (i := 912) (by decide +kernel), List.mem_of_getElem? (i := 1) (by decide +kernel)⟩, Or.inr (List.mem_of_getElem? (i := 911) (by decide +kernel)), by decide +kernel, by decide +kernel, by decide +kernel, by decide +kernel⟩
theorem zMok_124 : zMok (zM 124) := ⟨⟨List.mem_of_getElem? (i := 916) (by decide +kernel), List.mem_of_getElem? (i := 1) (by decide +kernel)⟩, Or.inr (List.mem_of_getElem? (i := 915) (by decide +kernel)), by decide +kernel, by decide +kernel, by decide +kernel, by decide +kernel⟩
theorem zMok_125 : zMok (zM 125) := ⟨⟨List.mem_of_getElem? (i := 920) (by decide +kernel), List.mem_of_getElem? (i := 1) (by decide +kernel)⟩, Or.inr (List.mem_of_getElem? (i := 918) (by decide +kernel)), by decide +kernel, by decide +kernel, by decide +kernel, by decide +kernel⟩
theorem zMok_126 : zMok (zM 126) := ⟨⟨List.mem_of_getElem? (i := 924) (by decide +kernel), List.mem_of_getElem? (i := 1) (by decide +kernel)⟩, Or.inr (List.mem_of_getElem? (i := 922) (by decide +kernel)), by decide +kernel, by decide +kernel, by decide +kernel, by decide +kernel⟩
theorem zMok_127 : zMok (zM 127) := ⟨⟨List.mem_of_getElem? (i := 928) (by decide +kernel), List.mem_of_getElem? (i := 1) (by decide +kernel)⟩, Or.inr (List.mem_of_getElem? (i := 927) (by decide +kernel)), by decide +kernel, by decide +kernel, by decide +kernel, by decide +kernel⟩
theorem zMok_128 : zMok (zM 128) := ⟨⟨List.mem_of_getElem? (i := 932) (by decide +kernel), List.mem_of_getElem? (i := 1) (by decide +kernel)⟩, Or.inr (List.mem_of_getElem? (i := 931) (by decide +kernel)), by decide +kernel, by decide +kernel, by decide +kernel, by decide +kernel⟩
theorem zMok_129 : zMok (zM 129) := ⟨⟨List.mem_of_getElem? (i := 940) (by decide +kernel), List.mem_of_getElem? (i := 1) (by decide +kernel)⟩, Or.inr (List.mem_of_getElem? (i := 938) (by decide +kernel)), by decide +kernel, by decide +kernel, by decide +kernel, by decide +kernel⟩
theorem zMok_130 : zMok (zM 130) := ⟨⟨List.mem_of_getElem? (i := 944) (by decide +kernel), List.mem_of_getElem? (i := 3) (by decide +kernel)⟩, Or.inr (List.mem_of_getElem? (i := 942) (by decide +kernel)), by decide +kernel, by decide +kernel, by decide +kernel, by decide +kernel⟩
theorem zMok_131 : zMok (zM 131) := ⟨⟨List.mem_of_getElem? (i := 949) (by decide +kernel), List.mem_of_getElem? (i := 1) (by decide +kernel)⟩, Or.inr (List.mem_of_getElem? (i := 947) (by decide +kernel)), by decide +kernel, by decide +kernel, by decide +kernel, by decide +kernel⟩
theorem zMok_132 : zMok (zM 132) := ⟨⟨List.mem_of_getElem? (i := 954) (by decide +kernel), List.mem_of_getElem? (i := 10) (by decide +kernel)⟩, Or.inr (List.mem_of_getElem? (i := 953) (by decide +kernel)), by decide +kernel, by decide +kernel, by decide +kernel, by decide +kernel⟩
theorem zMok_133 : zMok (zM 133) := ⟨⟨List.mem_of_getElem? (i := 1081) (by decide +kernel), List.mem_of_getElem? (i := 10) (by decide +kernel)⟩, Or.inr (List.mem_of_getElem? (i := 1079) (by decide +kernel)), by decide +kernel, by decide +kernel, by decide +kernel, by decide +kernel⟩
theorem zMok_134 : zMok (zM 134) := ⟨⟨List.mem_of_getElem? (i := 1085) (by decide +kernel), List.mem_of_getElem? (i := 10) (by decide +kernel)⟩, Or.inr (List.mem_of_getElem? (i := 1084) (by decide +kernel)), by decide +kernel, by decide +kernel, by decide +kernel, by decide +kernel⟩
theorem zMok_135 : zMok (zM 135) := ⟨⟨List.mem_of_getElem? (i := 1089) (by decide +kernel), List.mem_of_getElem? (i := 10) (by decide +kernel)⟩, Or.inr (List.mem_of_getElem? (i := 1087) (by decide +kernel)), by decide +kernel, by decide +kernel, by decide +kernel, by decide +kernel⟩
theorem zMok_136 : zMok (zM 136) := ⟨⟨List.mem_of_getElem? (i := 1093) (by decide +kernel), List.mem_of_getElem? (i := 10) (by decide +kernel)⟩, Or.inr (List.mem_of_getElem? (i := 1091) (by decide +kernel)), by decide +kernel, by decide +kernel, by decide +kernel, by decide +kernel⟩
theorem zMok_137 : zMok (zM 137) := ⟨⟨List.mem_of_getElem? (i := 1097) (by decide +kernel), List.mem_of_getElem? (i := 10) (by decide +kernel)⟩, Or.inr (List.mem_of_getElem? (i := 1096) (by decide +kernel)), by decide +kernel, by decide +kernel, by decide +kernel, by decide +kernel⟩
theorem zMok_138 : zMok (zM 138) := ⟨⟨List.mem_of_getElem? (i := 1101) (by decide +kernel), List.mem_of_getElem? (i := 10) (by decide +kernel)⟩, Or.inr (List.mem_of_getElem? (i := 1100) (by decide +kernel)), by decide +kernel, by decide +kernel, by decide +kernel, by decide +kernel⟩
theorem zMok_139 : zMok (zM 139) := ⟨⟨List.mem_of_getElem? (i := 1105) (by decide +kernel), List.mem_of_getElem? (i := 10) (by decide +kernel)⟩, Or.inr (List.mem_of_getElem? (i := 1104) (by decide +kernel)), by decide +kernel, by decide +kernel, by decide +kernel, by decide +kernel⟩
theorem zMok_140 : zMok (zM 140) := ⟨⟨List.mem_of_getElem? (i := 1109) (by decide +kernel), List.mem_of_getElem? (i := 10) (by decide +kernel)⟩, Or.inr (List.mem_of_getElem? (i := 1108) (by decide +kernel)), by decide +kernel, by decide +kernel, by decide +kernel, by decide +kernel⟩
theorem zMok_141 : zMok (zM 141) := ⟨⟨List.mem_of_getElem? (i := 1114) (by decide +kernel), List.mem_of_getElem? (i := 10) (by decide +kernel)⟩, Or.inr (List.mem_of_getElem? (i := 1113) (by decide +kernel)), by decide +kernel, by decide +kernel, by decide +kernel, by decide +kernel⟩
theorem zMok_142 : zMok (zM 142) := ⟨⟨List.mem_of_getElem? (i := 1118) (by decide +kernel), List.mem_of_getElem? (i := 10) (by decide +kernel)⟩, Or.inr (List.mem_of_getElem? (i := 1117) (by decide +kernel)), by decide +kernel, by decide +kernel, by decide +kernel, by decide +kernel⟩
theorem zMok_143 : zMok (zM 143) := ⟨⟨List.mem_of_getElem? (i := 1126) (by decide +kernel), List.mem_of_getElem? (i := 10) (by decide +kernel)⟩, Or.inr (List.mem_of_getElem? (i := 1125) (by decide +kernel)), by decide +kernel, by decide +kernel, by decide +kernel, by decide +kernel⟩
theorem zMok_144 : zMok (zM 144) := ⟨⟨List.mem_of_getElem? (i := 1130) (by decide +kernel), List.mem_of_getElem? (i := 10) (by decide +kernel)⟩, Or.inr (List.mem_of_getElem? (i := 1129) (by decide +kernel)), by decide +kernel, by decide +kernel, by decide +kernel, by decide +kernel⟩
theorem zMok_145 : zMok (zM 145) := ⟨⟨List.mem_of_getElem? (i := 1134) (by decide +kernel), List.mem_of_getElem? (i := 10) (by decide +kernel)⟩, Or.inr (List.mem_of_getElem? (i := 1133) (by decide +kernel)), by decide +kernel, by decide +kernel, by decide +kernel, by decide +kernel⟩
theorem zMok_146 : zMok (zM 146) := ⟨⟨List.mem_of_getElem? (i := 1138) (by decide +kernel), List.mem_of_getElem? (i := 10) (by decide +kernel)⟩, Or.inr (List.mem_of_getElem? (i := 1137) (by decide +kernel)), by decide +kernel, by decide +kernel, by decide +kernel, by decide +kernel⟩
theorem zMok_147 : zMok (zM 147) := ⟨⟨List.mem_of_getElem? (i := 1142) (by decide +kernel), List.mem_of_getElem? (i := 10) (by decide +kernel)⟩, Or.inr (List.mem_of_getElem? (i := 1141) (by decide +kernel)), by decide +kernel, by decide +kernel, by decide +kernel, by decide +kernel⟩
theorem zMok_148 : zMok (zM 148) := ⟨⟨List.mem_of_getElem? (i := 1146) (by decide +kernel), List.mem_of_getElem? (i := 10) (by decide +kernel)⟩, Or.inr (List.mem_of_getElem? (i := 1145) (by decide +kernel)), by decide +kernel, by decide +kernel, by decide +kernel, by decide +kernel⟩
theorem zMok_149 : zMok (zM 149) := ⟨⟨List.mem_of_getElem? (i := 1150) (by decide +kernel), List.mem_of_getElem? (i := 10) (by decide +kernel)⟩, Or.inr (List.mem_of_getElem? (i := 1149) (by decide +kernel)), by decide +kernel, by decide +kernel, by decide +kernel, by decide +kernel⟩
theorem zMok_150 : zMok (zM 150) := ⟨⟨List.mem_of_getElem? (i := 1153) (by decide +kernel), List.mem_of_getElem? (i := 10) (by decide +kernel)⟩, Or.inl (List.mem_of_getElem? (i := 1152) (by decide +kernel)), by decide +kernel, by decide +kernel, by decide +kernel, by decide +kernel⟩
theorem zMok_151 : zMok (zM 151) := ⟨⟨List.mem_of_getElem? (i := 1157) (by decide +kernel), List.mem_of_getElem? (i := 10) (by decide +kernel)⟩, Or.inr (List.mem_of_getElem? (i := 1156) (by decide +kernel)), by decide +kernel, by decide +kernel, by decide +kernel, by decide +kernel⟩
theorem zMok_152 : zMok (zM 152) := ⟨⟨List.mem_of_getElem? (i := 1161) (by decide +kernel), List.mem_of_getElem? (i := 10) (by decide +kernel)⟩, Or.inr (List.mem_of_getElem? (i := 1160) (by decide +kernel)), by decide +kernel, by decide +kernel, by decide +kernel, by decide +kernel⟩
theorem zMok_153 : zMok (zM 153) := ⟨⟨List.mem_of_getElem? (i := 1165) (by decide +kernel), List.mem_of_getElem? (i := 10) (by decide +kernel)⟩, Or.inr (List.mem_of_getElem? (i := 1164) (by decide +kernel)), by decide +kernel, by decide +kernel, by decide +kernel, by decide +kernel⟩
theorem zMok_154 : zMok (zM 154) := ⟨⟨List.mem_of_getElem? (i := 1169) (by decide +kernel), List.mem_of_getElem? (i := 10) (by decide +kernel)⟩, Or.inr (List.mem_of_getElem? (i := 1168) (by decide +kernel)), by decide +kernel, by decide +kernel, by decide +kernel, by decide +kernel⟩
theorem zMok_155 : zMok (zM 155) := ⟨⟨List.mem_of_getElem? (i := 1173) (by decide +kernel), List.mem_of_getElem? (i := 10) (by decide +kernel)⟩, Or.inr (List.mem_of_getElem? (i := 1172) (by decide +kernel)), by decide +kernel, by decide +kernel, by decide +kernel, by decide +kernel⟩
theorem zMok_156 : zMok (zM 156) := ⟨⟨List.mem_of_getElem? (i := 1177) (by decide +kernel), List.mem_of_getElem? (i := 10) (by decide +kernel)⟩, Or.inr (List.mem_of_getElem? (i := 1176) (by decide +kernel)), by decide +kernel, by decide +kernel, by decide +kernel, by decide +kernel⟩
theorem zMok_157 : zMok (zM 157) := ⟨⟨List.mem_of_getElem? (i := 1181) (by decide +kernel), List.mem_of_getElem? (i := 10) (by decide +kernel)⟩, Or.inr (List.mem_of_getElem? (i := 1180) (by decide +kernel)), by decide +kernel, by decide +kernel, by decide +kernel, by decide +kernel⟩
theorem zMok_158 : zMok (zM 158) := ⟨⟨List.mem_of_getElem? (i := 1185) (by decide +kernel), List.mem_of_getElem? (i := 10) (by decide +kernel)⟩, Or.inr (List.mem_of_getElem? (i := 1184) (by decide +kernel)), by decide +kernel, by decide +kernel, by decide +kernel, by decide +kernel⟩
theorem zMok_159 : zMok (zM 159) := ⟨⟨List.mem_of_getElem? (i := 1189) (by decide +kernel), List.mem_of_getElem? (i := 10) (by decide +kernel)⟩, Or.inr (List.mem_of_getElem? (i := 1188) (by decide +kernel)), by decide +kernel, by decide +kernel, by decide +kernel, by decide +kernel⟩
theorem zMok_160 : zMok (zM 160) := ⟨⟨List.mem_of_getElem? (i := 1194) (by decide +kernel), List.mem_of_getElem? (i := 10) (by decide +kernel)⟩, Or.inr (List.mem_of_getElem? (i := 1193) (by decide +kernel)), by decide +kernel, by decide +kernel, by decide +kernel, by decide +kernel⟩
theorem zMok_161 : zMok (zM 161) := ⟨⟨List.mem_of_getElem? (i := 1198) (by decide +kernel), List.mem_of_getElem? (i := 10) (by decide +kernel)⟩, Or.inr (List.mem_of_getElem? (i := 1197) (by decide +kernel)), by decide +kernel, by decide +kernel, by decide +kernel, by decide +kernel⟩
theorem zMok_162 : zMok (zM 162) := ⟨⟨List.mem_of_getElem? (i := 1202) (by decide +kernel), List.mem_of_getElem? (i := 10) (by decide +kernel)⟩, Or.inr (List.mem_of_getElem? (i := 1201) (by decide +kernel)), by decide +kernel, by decide +kernel, by decide +kernel, by decide +kernel⟩
theorem zMok_163 : zMok (zM 163) := ⟨⟨List.mem_of_getElem? (i := 1215) (by decide +kernel), List.mem_of_getElem? (i := 10) (by decide +kernel)⟩, Or.inr (List.mem_of_getElem? (i := 1214) (by decide +kernel)), by decide +kernel, by decide +kernel, by decide +kernel, by decide +kernel⟩
theorem zMok_164 : zMok (zM 164) := ⟨⟨List.mem_of_getElem? (i := 1219) (by decide +kernel), List.mem_of_getElem? (i := 10) (by decide +kernel)⟩, Or.inr (List.mem_of_getElem? (i := 1218) (by decide +kernel)), by decide +kernel, by decide +kernel, by decide +kernel, by decide +kernel⟩
theorem zMok_165 : zMok (zM 165) := ⟨⟨List.mem_of_getElem? (i := 1223) (by decide +kernel), List.mem_of_getElem? (i := 10) (by decide +kernel)⟩, Or.inr (List.mem_of_getElem? (i := 1222) (by decide +kernel)), by decide +kernel, by decide +kernel, by decide +kernel, by decide +kernel⟩
theorem zMok_166 : zMok (zM 166) := ⟨⟨List.mem_of_getElem? (i := 1228) (by decide +kernel), List.mem_of_getElem? (i := 10) (by decide +kernel)⟩, Or.inr (List.mem_of_getElem? (i := 1227) (by decide +kernel)), by decide +kernel, by decide +kernel, by decide +kernel, by decide +kernel⟩
theorem zMok_167 : zMok (zM 167) := ⟨⟨List.mem_of_getElem? (i := 1232) (by decide +kernel), List.mem_of_getElem? (i := 10) (by decide +kernel)⟩, Or.inr (List.mem_of_getElem? (i := 1231) (by decide +kernel)), by decide +kernel, by decide +kernel, by decide +kernel, by decide +kernel⟩
theorem zMok_168 : zMok (zM 168) := ⟨⟨List.mem_of_getElem? (i := 1236) (by decide +kernel), List.mem_of_getElem? (i := 10) (by decide +kernel)⟩, Or.inr (List.mem_of_getElem? (i := 1235) (by decide +kernel)), by decide +kernel, by decide +kernel, by decide +kernel, by decide +kernel⟩
theorem zMok_169 : zMok (zM 169) := ⟨⟨List.mem_of_getElem? (i := 1240) (by decide +kernel), List.mem_of_getElem? (i := 10) (by decide +kernel)⟩, Or.inr (List.mem_of_getElem? (i := 1239) (by decide +kernel)), by decide +kernel, by decide +kernel, by decide +kernel, by decide +kernel⟩
theorem zMok_170 : zMok (zM 170) := ⟨⟨List.mem_of_getElem? (i := 1243) (by decide +kernel), List.mem_of_getElem? (i := 10) (by decide +kernel)⟩, Or.inl (List.mem_of_getElem? (i := 1242) (by decide +kernel)), by decide +kernel, by decide +kernel, by decide +kernel, by decide +kernel⟩
theorem zMok_171 : zMok (zM 171) := ⟨⟨List.mem_of_getElem? (i := 1247) (by decide +kernel), List.mem_of_getElem? (i := 10) (by decide +kernel)⟩, Or.inr (List.mem_of_getElem? (i := 1246) (by decide +kernel)), by decide +kernel, by decide +kernel, by decide +kernel, by decide +kernel⟩
theorem zMok_172 : zMok (zM 172) := ⟨⟨List.mem_of_getElem? (i := 1253) (by decide +kernel), List.mem_of_getElem? (i := 10) (by decide +kernel)⟩, Or.inr (List.mem_of_getElem? (i := 1251) (by decide +kernel)), by decide +kernel, by decide +kernel, by decide +kernel, by decide +kernel⟩
theorem zMok_173 : zMok (zM 173) := ⟨⟨List.mem_of_getElem? (i := 1257) (by decide +kernel), List.mem_of_getElem? (i := 10) (by decide +kernel)⟩, Or.inr (List.mem_of_getElem? (i := 1256) (by decide +kernel)), by decide +kernel, by decide +kernel, by decide +kernel, by decide +kernel⟩
theorem zMok_174 : zMok (zM 174) := ⟨⟨List.mem_of_getElem? (i := 1261) (by decide +kernel), List.mem_of_getElem? (i := 10) (by decide +kernel)⟩, Or.inr (List.mem_of_getElem? (i := 1260) (by decide +kernel)), by decide +kernel, by decide +kernel, by decide +kernel, by decide +kernel⟩
theorem zMok_175 : zMok (zM 175) := ⟨⟨List.mem_of_getElem? (i := 1265) (by decide +kernel), List.mem_of_getElem? (i := 10) (by decide +kernel)⟩, Or.inr (List.mem_of_getElem? (i := 1263) (by decide +kernel)), by decide +kernel, by decide +kernel, by decide +kernel, by decide +kernel⟩
theorem zMok_176 : zMok (zM 176) := ⟨⟨List.mem_of_getElem? (i := 1269) (by decide +kernel), List.mem_of_getElem? (i := 10) (by decide +kernel)⟩, Or.inr (List.mem_of_getElem? (i := 1268) (by decide +kernel)), by decide +kernel, by decide +kernel, by decide +kernel, by decide +kernel⟩
theorem zMok_177 : zMok (zM 177) := ⟨⟨List.mem_of_getElem? (i := 1273) (by decide +kernel), List.mem_of_getElem? (i := 10) (by decide +kernel)⟩, Or.inr (List.mem_of_getElem? (i := 1271) (by decide +kernel)), by decide +kernel, by decide +kernel, by decide +kernel, by decide +kernel⟩
theorem zMok_178 : zMok (zM 178) := ⟨⟨List.mem_of_getElem? (i := 1277) (by decide +kernel), List.mem_of_getElem? (i := 10) (by decide +kernel)⟩, Or.inr (List.mem_of_getElem? (i := 1276) (by decide +kernel)), by decide +kernel, by decide +kernel, by decide +kernel, by decide +kernel⟩
theorem zMok_179 : zMok (zM 179) := ⟨⟨List.mem_of_getElem? (i := 1281) (by decide +kernel), List.mem_of_getElem? (i := 10) (by decide +kernel)⟩, Or.inr (List.mem_of_getElem? (i := 1280) (by decide +kernel)), by decide +kernel, by decide +kernel, by decide +kernel, by decide +kernel⟩
theorem zMok_180 : zMok (zM 180) := ⟨⟨List.mem_of_getElem? (i := 1287) (by decide +kernel), List.mem_of_getElem? (i := 10) (by decide +kernel)⟩, Or.inr (List.mem_of_getElem? (i := 1286) (by decide +kernel)), by decide +kernel, by decide +kernel, by decide +kernel, by decide +kernel⟩
theorem zMok_181 : zMok (zM 181) := ⟨⟨List.mem_of_getElem? (i := 1291) (by decide +kernel), List.mem_of_getElem? (i := 10) (by decide +kernel)⟩, Or.inr (List.mem_of_getElem? (i := 1289) (by decide +kernel)), by decide +kernel, by decide +kernel, by decide +kernel, by decide +kernel⟩
theorem zMok_182 : zMok (zM 182) := ⟨⟨List.mem_of_getElem? (i := 1295) (by decide +kernel), List.mem_of_getElem? (i := 10) (by decide +kernel)⟩, Or.inr (List.mem_of_getElem? (i := 1294) (by decide +kernel)), by decide +kernel, by decide +kernel, by decide +kernel, by decide +kernel⟩
theorem zMok_183 : zMok (zM 183) := ⟨⟨List.mem_of_getElem? (i := 1300) (by decide +kernel), List.mem_of_getElem? (i := 10) (by decide +kernel)⟩, Or.inr (List.mem_of_getElem? (i := 1298) (by decide +kernel)), by decide +kernel, by decide +kernel, by decide +kernel, by decide +kernel⟩
theorem zMok_184 : zMok (zM 184) := ⟨⟨List.mem_of_getElem? (i := 1304) (by decide +kernel), List.mem_of_getElem? (i := 10) (by decide +kernel)⟩, Or.inr (List.mem_of_getElem? (i := 1303) (by decide +kernel)), by decide +kernel, by decide +kernel, by decide +kernel, by decide +kernel⟩
theorem zMok_185 : zMok (zM 185) := ⟨⟨List.mem_of_getElem? (i := 1308) (by decide +kernel), List.mem_of_getElem? (i := 10) (by decide +kernel)⟩, Or.inr (List.mem_of_getElem? (i := 1306) (by decide +kernel)), by decide +kernel, by decide +kernel, by decide +kernel, by decide +kernel⟩
theorem zMok_186 : zMok (zM 186) := ⟨⟨List.mem_of_getElem? (i := 1312) (by decide +kernel), List.mem_of_getElem? (i := 10) (by decide +kernel)⟩, Or.inr (List.mem_of_getElem? (i := 1310) (by decide +kernel)), by decide +kernel, by decide +kernel, by decide +kernel, by decide +kernel⟩
theorem zMok_187 : zMok (zM 187) := ⟨⟨List.mem_of_getElem? (i := 1316) (by decide +kernel), List.mem_of_getElem? (i := 10) (by decide +kernel)⟩, Or.inr (List.mem_of_getElem? (i := 1315) (by decide +kernel)), by decide +kernel, by decide +kernel, by decide +kernel, by decide +kernel⟩
theorem zMok_188 : zMok (zM 188) := ⟨⟨List.mem_of_getElem? (i := 1320) (by decide +kernel), List.mem_of_getElem? (i := 10) (by decide +kernel)⟩, Or.inr (List.mem_of_getElem? (i := 1319) (by decide +kernel)), by decide +kernel, by decide +kernel, by decide +kernel, by decide +kernel⟩
theorem zMok_189 : zMok (zM 189) := ⟨⟨List.mem_of_getElem? (i := 1324) (by decide +kernel), List.mem_of_getElem? (i := 10) (by decide +kernel)⟩, Or.inr (List.mem_of_getElem? (i := 1323) (by decide +kernel)), by decide +kernel, by decide +kernel, by decide +kernel, by decide +kernel⟩
theorem zMok_190 : zMok (zM 190) := ⟨⟨List.mem_of_getElem? (i := 1328) (by decide +kernel), List.mem_of_getElem? (i := 10) (by decide +kernel)⟩, Or.inr (List.mem_of_getElem? (i := 1327) (by decide +kernel)), by decide +kernel, by decide +kernel, by decide +kernel, by decide +kernel⟩
theorem zMok_191 : zMok (zM 191) := ⟨⟨List.mem_of_getElem? (i := 1332) (by decide +kernel), List.mem_of_getElem? (i := 10) (by decide +kernel)⟩, Or.inr (List.mem_of_getElem? (i := 1331) (by decide +kernel)), by decide +kernel, by decide +kernel, by decide +kernel, by decide +kernel⟩
theorem zMok_192 : zMok (zM 192) := ⟨⟨List.mem_of_getElem? (i := 1336) (by decide +kernel), List.mem_of_getElem? (i := 10) (by decide +kernel)⟩, Or.inr (List.mem_of_getElem? (i := 1335) (by decide +kernel)), by decide +kernel, by decide +kernel, by decide +kernel, by decide +kernel⟩
theorem zMok_193 : zMok (zM 193) := ⟨⟨List.mem_of_getElem? (i := 1340) (by decide +kernel), List.mem_of_getElem? (i := 10) (by decide +kernel)⟩, Or.inr (List.mem_of_getElem? (i := 1339) (by decide +kernel)), by decide +kernel, by decide +kernel, by decide +kernel, by decide +kernel⟩
theorem zMok_194 : zMok (zM 194) := ⟨⟨List.mem_of_getElem? (i := 1343) (by decide +kernel), List.mem_of_getElem? (i := 10) (by decide +kernel)⟩, Or.inl (List.mem_of_getElem? (i := 1342) (by decide +kernel)), by decide +kernel, by decide +kernel, by decide +kernel, by decide +kernel⟩
theorem zMok_195 : zMok (zM 195) := ⟨⟨List.mem_of_getElem? (i := 1347) (by decide +kernel), List.mem_of_getElem? (i := 10) (by decide +kernel)⟩, Or.inr (List.mem_of_getElem? (i := 1346) (by decide +kernel)), by decide +kernel, by decide +kernel, by decide +kernel, by decide +kernel⟩
theorem zMok_196 : zMok (zM 196) := ⟨⟨List.mem_of_getElem? (i := 1351) (by decide +kernel), List.mem_of_getElem? (i := 10) (by decide +kernel)⟩, Or.inr (List.mem_of_getElem? (i := 1350) (by decide +kernel)), by decide +kernel, by decide +kernel, by decide +kernel, by decide +kernel⟩
theorem zMok_197 : zMok (zM 197) := ⟨⟨List.mem_of_getElem? (i := 1355) (by decide +kernel), List.mem_of_getElem? (i := 10) (by decide +kernel)⟩, Or.inr (List.mem_of_getElem? (i := 1354) (by decide +kernel)), by decide +kernel, by decide +kernel, by decide +kernel, by decide +kernel⟩
theorem zMok_198 : zMok (zM 198) := ⟨⟨List.mem_of_getElem? (i := 1359) (by decide +kernel), List.mem_of_getElem? (i := 10) (by decide +kernel)⟩, Or.inr (List.mem_of_getElem? (i := 1358) (by decide +kernel)), by decide +kernel, by decide +kernel, by decide +kernel, by decide +kernel⟩
theorem zMok_199 : zMok (zM 199) := ⟨⟨List.mem_of_getElem? (i := 1363) (by decide +kernel), List.mem_of_getElem? (i := 10) (by decide +kernel)⟩, Or.inr (List.mem_of_getElem? (i := 1362) (by decide +kernel)), by decide +kernel, by decide +kernel, by decide +kernel, by decide +kernel⟩
theorem zMok_200 : zMok (zM 200) := ⟨⟨List.mem_of_getElem? (i := 1367) (by decide +kernel), List.mem_of_getElem? (i := 10) (by decide +kernel)⟩, Or.inr (List.mem_of_getElem? (i := 1366) (by decide +kernel)), by decide +kernel, by decide +kernel, by decide +kernel, by decide +kernel⟩
theorem zMok_201 : zMok (zM 201) := ⟨⟨List.mem_of_getElem? (i := 1371) (by decide +kernel), List.mem_of_getElem? (i := 10) (by decide +kernel)⟩, Or.inr (List.mem_of_getElem? (i := 1370) (by decide +kernel)), by decide +kernel, by decide +kernel, by decide +kernel, by decide +kernel⟩
theorem zMok_202 : zMok (zM 202) := ⟨⟨List.mem_of_getElem? (i := 1374) (by decide +kernel), List.mem_of_getElem? (i := 10) (by decide +kernel)⟩, Or.inl (List.mem_of_getElem? (i := 1373) (by decide +kernel)), by decide +kernel, by decide +kernel, by decide +kernel, by decide +kernel⟩
theorem zMok_203 : zMok (zM 203) := ⟨⟨List.mem_of_getElem? (i := 1378) (by decide +kernel), List.mem_of_getElem? (i := 10) (by decide +kernel)⟩, Or.inr (List.mem_of_getElem? (i := 1377) (by decide +kernel)), by decide +kernel, by decide +kernel, by decide +kernel, by decide +kernel⟩
theorem zMok_204 : zMok (zM 204) := ⟨⟨List.mem_of_getElem? (i := 1382) (by decide +kernel), List.mem_of_getElem? (i := 10) (by decide +kernel)⟩, Or.inr (List.mem_of_getElem? (i := 1381) (by decide +kernel)), by decide +kernel, by decide +kernel, by decide +kernel, by decide +kernel⟩
theorem zMok_205 : zMok (zM 205) := ⟨⟨List.mem_of_getElem? (i := 1386) (by decide +kernel), List.mem_of_getElem? (i := 10) (by decide +kernel)⟩, Or.inr (List.mem_of_getElem? (i := 1385) (by decide +kernel)), by decide +kernel, by decide +kernel, by decide +kernel, by decide +kernel⟩
theorem zMok_206 : zMok (zM 206) := ⟨⟨List.mem_of_getElem? (i := 1390) (by decide +kernel), List.mem_of_getElem? (i := 10) (by decide +kernel)⟩, Or.inr (List.mem_of_getElem? (i := 1389) (by decide +kernel)), by decide +kernel, by decide +kernel, by decide +kernel, by decide +kernel⟩
theorem zMok_207 : zMok (zM 207) := ⟨⟨List.mem_of_getElem? (i := 1394) (by decide +kernel), List.mem_of_getElem? (i := 10) (by decide +kernel)⟩, Or.inr (List.mem_of_getElem? (i := 1392) (by decide +kernel)), by decide +kernel, by decide +kernel, by decide +kernel, by decide +kernel⟩
theorem zMok_208 : zMok (zM 208) := ⟨⟨List.mem_of_getElem? (i := 1398) (by decide +kernel), List.mem_of_getElem? (i := 10) (by decide +kernel)⟩, Or.inr (List.mem_of_getElem? (i := 1397) (by decide +kernel)), by decide +kernel, by decide +kernel, by decide +kernel, by decide +kernel⟩
theorem zMok_209 : zMok (zM 209) := ⟨⟨List.mem_of_getElem? (i := 1403) (by decide +kernel), List.mem_of_getElem? (i := 10) (by decide +kernel)⟩, Or.inr (List.mem_of_getElem? (i := 1401) (by decide +kernel)), by decide +kernel, by decide +kernel, by decide +kernel, by decide +kernel⟩
theorem zMok_210 : zMok (zM 210) := ⟨⟨List.mem_of_getElem? (i := 1407) (by decide +kernel), List.mem_of_getElem? (i := 10) (by decide +kernel)⟩, Or.inr (List.mem_of_getElem? (i := 1406) (by decide +kernel)), by decide +kernel, by decide +kernel, by decide +kernel, by decide +kernel⟩
theorem zMok_211 : zMok (zM 211) := ⟨⟨List.mem_of_getElem? (i := 1411) (by decide +kernel), List.mem_of_getElem? (i := 10) (by decide +kernel)⟩, Or.inr (List.mem_of_getElem? (i := 1409) (by decide +kernel)), by decide +kernel, by decide +kernel, by decide +kernel, by decide +kernel⟩
theorem zMok_212 : zMok (zM 212) := ⟨⟨List.mem_of_getElem? (i := 1415) (by decide +kernel), List.mem_of_getElem? (i := 10) (by decide +kernel)⟩, Or.inr (List.mem_of_getElem? (i := 1414) (by decide +kernel)), by decide +kernel, by decide +kernel, by decide +kernel, by decide +kernel⟩
theorem zMok_213 : zMok (zM 213) := ⟨⟨List.mem_of_getElem? (i := 1419) (by decide +kernel), List.mem_of_getElem? (i := 10) (by decide +kernel)⟩, Or.inr (List.mem_of_getElem? (i := 1417) (by decide +kernel)), by decide +kernel, by decide +kernel, by decide +kernel, by decide +kernel⟩
theorem zMok_214 : zMok (zM 214) := ⟨⟨List.mem_of_getElem? (i := 1423) (by decide +kernel), List.mem_of_getElem? (i := 10) (by decide +kernel)⟩, Or.inr (List.mem_of_getElem? (i := 1421) (by decide +kernel)), by decide +kernel, by decide +kernel, by decide +kernel, by decide +kernel⟩
theorem zMok_215 : zMok (zM 215) := ⟨⟨List.mem_of_getElem? (i := 1428) (by decide +kernel), List.mem_of_getElem? (i := 10) (by decide +kernel)⟩, Or.inr (List.mem_of_getElem? (i := 1427) (by decide +kernel)), by decide +kernel, by decide +kernel, by decide +kernel, by decide +kernel⟩
theorem zMok_216 : zMok (zM 216) := ⟨⟨List.mem_of_getElem? (i := 1432) (by decide +kernel), List.mem_of_getElem? (i := 10) (by decide +kernel)⟩, Or.inr (List.mem_of_getElem? (i := 1431) (by decide +kernel)), by decide +kernel, by decide +kernel, by decide +kernel, by decide +kernel⟩
theorem zMok_217 : zMok (zM 217) := ⟨⟨List.mem_of_getElem? (i := 1437) (by decide +kernel), List.mem_of_getElem? (i := 10) (by decide +kernel)⟩, Or.inr (List.mem_of_getElem? (i := 1436) (by decide +kernel)), by decide +kernel, by decide +kernel, by decide +kernel, by decide +kernel⟩
theorem zMok_218 : zMok (zM 218) := ⟨⟨List.mem_of_getElem? (i := 1441) (by decide +kernel), List.mem_of_getElem? (i := 10) (by decide +kernel)⟩, Or.inr (List.mem_of_getElem? (i := 1439) (by decide +kernel)), by decide +kernel, by decide +kernel, by decide +kernel, by decide +kernel⟩
theorem zMok_219 : zMok (zM 219) := ⟨⟨List.mem_of_getElem? (i := 1445) (by decide +kernel), List.mem_of_getElem? (i := 10) (by decide +kernel)⟩, Or.inr (List.mem_of_getElem? (i := 1443) (by decide +kernel)), by decide +kernel, by decide +kernel, by decide +kernel, by decide +kernel⟩
theorem zMok_220 : zMok (zM 220) := ⟨⟨List.mem_of_getElem? (i := 1449) (by decide +kernel), List.mem_of_getElem? (i := 10) (by decide +kernel)⟩, Or.inr (List.mem_of_getElem? (i := 1447) (by decide +kernel)), by decide +kernel, by decide +kernel, by decide +kernel, by decide +kernel⟩
theorem zMok_221 : zMok (zM 221) := ⟨⟨List.mem_of_getElem? (i := 1453) (by decide +kernel), List.mem_of_getElem? (i := 10) (by decide +kernel)⟩, Or.inr (List.mem_of_getElem? (i := 1452) (by decide +kernel)), by decide +kernel, by decide +kernel, by decide +kernel, by decide +kernel⟩
theorem zMok_222 : zMok (zM 222) := ⟨⟨List.mem_of_getElem? (i := 1457) (by decide +kernel), List.mem_of_getElem? (i := 10) (by decide +kernel)⟩, Or.inr (List.mem_of_getElem? (i := 1455) (by decide +kernel)), by decide +kernel, by decide +kernel, by decide +kernel, by decide +kernel⟩
theorem zMok_223 : zMok (zM 223) := ⟨⟨List.mem_of_getElem? (i := 1462) (by decide +kernel), List.mem_of_getElem? (i := 10) (by decide +kernel)⟩, Or.inr (List.mem_of_getElem? (i := 1461) (by decide +kernel)), by decide +kernel, by decide +kernel, by decide +kernel, by decide +kernel⟩
theorem zMok_224 : zMok (zM 224) := ⟨⟨List.mem_of_getElem? (i := 1466) (by decide +kernel), List.mem_of_getElem? (i := 10) (by decide +kernel)⟩, Or.inr (List.mem_of_getElem? (i := 1465) (by decide +kernel)), by decide +kernel, by decide +kernel, by decide +kernel, by decide +kernel⟩
theorem zMok_225 : zMok (zM 225) := ⟨⟨List.mem_of_getElem? (i := 1470) (by decide +kernel), List.mem_of_getElem? (i := 10) (by decide +kernel)⟩, Or.inr (List.mem_of_getElem? (i := 1468) (by decide +kernel)), by decide +kernel, by decide +kernel, by decide +kernel, by decide +kernel⟩
theorem zMok_226 : zMok (zM 226) := ⟨⟨List.mem_of_getElem? (i := 1474) (by decide +kernel), List.mem_of_getElem? (i := 10) (by decide +kernel)⟩, Or.inr (List.mem_of_getElem? (i := 1472) (by decide +kernel)), by decide +kernel, by decide +kernel, by decide +kernel, by decide +kernel⟩
theorem zMok_227 : zMok (zM 227) := ⟨⟨List.mem_of_getElem? (i := 1478) (by decide +kernel), List.mem_of_getElem? (i := 10) (by decide +kernel)⟩, Or.inr (List.mem_of_getElem? (i := 1476) (by decide +kernel)), by decide +kernel, by decide +kernel, by decide +kernel, by decide +kernel⟩
theorem zMok_228 : zMok (zM 228) := ⟨⟨List.mem_of_getElem? (i := 1482) (by decide +kernel), List.mem_of_getElem? (i := 10) (by decide +kernel)⟩, Or.inr (List.mem_of_getElem? (i := 1481) (by decide +kernel)), by decide +kernel, by decide +kernel, by decide +kernel, by decide +kernel⟩
theorem zMok_229 : zMok (zM 229) := ⟨⟨List.mem_of_getElem? (i := 1486) (by decide +kernel), List.mem_of_getElem? (i := 10) (by decide +kernel)⟩, Or.inr (List.mem_of_getElem? (i := 1484) (by decide +kernel)), by decide +kernel, by decide +kernel, by decide +kernel, by decide +kernel⟩
theorem zMok_230 : zMok (zM 230) := ⟨⟨List.mem_of_getElem? (i := 1490) (by decide +kernel), List.mem_of_getElem? (i := 10) (by decide +kernel)⟩, Or.inr (List.mem_of_getElem? (i := 1488) (by decide +kernel)), by decide +kernel, by decide +kernel, by decide +kernel, by decide +kernel⟩
theorem zMok_231 : zMok (zM 231) := ⟨⟨List.mem_of_getElem? (i := 1494) (by decide +kernel), List.mem_of_getElem? (i := 10) (by decide +kernel)⟩, Or.inr (List.mem_of_getElem? (i := 1493) (by decide +kernel)), by decide +kernel, by decide +kernel, by decide +kernel, by decide +kernel⟩
theorem zMok_232 : zMok (zM 232) := ⟨⟨List.mem_of_getElem? (i := 1498) (by decide +kernel), List.mem_of_getElem? (i := 10) (by decide +kernel)⟩, Or.inr (List.mem_of_getElem? (i := 1497) (by decide +kernel)), by decide +kernel, by decide +kernel, by decide +kernel, by decide +kernel⟩
theorem zMok_233 : zMok (zM 233) := ⟨⟨List.mem_of_getElem? (i := 1502) (by decide +kernel), List.mem_of_getElem? (i := 10) (by decide +kernel)⟩, Or.inr (List.mem_of_getElem? (i := 1501) (by decide +kernel)), by decide +kernel, by decide +kernel, by decide +kernel, by decide +kernel⟩
theorem zMok_234 : zMok (zM 234) := ⟨⟨List.mem_of_getElem? (i := 1506) (by decide +kernel), List.mem_of_getElem? (i := 10) (by decide +kernel)⟩, Or.inr (List.mem_of_getElem? (i := 1504) (by decide +kernel)), by decide +kernel, by decide +kernel, by decide +kernel, by decide +kernel⟩
theorem zMok_235 : zMok (zM 235) := ⟨⟨List.mem_of_getElem? (i := 1510) (by decide +kernel), List.mem_of_getElem? (i := 10) (by decide +kernel)⟩, Or.inr (List.mem_of_getElem? (i := 1509) (by decide +kernel)), by decide +kernel, by decide +kernel, by decide +kernel, by decide +kernel⟩
theorem zMok_236 : zMok (zM 236) := ⟨⟨List.mem_of_getElem? (i := 1514) (by decide +kernel), List.mem_of_getElem? (i := 10) (by decide +kernel)⟩, Or.inr (List.mem_of_getElem? (i := 1512) (by decide +kernel)), by decide +kernel, by decide +kernel, by decide +kernel, by decide +kernel⟩
theorem zMok_237 : zMok (zM 237) := ⟨⟨List.mem_of_getElem? (i := 1519) (by decide +kernel), List.mem_of_getElem? (i := 10) (by decide +kernel)⟩, Or.inr (List.mem_of_getElem? (i := 1518) (by decide +kernel)), by decide +kernel, by decide +kernel, by decide +kernel, by decide +kernel⟩
theorem zMok_238 : zMok (zM 238) := ⟨⟨List.mem_of_getElem? (i := 1523) (by decide +kernel), List.mem_of_getElem? (i := 10) (by decide +kernel)⟩, Or.inr (List.mem_of_getElem? (i := 1521) (by decide +kernel)), by decide +kernel, by decide +kernel, by decide +kernel, by decide +kernel⟩
theorem zMok_239 : zMok (zM 239) := ⟨⟨List.mem_of_getElem? (i := 1528) (by decide +kernel), List.mem_of_getElem? (i := 10) (by decide +kernel)⟩, Or.inr (List.mem_of_getElem? (i := 1526) (by decide +kernel)), by decide +kernel, by decide +kernel, by decide +kernel, by decide +kernel⟩
theorem zMok_240 : zMok (zM 240) := ⟨⟨List.mem_of_getElem? (i := 1532) (by decide +kernel), List.mem_of_getElem? (i := 10) (by decide +kernel)⟩, Or.inr (List.mem_of_getElem? (i := 1531) (by decide +kernel)), by decide +kernel, by decide +kernel, by decide +kernel, by decide +kernel⟩
theorem zMok_241 : zMok (zM 241) := ⟨⟨List.mem_of_getElem? (i := 1536) (by decide +kernel), List.mem_of_getElem? (i := 10) (by decide +kernel)⟩, Or.inr (List.mem_of_getElem? (i := 1535) (by decide +kernel)), by decide +kernel, by decide +kernel, by decide +kernel, by decide +kernel⟩
theorem zMok_242 : zMok (zM 242) := ⟨⟨List.mem_of_getElem? (i := 1540) (by decide +kernel), List.mem_of_getElem? (i := 10) (by decide +kernel)⟩, Or.inr (List.mem_of_getElem? (i := 1539) (by decide +kernel)), by decide +kernel, by decide +kernel, by decide +kernel, by decide +kernel⟩
theorem zMok_243 : zMok (zM 243) := ⟨⟨List.mem_of_getElem? (i := 1544) (by decide +kernel), List.mem_of_getElem? (i := 10) (by decide +kernel)⟩, Or.inr (List.mem_of_getElem? (i := 1542) (by decide +kernel)), by decide +kernel, by decide +kernel, by decide +kernel, by decide +kernel⟩
theorem zMok_244 : zMok (zM 244) := ⟨⟨List.mem_of_getElem? (i := 1548) (by decide +kernel), List.mem_of_getElem? (i := 10) (by decide +kernel)⟩, Or.inr (List.mem_of_getElem? (i := 1547) (by decide +kernel)), by decide +kernel, by decide +kernel, by decide +kernel, by decide +kernel⟩
theorem zMok_245 : zMok (zM 245) := ⟨⟨List.mem_of_getElem? (i := 1552) (by decide +kernel), List.mem_of_getElem? (i := 10) (by decide +kernel)⟩, Or.inr (List.mem_of_getElem? (i := 1550) (by decide +kernel)), by decide +kernel, by decide +kernel, by decide +kernel, by decide +kernel⟩
theorem zMok_246 : zMok (zM 246) := ⟨⟨List.mem_of_getElem? (i := 1556) (by decide +kernel), List.mem_of_getElem? (i := 10) (by decide +kernel)⟩, Or.inr (List.mem_of_getElem? (i := 1555) (by decide +kernel)), by decide +kernel, by decide +kernel, by decide +kernel, by decide +kernel⟩
theorem zMok_247 : zMok (zM 247) := ⟨⟨List.mem_of_getElem? (i := 1560) (by decide +kernel), List.mem_of_getElem? (i := 10) (by decide +kernel)⟩, Or.inr (List.mem_of_getElem? (i := 1558) (by decide +kernel)), by decide +kernel, by decide +kernel, by decide +kernel, by decide +kernel⟩
theorem zMok_248 : zMok (zM 248) := ⟨⟨List.mem_of_getElem? (i := 1564) (by decide +kernel), List.mem_of_getElem? (i := 10) (by decide +kernel)⟩, Or.inr (List.mem_of_getElem? (i := 1562) (by decide +kernel)), by decide +kernel, by decide +kernel, by decide +kernel, by decide +kernel⟩
theorem zMok_249 : zMok (zM 249) := ⟨⟨List.mem_of_getElem? (i := 1569) (by decide +kernel), List.mem_of_getElem? (i := 10) (by decide +kernel)⟩, Or.inr (List.mem_of_getElem? (i := 1568) (by decide +kernel)), by decide +kernel, by decide +kernel, by decide +kernel, by decide +kernel⟩
theorem zMok_250 : zMok (zM 250) := ⟨⟨List.mem_of_getElem? (i := 1577) (by decide +kernel), List.mem_of_getElem? (i := 10) (by decide +kernel)⟩, Or.inr (List.mem_of_getElem? (i := 1576) (by decide +kernel)), by decide +kernel, by decide +kernel, by decide +kernel, by decide +kernel⟩
theorem zMok_251 : zMok (zM 251) := ⟨⟨List.mem_of_getElem? (i := 1581) (by decide +kernel), List.mem_of_getElem? (i := 10) (by decide +kernel)⟩, Or.inr (List.mem_of_getElem? (i := 1579) (by decide +kernel)), by decide +kernel, by decide +kernel, by decide +kernel, by decide +kernel⟩
theorem zMok_252 : zMok (zM 252) := ⟨⟨List.mem_of_getElem? (i := 1585) (by decide +kernel), List.mem_of_getElem? (i := 10) (by decide +kernel)⟩, Or.inr (List.mem_of_getElem? (i := 1584) (by decide +kernel)), by decide +kernel, by decide +kernel, by decide +kernel, by decide +kernel⟩
theorem zMok_253 : zMok (zM 253) := ⟨⟨List.mem_of_getElem? (i := 1589) (by decide +kernel), List.mem_of_getElem? (i := 10) (by decide +kernel)⟩, Or.inr (List.mem_of_getElem? (i := 1587) (by decide +kernel)), by decide +kernel, by decide +kernel, by decide +kernel, by decide +kernel⟩
theorem zMok_254 : zMok (zM 254) := ⟨⟨List.mem_of_getElem? (i := 1593) (by decide +kernel), List.mem_of_getElem? (i := 10) (by decide +kernel)⟩, Or.inr (List.mem_of_getElem? (i := 1591) (by decide +kernel)), by decide +kernel, by decide +kernel, by decide +kernel, by decide +kernel⟩
theorem zMok_all : ∀ y, y < 255 → zMok (zM y) := by
  intro y hy
  by_cases h127 : y < 127
  · skip
    by_cases h63 : y < 63
    · skip
      by_cases h31 : y < 31
      · skip
        by_cases h15 : y < 15
        · skip
          by_cases h7 : y < 7
          · skip
            by_cases h3 : y < 3
            · skip
              by_cases h1 : y < 1
              · skip
                have e : y = 0 := by omega
                subst e; exact zMok_0
              · skip
                by_cases h2 : y < 2
                · skip
                  have e : y = 1 := by omega
                  subst e; exact zMok_1
                · skip
                  have e : y = 2 := by omega
                  subst e; exact zMok_2
            · skip
              by_cases h5 : y < 5
              · skip
                by_cases h4 : y < 4
                · skip
                  have e : y = 3 := by omega
                  subst e; exact zMok_3
                · skip
                  have e : y = 4 := by omega
                  subst e; exact zMok_4
              · skip
                by_cases h6 : y < 6
                · skip
                  have e : y = 5 := by omega
                  subst e; exact zMok_5
                · skip
                  have e : y = 6 := by omega
                  subst e; exact zMok_6
          · skip
            by_cases h11 : y < 11
            · skip
              by_cases h9 : y < 9
              · skip
                by_cases h8 : y < 8
                · skip
                  have e : y = 7 := by omega
                  subst e; exact zMok_7
                · skip
                  have e : y = 8 := by omega
                  subst e; exact zMok_8
              · skip
                by_cases h10 : y < 10
                · skip
                  have e : y = 9 := by omega
                  subst e; exact zMok_9
                · skip
                  have e : y = 10 := by omega
                  subst e; exact zMok_10
            · skip
              by_cases h13 : y < 13
              · skip
                by_cases h12 : y < 12
                · skip
                  have e : y = 11 := by omega
                  subst e; exact zMok_11
                · skip
                  have e : y = 12 := by omega
                  subst e; exact zMok_12
              · skip
                by_cases h14 : y < 14
                · skip
                  have e : y = 13 := by omega
                  subst e; exact zMok_13
                · skip
                  have e : y = 14 := by omega
                  subst e; exact zMok_14
        · skip
          by_cases h23 : y < 23
          · skip
            by_cases h19 : y < 19
            · skip
              by_cases h17 : y < 17
              · skip
                by_cases h16 : y < 16
                · skip
                  have e : y = 15 := by omega
                  subst e; exact zMok_15
                · skip
                  have e : y = 16 := by omega
                  subst e; exact zMok_16
              · skip
                by_cases h18 : y < 18
                · skip
                  have e : y = 17 := by omega
                  subst e; exact zMok_17
                · skip
                  have e : y = 18 := by omega
                  subst e; exact zMok_18
            · skip
              by_cases h21 : y < 21
              · skip
                by_cases h20 : y < 20
                · skip
                  have e : y = 19 := by omega
                  subst e; exact zMok_19
                · skip
                  have e : y = 20 := by omega
                  subst e; exact zMok_20
              · skip
                by_cases h22 : y < 22
                · skip
                  have e : y = 21 := by omega
                  subst e; exact zMok_21
                · skip
                  have e : y = 22 := by omega
                  subst e; exact zMok_22
          · skip
            by_cases h27 : y < 27
            · skip
              by_cases h25 : y < 25
              · skip
                by_cases h24 : y < 24
                · skip
                  have e : y = 23 := by omega
                  subst e; exact zMok_23
                · skip
                  have e : y = 24 := by omega
                  subst e; exact zMok_24
              · skip
                by_cases h26 : y < 26
                · skip
                  have e : y = 25 := by omega
                  subst e; exact zMok_25
                · skip
                  have e : y = 26 := by omega
                  subst e; exact zMok_26
            · skip
              by_cases h29 : y < 29
              · skip
                by_cases h28 : y < 28
                · skip
                  have e : y = 27 := by omega
                  subst e; exact zMok_27
                · skip
                  have e : y = 28 := by omega
                  subst e; exact zMok_28
              · skip
                by_cases h30 : y < 30
                · skip
                  have e : y = 29 := by omega
                  subst e; exact zMok_29
                · skip
                  have e : y = 30 := by omega
                  subst e; exact zMok_30
      · skip
        by_cases h47 : y < 47
        · skip
          by_cases h39 : y < 39
          · skip
            by_cases h35 : y < 35
            · skip
              by_cases h33 : y < 33
              · skip
                by_cases h32 : y < 32
                · skip
                  have e : y = 31 := by omega
                  subst e; exact zMok_31
                · skip
                  have e : y = 32 := by omega
                  subst e; exact zMok_32
              · skip
                by_cases h34 : y < 34
                · skip
                  have e : y = 33 := by omega
                  subst e; exact zMok_33
                · skip
                  have e : y = 34 := by omega
                  subst e; exact zMok_34
            · skip
              by_cases h37 : y < 37
              · skip
                by_cases h36 : y < 36
                · skip
                  have e : y = 35 := by omega
                  subst e; exact zMok_35
                · skip
                  have e : y = 36 := by omega
                  subst e; exact zMok_36
              · skip
                by_cases h38 : y < 38
                · skip
                  have e : y = 37 := by omega
                  subst e; exact zMok_37
                · skip
                  have e : y = 38 := by omega
                  subst e; exact zMok_38
          · skip
            by_cases h43 : y < 43
            · skip
              by_cases h41 : y < 41
              · skip
                by_cases h40 : y < 40
                · skip
                  have e : y = 39 := by omega
                  subst e; exact zMok_39
                · skip
                  have e : y = 40 := by omega
                  subst e; exact zMok_40
              · skip
                by_cases h42 : y < 42
                · skip
                  have e : y = 41 := by omega
                  subst e; exact zMok_41
                · skip
                  have e : y = 42 := by omega
                  subst e; exact zMok_42
            · skip
              by_cases h45 : y < 45
              · skip
                by_cases h44 : y < 44
                · skip
                  have e : y = 43 := by omega
                  subst e; exact zMok_43
                · skip
                  have e : y = 44 := by omega
                  subst e; exact zMok_44
              · skip
                by_cases h46 : y < 46
                · skip
                  have e : y = 45 := by omega
                  subst e; exact zMok_45
                · skip
                  have e : y = 46 := by omega
                  subst e; exact zMok_46
        · skip
          by_cases h55 : y < 55
          · skip
            by_cases h51 : y < 51
            · skip
              by_cases h49 : y < 49
              · skip
                by_cases h48 : y < 48
                · skip
                  have e : y = 47 := by omega
                  subst e; exact zMok_47
                · skip
                  have e : y = 48 := by omega
                  subst e; exact zMok_48
              · skip
                by_cases h50 : y < 50
                · skip
                  have e : y = 49 := by omega
                  subst e; exact zMok_49
                · skip
                  have e : y = 50 := by omega
                  subst e; exact zMok_50
            · skip
              by_cases h53 : y < 53
              · skip
                by_cases h52 : y < 52
                · skip
                  have e : y = 51 := by omega
                  subst e; exact zMok_51
                · skip
                  have e : y = 52 := by omega
                  subst e; exact zMok_52
              · skip
                by_cases h54 : y < 54
                · skip
                  have e : y = 53 := by omega
                  subst e; exact zMok_53
                · skip
                  have e : y = 54 := by omega
                  subst e; exact zMok_54
          · skip
            by_cases h59 : y < 59
            · skip
              by_cases h57 : y < 57
              · skip
                by_cases h56 : y < 56
                · skip
                  have e : y = 55 := by omega
                  subst e; exact zMok_55
                · skip
                  have e : y = 56 := by omega
                  subst e; exact zMok_56
              · skip
                by_cases h58 : y < 58
                · skip
                  have e : y = 57 := by omega
                  subst e; exact zMok_57
                · skip
                  have e : y = 58 := by omega
                  subst e; exact zMok_58
            · skip
              by_cases h61 : y < 61
              · skip
                by_cases h60 : y < 60
                · skip
                  have e : y = 59 := by omega
                  subst e; exact zMok_59
                · skip
                  have e : y = 60 := by omega
                  subst e; exact zMok_60
              · skip
                by_cases h62 : y < 62
                · skip
                  have e : y = 61 := by omega
                  subst e; exact zMok_61
                · skip
                  have e : y = 62 := by omega
                  subst e; exact zMok_62
    · skip
      by_cases h95 : y < 95
      · skip
        by_cases h79 : y < 79
        · skip
          by_cases h71 : y < 71
          · skip
            by_cases h67 : y < 67
            · skip
              by_cases h65 : y < 65
              · skip
                by_cases h64 : y < 64
                · skip
                  have e : y = 63 := by omega
                  subst e; exact zMok_63
                · skip
                  have e : y = 64 := by omega
                  subst e; exact zMok_64
              · skip
                by_cases h66 : y < 66
                · skip
                  have e : y = 65 := by omega
                  subst e; exact zMok_65
                · skip
                  have e : y = 66 := by omega
                  subst e; exact zMok_66
            · skip
              by_cases h69 : y < 69
              · skip
                by_cases h68 : y < 68
                · skip
                  have e : y = 67 := by omega
                  subst e; exact zMok_67
                · skip
                  have e : y = 68 := by omega
                  subst e; exact zMok_68
              · skip
                by_cases h70 : y < 70
                · skip
                  have e : y = 69 := by omega
                  subst e; exact zMok_69
                · skip
                  have e : y = 70 := by omega
                  subst e; exact zMok_70
          · skip
            by_cases h75 : y < 75
            · skip
              by_cases h73 : y < 73
              · skip
                by_cases h72 : y < 72
                · skip
                  have e : y = 71 := by omega
                  subst e; exact zMok_71
                · skip
                  have e : y = 72 := by omega
                  subst e; exact zMok_72
              · skip
                by_cases h74 : y < 74
                · skip
                  have e : y = 73 := by omega
                  subst e; exact zMok_73
                · skip
                  have e : y = 74 := by omega
                  subst e; exact zMok_74
            · skip
              by_cases h77 : y < 77
              · skip
                by_cases h76 : y < 76
                · skip
                  have e : y = 75 := by omega
                  subst e; exact zMok_75
                · skip
                  have e : y = 76 := by omega
                  subst e; exact zMok_76
              · skip
                by_cases h78 : y < 78
                · skip
                  have e : y = 77 := by omega
                  subst e; exact zMok_77
                · skip
                  have e : y = 78 := by omega
                  subst e; exact zMok_78
        · skip
          by_cases h87 : y < 87
          · skip
            by_cases h83 : y < 83
            · skip
              by_cases h81 : y < 81
              · skip
                by_cases h80 : y < 80
                · skip
                  have e : y = 79 := by omega
                  subst e; exact zMok_79
                · skip
                  have e : y = 80 := by omega
                  subst e; exact zMok_80
              · skip
                by_cases h82 : y < 82
                · skip
                  have e : y = 81 := by omega
                  subst e; exact zMok_81
                · skip
                  have e : y = 82 := by omega
                  subst e; exact zMok_82
            · skip
              by_cases h85 : y < 85
              · skip
                by_cases h84 : y < 84
                · skip
                  have e : y = 83 := by omega
                  subst e; exact zMok_83
                · skip
                  have e : y = 84 := by omega
                  subst e; exact zMok_84
              · skip
                by_cases h86 : y < 86
                · skip
                  have e : y = 85 := by omega
                  subst e; exact zMok_85
                · skip
                  have e : y = 86 := by omega
                  subst e; exact zMok_86
          · skip
            by_cases h91 : y < 91
            · skip
              by_cases h89 : y < 89
              · skip
                by_cases h88 : y < 88
                · skip
                  have e : y = 87 := by omega
                  subst e; exact zMok_87
                · skip
                  have e : y = 88 := by omega
                  subst e; exact zMok_88
              · skip
                by_cases h90 : y < 90
                · skip
                  have e : y = 89 := by omega
                  subst e; exact zMok_89
                · skip
                  have e : y = 90 := by omega
                  subst e; exact zMok_90
            · skip
              by_cases h93 : y < 93
              · skip
                by_cases h92 : y < 92
                · skip
                  have e : y = 91 := by omega
                  subst e; exact zMok_91
                · skip
                  have e : y = 92 := by omega
                  subst e; exact zMok_92
              · skip
                by_cases h94 : y < 94
                · skip
                  have e : y = 93 := by omega
                  subst e; exact zMok_93
                · skip
                  have e : y = 94 := by omega
                  subst e; exact zMok_94
      · skip
        by_cases h111 : y < 111
        · skip
          by_cases h103 : y < 103
          · skip
            by_cases h99 : y < 99
            · skip
              by_cases h97 : y < 97
              · skip
                by_cases h96 : y < 96
                · skip
                  have e : y = 95 := by omega
                  subst e; exact zMok_95
                · skip
                  have e : y = 96 := by omega
                  subst e; exact zMok_96
              · skip
                by_cases h98 : y < 98
                · skip
                  have e : y = 97 := by omega
                  subst e; exact zMok_97
                · skip
                  have e : y = 98 := by omega
                  subst e; exact zMok_98
            · skip
              by_cases h101 : y < 101
              · skip
                by_cases h100 : y < 100
                · skip
                  have e : y = 99 := by omega
                  subst e; exact zMok_99
                · skip
                  have e : y = 100 := by omega
                  subst e; exact zMok_100
              · skip
                by_cases h102 : y < 102
                · skip
                  have e : y = 101 := by omega
                  subst e; exact zMok_101
                · skip
                  have e : y = 102 := by omega
                  subst e; exact zMok_102
          · skip
            by_cases h107 : y < 107
            · skip
              by_cases h105 : y < 105
              · skip
                by_cases h104 : y < 104
                · skip
                  have e : y = 103 := by omega
                  subst e; exact zMok_103
                · skip
                  have e : y = 104 := by omega
                  subst e; exact zMok_104
              · skip
                by_cases h106 : y < 106
                · skip
                  have e : y = 105 := by omega
                  subst e; exact zMok_105
                · skip
                  have e : y = 106 := by omega
                  subst e; exact zMok_106
            · skip
              by_cases h109 : y < 109
              · skip
                by_cases h108 : y < 108
                · skip
                  have e : y = 107 := by omega
                  subst e; exact zMok_107
                · skip
                  have e : y = 108 := by omega
                  subst e; exact zMok_108
              · skip
                by_cases h110 : y < 110
                · skip
                  have e : y = 109 := by omega
                  subst e; exact zMok_109
                · skip
                  have e : y = 110 := by omega
                  subst e; exact zMok_110
        · skip
          by_cases h119 : y < 119
          · skip
            by_cases h115 : y < 115
            · skip
              by_cases h113 : y < 113
              · skip
                by_cases h112 : y < 112
                · skip
                  have e : y = 111 := by omega
                  subst e; exact zMok_111
                · skip
                  have e : y = 112 := by omega
                  subst e; exact zMok_112
              · skip
                by_cases h114 : y < 114
                · skip
                  have e : y = 113 := by omega
                  subst e; exact zMok_113
                · skip
                  have e : y = 114 := by omega
                  subst e; exact zMok_114
            · skip
              by_cases h117 : y < 117
              · skip
                by_cases h116 : y < 116
                · skip
                  have e : y = 115 := by omega
                  subst e; exact zMok_115
                · skip
                  have e : y = 116 := by omega
                  subst e; exact zMok_116
              · skip
                by_cases h118 : y < 118
                · skip
                  have e : y = 117 := by omega
                  subst e; exact zMok_117
                · skip
                  have e : y = 118 := by omega
                  subst e; exact zMok_118
          · skip
            by_cases h123 : y < 123
            · skip
              by_cases h121 : y < 121
              · skip
                by_cases h120 : y < 120
                · skip
                  have e : y = 119 := by omega
                  subst e; exact zMok_119
                · skip
                  have e : y = 120 := by omega
                  subst e; exact zMok_120
              · skip
                by_cases h122 : y < 122
                · skip
                  have e : y = 121 := by omega
                  subst e; exact zMok_121
                · skip
                  have e : y = 122 := by omega
                  subst e; exact zMok_122
            · skip
              by_cases h125 : y < 125
              · skip
                by_cases h124 : y < 124
                · skip
                  have e : y = 123 := by omega
                  subst e; exact zMok_123
                · skip
                  have e : y = 124 := by omega
                  subst e; exact zMok_124
              · skip
                by_cases h126 : y < 126
                · skip
                  have e : y = 125 := by omega
                  subst e; exact zMok_125
                · skip
                  have e : y = 126 := by omega
                  subst e; exact zMok_126
  · skip
    by_cases h191 : y < 191
    · skip
      by_cases h159 : y < 159
      · skip
        by_cases h143 : y < 143
        · skip
          by_cases h135 : y < 135
          · skip
            by_cases h131 : y < 131
            · skip
              by_cases h129 : y < 129
              · skip
                by_cases h128 : y < 128
                · skip
                  have e : y = 127 := by omega
                  subst e; exact zMok_127
                · skip
                  have e : y = 128 := by omega
                  subst e; exact zMok_128
              · skip
                by_cases h130 : y < 130
                · skip
                  have e : y = 129 := by omega
                  subst e; exact zMok_129
                · skip
                  have e : y = 130 := by omega
                  subst e; exact zMok_130
            · skip
              by_cases h133 : y < 133
              · skip
                by_cases h132 : y < 132
                · skip
                  have e : y = 131 := by omega
                  subst e; exact zMok_131
                · skip
                  have e : y = 132 := by omega
                  subst e; exact zMok_132
              · skip
                by_cases h134 : y < 134
                · skip
                  have e : y = 133 := by omega
                  subst e; exact zMok_133
                · skip
                  have e : y = 134 := by omega
                  subst e; exact zMok_134
          · skip
            by_cases h139 : y < 139
            · skip
              by_cases h137 : y < 137
              · skip
                by_cases h136 : y < 136
                · skip
                  have e : y = 135 := by omega
                  subst e; exact zMok_135
                · skip
                  have e : y = 136 := by omega
                  subst e; exact zMok_136
              · skip
                by_cases h138 : y < 138
                · skip
                  have e : y = 137 := by omega
                  subst e; exact zMok_137
                · skip
                  have e : y = 138 := by omega
                  subst e; exact zMok_138
            · skip
              by_cases h141 : y < 141
              · skip
                by_cases h140 : y < 140
                · skip
                  have e : y = 139 := by omega
                  subst e; exact zMok_139
                · skip
                  have e : y = 140 := by omega
                  subst e; exact zMok_140
              · skip
                by_cases h142 : y < 142
                · skip
                  have e : y = 141 := by omega
                  subst e; exact zMok_141
                · skip
                  have e : y = 142 := by omega
                  subst e; exact zMok_142
        · skip
          by_cases h151 : y < 151
          · skip
            by_cases h147 : y < 147
            · skip
              by_cases h145 : y < 145
              · skip
                by_cases h144 : y < 144
                · skip
                  have e : y = 143 := by omega
                  subst e; exact zMok_143
                · skip
                  have e : y = 144 := by omega
                  subst e; exact zMok_144
              · skip
                by_cases h146 : y < 146
                · skip
                  have e : y = 145 := by omega
                  subst e; exact zMok_145
                · skip
                  have e : y = 146 := by omega
                  subst e; exact zMok_146
            · skip
              by_cases h149 : y < 149
              · skip
                by_cases h148 : y < 148
                · skip
                  have e : y = 147 := by omega
                  subst e; exact zMok_147
                · skip
                  have e : y = 148 := by omega
                  subst e; exact zMok_148
              · skip
                by_cases h150 : y < 150
                · skip
                  have e : y = 149 := by omega
                  subst e; exact zMok_149
                · skip
                  have e : y = 150 := by omega
                  subst e; exact zMok_150
          · skip
            by_cases h155 : y < 155
            · skip
              by_cases h153 : y < 153
              · skip
                by_cases h152 : y < 152
                · skip
                  have e : y = 151 := by omega
                  subst e; exact zMok_151
                · skip
                  have e : y = 152 := by omega
                  subst e; exact zMok_152
              · skip
                by_cases h154 : y < 154
                · skip
                  have e : y = 153 := by omega
                  subst e; exact zMok_153
                · skip
                  have e : y = 154 := by omega
                  subst e; exact zMok_154
            · skip
              by_cases h157 : y < 157
              · skip
                by_cases h156 : y < 156
                · skip
                  have e : y = 155 := by omega
                  subst e; exact zMok_155
                · skip
                  have e : y = 156 := by omega
                  subst e; exact zMok_156
              · skip
                by_cases h158 : y < 158
                · skip
                  have e : y = 157 := by omega
                  subst e; exact zMok_157
                · skip
                  have e : y = 158 := by omega
                  subst e; exact zMok_158
      · skip
        by_cases h175 : y < 175
        · skip
          by_cases h167 : y < 167
          · skip
            by_cases h163 : y < 163
            · skip
              by_cases h161 : y < 161
              · skip
                by_cases h160 : y < 160
                · skip
                  have e : y = 159 := by omega
                  subst e; exact zMok_159
                · skip
                  have e : y = 160 := by omega
                  subst e; exact zMok_160
              · skip
                by_cases h162 : y < 162
                · skip
                  have e : y = 161 := by omega
                  subst e; exact zMok_161
                · skip
                  have e : y = 162 := by omega
                  subst e; exact zMok_162
            · skip
              by_cases h165 : y < 165
              · skip
                by_cases h164 : y < 164
                · skip
                  have e : y = 163 := by omega
                  subst e; exact zMok_163
                · skip
                  have e : y = 164 := by omega
                  subst e; exact zMok_164
              · skip
                by_cases h166 : y < 166
                · skip
                  have e : y = 165 := by omega
                  subst e; exact zMok_165
                · skip
                  have e : y = 166 := by omega
                  subst e; exact zMok_166
          · skip
            by_cases h171 : y < 171
            · skip
              by_cases h169 : y < 169
              · skip
                by_cases h168 : y < 168
                · skip
                  have e : y = 167 := by omega
                  subst e; exact zMok_167
                · skip
                  have e : y = 168 := by omega
                  subst e; exact zMok_168
              · skip
                by_cases h170 : y < 170
                · skip
                  have e : y = 169 := by omega
                  subst e; exact zMok_169
                · skip
                  have e : y = 170 := by omega
                  subst e; exact zMok_170
            · skip
              by_cases h173 : y < 173
              · skip
                by_cases h172 : y < 172
                · skip
                  have e : y = 171 := by omega
                  subst e; exact zMok_171
                · skip
                  have e : y = 172 := by omega
                  subst e; exact zMok_172
              · skip
                by_cases h174 : y < 174
                · skip
                  have e : y = 173 := by omega
                  subst e; exact zMok_173
                · skip
                  have e : y = 174 := by omega
                  subst e; exact zMok_174
        · skip
          by_cases h183 : y < 183
          · skip
            by_cases h179 : y < 179
            · skip
              by_cases h177 : y < 177
              · skip
                by_cases h176 : y < 176
                · skip
                  have e : y = 175 := by omega
                  subst e; exact zMok_175
                · skip
                  have e : y = 176 := by omega
                  subst e; exact zMok_176
              · skip
                by_cases h178 : y < 178
                · skip
                  have e : y = 177 := by omega
                  subst e; exact zMok_177
                · skip
                  have e : y = 178 := by omega
                  subst e; exact zMok_178
            · skip
              by_cases h181 : y < 181
              · skip
                by_cases h180 : y < 180
                · skip
                  have e : y = 179 := by omega
                  subst e; exact zMok_179
                · skip
                  have e : y = 180 := by omega
                  subst e; exact zMok_180
              · skip
                by_cases h182 : y < 182
                · skip
                  have e : y = 181 := by omega
                  subst e; exact zMok_181
                · skip
                  have e : y = 182 := by omega
                  subst e; exact zMok_182
          · skip
            by_cases h187 : y < 187
            · skip
              by_cases h185 : y < 185
              · skip
                by_cases h184 : y < 184
                · skip
                  have e : y = 183 := by omega
                  subst e; exact zMok_183
                · skip
                  have e : y = 184 := by omega
                  subst e; exact zMok_184
              · skip
                by_cases h186 : y < 186
                · skip
                  have e : y = 185 := by omega
                  subst e; exact zMok_185
                · skip
                  have e : y = 186 := by omega
                  subst e; exact zMok_186
            · skip
              by_cases h189 : y < 189
              · skip
                by_cases h188 : y < 188
                · skip
                  have e : y = 187 := by omega
                  subst e; exact zMok_187
                · skip
                  have e : y = 188 := by omega
                  subst e; exact zMok_188
              · skip
                by_cases h190 : y < 190
                · skip
                  have e : y = 189 := by omega
                  subst e; exact zMok_189
                · skip
                  have e : y = 190 := by omega
                  subst e; exact zMok_190
    · skip
      by_cases h223 : y < 223
      · skip
        by_cases h207 : y < 207
        · skip
          by_cases h199 : y < 199
          · skip
            by_cases h195 : y < 195
            · skip
              by_cases h193 : y < 193
              · skip
                by_cases h192 : y < 192
                · skip
                  have e : y = 191 := by omega
                  subst e; exact zMok_191
                · skip
                  have e : y = 192 := by omega
                  subst e; exact zMok_192
              · skip
                by_cases h194 : y < 194
                · skip
                  have e : y = 193 := by omega
                  subst e; exact zMok_193
                · skip
                  have e : y = 194 := by omega
                  subst e; exact zMok_194
            · skip
              by_cases h197 : y < 197
              · skip
                by_cases h196 : y < 196
                · skip
                  have e : y = 195 := by omega
                  subst e; exact zMok_195
                · skip
                  have e : y = 196 := by omega
                  subst e; exact zMok_196
              · skip
                by_cases h198 : y < 198
                · skip
                  have e : y = 197 := by omega
                  subst e; exact zMok_197
                · skip
                  have e : y = 198 := by omega
                  subst e; exact zMok_198
          · skip
            by_cases h203 : y < 203
            · skip
              by_cases h201 : y < 201
              · skip
                by_cases h200 : y < 200
                · skip
                  have e : y = 199 := by omega
                  subst e; exact zMok_199
                · skip
                  have e : y = 200 := by omega
                  subst e; exact zMok_200
              · skip
                by_cases h202 : y < 202
                · skip
                  have e : y = 201 := by omega
                  subst e; exact zMok_201
                · skip
                  have e : y = 202 := by omega
                  subst e; exact zMok_202
            · skip
              by_cases h205 : y < 205
              · skip
                by_cases h204 : y < 204
                · skip
                  have e : y = 203 := by omega
                  subst e; exact zMok_203
                · skip
                  have e : y = 204 := by omega
                  subst e; exact zMok_204
              · skip
                by_cases h206 : y < 206
                · skip
                  have e : y = 205 := by omega
                  subst e; exact zMok_205
                · skip
                  have e : y = 206 := by omega
                  subst e; exact zMok_206
        · skip
          by_cases h215 : y < 215
          · skip
            by_cases h211 : y < 211
            · skip
              by_cases h209 : y < 209
              · skip
                by_cases h208 : y < 208
                · skip
                  have e : y = 207 := by omega
                  subst e; exact zMok_207
                · skip
                  have e : y = 208 := by omega
                  subst e; exact zMok_208
              · skip
                by_cases h210 : y < 210
                · skip
                  have e : y = 209 := by omega
                  subst e; exact zMok_209
                · skip
                  have e : y = 210 := by omega
                  subst e; exact zMok_210
            · skip
              by_cases h213 : y < 213
              · skip
                by_cases h212 : y < 212
                · skip
                  have e : y = 211 := by omega
                  subst e; exact zMok_211
                · skip
                  have e : y = 212 := by omega
                  subst e; exact zMok_212
              · skip
                by_cases h214 : y < 214
                · skip
                  have e : y = 213 := by omega
                  subst e; exact zMok_213
                · skip
                  have e : y = 214 := by omega
                  subst e; exact zMok_214
          · skip
            by_cases h219 : y < 219
            · skip
              by_cases h217 : y < 217
              · skip
                by_cases h216 : y < 216
                · skip
                  have e : y = 215 := by omega
                  subst e; exact zMok_215
                · skip
                  have e : y = 216 := by omega
                  subst e; exact zMok_216
              · skip
                by_cases h218 : y < 218
                · skip
                  have e : y = 217 := by omega
                  subst e; exact zMok_217
                · skip
                  have e : y = 218 := by omega
                  subst e; exact zMok_218
            · skip
              by_cases h221 : y < 221
              · skip
                by_cases h220 : y < 220
                · skip
                  have e : y = 219 := by omega
                  subst e; exact zMok_219
                · skip
                  have e : y = 220 := by omega
                  subst e; exact zMok_220
              · skip
                by_cases h222 : y < 222
                · skip
                  have e : y = 221 := by omega
                  subst e; exact zMok_221
                · skip
                  have e : y = 222 := by omega
                  subst e; exact zMok_222
      · skip
        by_cases h239 : y < 239
        · skip
          by_cases h231 : y < 231
          · skip
            by_cases h227 : y < 227
            · skip
              by_cases h225 : y < 225
              · skip
                by_cases h224 : y < 224
                · skip
                  have e : y = 223 := by omega
                  subst e; exact zMok_223
                · skip
                  have e : y = 224 := by omega
                  subst e; exact zMok_224
              · skip
                by_cases h226 : y < 226
                · skip
                  have e : y = 225 := by omega
                  subst e; exact zMok_225
                · skip
                  have e : y = 226 := by omega
                  subst e; exact zMok_226
            · skip
              by_cases h229 : y < 229
              · skip
                by_cases h228 : y < 228
                · skip
                  have e : y = 227 := by omega
                  subst e; exact zMok_227
                · skip
                  have e : y = 228 := by omega
                  subst e; exact zMok_228
              · skip
                by_cases h230 : y < 230
                · skip
                  have e : y = 229 := by omega
                  subst e; exact zMok_229
                · skip
                  have e : y = 230 := by omega
                  subst e; exact zMok_230
          · skip
            by_cases h235 : y < 235
            · skip
              by_cases h233 : y < 233
              · skip
                by_cases h232 : y < 232
                · skip
                  have e : y = 231 := by omega
                  subst e; exact zMok_231
                · skip
                  have e : y = 232 := by omega
                  subst e; exact zMok_232
              · skip
                by_cases h234 : y < 234
                · skip
                  have e : y = 233 := by omega
                  subst e; exact zMok_233
                · skip
                  have e : y = 234 := by omega
                  subst e; exact zMok_234
            · skip
              by_cases h237 : y < 237
              · skip
                by_cases h236 : y < 236
                · skip
                  have e : y = 235 := by omega
                  subst e; exact zMok_235
                · skip
                  have e : y = 236 := by omega
                  subst e; exact zMok_236
              · skip
                by_cases h238 : y < 238
                · skip
                  have e : y = 237 := by omega
                  subst e; exact zMok_237
                · skip
                  have e : y = 238 := by omega
                  subst e; exact zMok_238
        · skip
          by_cases h247 : y < 247
          · skip
            by_cases h243 : y < 243
            · skip
              by_cases h241 : y < 241
              · skip
                by_cases h240 : y < 240
                · skip
                  have e : y = 239 := by omega
                  subst e; exact zMok_239
                · skip
                  have e : y = 240 := by omega
                  subst e; exact zMok_240
              · skip
                by_cases h242 : y < 242
                · skip
                  have e : y = 241 := by omega
                  subst e; exact zMok_241
                · skip
                  have e : y = 242 := by omega
                  subst e; exact zMok_242
            · skip
              by_cases h245 : y < 245
              · skip
                by_cases h244 : y < 244
                · skip
                  have e : y = 243 := by omega
                  subst e; exact zMok_243
                · skip
                  have e : y = 244 := by omega
                  subst e; exact zMok_244
              · skip
                by_cases h246 : y < 246
                · skip
                  have e : y = 245 := by omega
                  subst e; exact zMok_245
                · skip
                  have e : y = 246 := by omega
                  subst e; exact zMok_246
          · skip
            by_cases h251 : y < 251
            · skip
              by_cases h249 : y < 249
              · skip
                by_cases h248 : y < 248
                · skip
                  have e : y = 247 := by omega
                  subst e; exact zMok_247
                · skip
                  have e : y = 248 := by omega
                  subst e; exact zMok_248
              · skip
                by_cases h250 : y < 250
                · skip
                  have e : y = 249 := by omega
                  subst e; exact zMok_249
                · skip
                  have e : y = 250 := by omega
                  subst e; exact zMok_250
            · skip
              by_cases h253 : y < 253
              · skip
                by_cases h252 : y < 252
                · skip
                  have e : y = 251 := by omega
                  subst e; exact zMok_251
                · skip
                  have e : y = 252 := by omega
                  subst e; exact zMok_252
              · skip
                by_cases h254 : y < 254
                · skip
                  have e : y = 253 := by omega
                  subst e; exact zMok_253
                · skip
                  have e : y = 254 := by omega
                  subst e; exact zMok_254
theorem zlay_0 : ∀ k, k < 7 → u_lay RX0 TX0 k ∈ tables_1 := fun k h => match k, h with
  | 0, _ => List.mem_of_getElem? (i := 195) (by decide +kernel)
  | 1, _ => List.mem_of_getElem? (i := 197) (by decide +kernel)
  | 2, _ => List.mem_of_getElem? (i := 199) (by decide +kernel)
  | 3, _ => List.mem_of_getElem? (i := 201) (by decide +kernel)
  | 4, _ => List.mem_of_getElem? (i := 203) (by decide +kernel)
  | 5, _ => List.mem_of_getElem? (i := 205) (by decide +kernel)
  | 6, _ => List.mem_of_getElem? (i := 207) (by decide +kernel)
  | _ + 7, h => absurd h (by omega)
theorem zlay_1 : ∀ k, k < 6 → u_lay RX1 TX1 k ∈ tables_1 := fun k h => match k, h with
  | 0, _ => List.mem_of_getElem? (i := 255) (by decide +kernel)
  | 1, _ => List.mem_of_getElem? (i := 257) (by decide +kernel)
  | 2, _ => List.mem_of_getElem? (i := 259) (by decide +kernel)
  | 3, _ => List.mem_of_getElem? (i := 261) (by decide +kernel)
  | 4, _ => List.mem_of_getElem? (i := 263) (by decide +kernel)
  | 5, _ => List.mem_of_getElem? (i := 265) (by decide +kernel)
  | _ + 6, h => absurd h (by omega)
theorem zlay_2 : ∀ k, k < 4 → u_lay RX2 TX2 k ∈ tables_1 := fun k h => match k, h with
  | 0, _ => List.mem_of_getElem? (i := 97) (by decide +kernel)
  | 1, _ => List.mem_of_getElem? (i := 99) (by decide +kernel)
  | 2, _ => List.mem_of_getElem? (i := 101) (by decide +kernel)
  | 3, _ => List.mem_of_getElem? (i := 103) (by decide +kernel)
  | _ + 4, h => absurd h (by omega)
theorem zlay_3 : ∀ k, k < 6 → u_lay RX3 TX3 k ∈ tables_1 := fun k h => match k, h with
  | 0, _ => List.mem_of_getElem? (i := 379) (by decide +kernel)
  | 1, _ => List.mem_of_getElem? (i := 381) (by decide +kernel)
  | 2, _ => List.mem_of_getElem? (i := 383) (by decide +kernel)
  | 3, _ => List.mem_of_getElem? (i := 385) (by decide +kernel)
  | 4, _ => List.mem_of_getElem? (i := 387) (by decide +kernel)
  | 5, _ => List.mem_of_getElem? (i := 389) (by decide +kernel)
  | _ + 6, h => absurd h (by omega)
theorem zlay_4 : ∀ k, k < 7 → u_lay RX4 TX4 k ∈ tables_1 := fun k h => match k, h with
  | 0, _ => List.mem_of_getElem? (i := 134) (by decide +kernel)
  | 1, _ => List.mem_of_getElem? (i := 136) (by decide +kernel)
  | 2, _ => List.mem_of_getElem? (i := 138) (by decide +kernel)
  | 3, _ => List.mem_of_getElem? (i := 140) (by decide +kernel)
  | 4, _ => List.mem_of_getElem? (i := 142) (by decide +kernel)
  | 5, _ => List.mem_of_getElem? (i := 144) (by decide +kernel)
  | 6, _ => List.mem_of_getElem? (i := 146) (by decide +kernel)
  | _ + 7, h => absurd h (by omega)
theorem zlay_5 : ∀ k, k < 9 → u_lay RX5 TX5 k ∈ tables_1 := fun k h => match k, h with
  | 0, _ => List.mem_of_getElem? (i := 65) (by decide +kernel)
  | 1, _ => List.mem_of_getElem? (i := 67) (by decide +kernel)
  | 2, _ => List.mem_of_getElem? (i := 69) (by decide +kernel)
  | 3, _ => List.mem_of_getElem? (i := 71) (by decide +kernel)
  | 4, _ => List.mem_of_getElem? (i := 73) (by decide +kernel)
  | 5, _ => List.mem_of_getElem? (i := 75) (by decide +kernel)
  | 6, _ => List.mem_of_getElem? (i := 77) (by decide +kernel)
  | 7, _ => List.mem_of_getElem? (i := 79) (by decide +kernel)
  | 8, _ => List.mem_of_getElem? (i := 81) (by decide +kernel)
  | _ + 9, h => absurd h (by omega)
theorem zlay_6 : ∀ k, k < 4 → u_lay RX6 TX6 k ∈ tables_1 := fun k h => match k, h with
  | 0, _ => List.mem_of_getElem? (i := 225) (by decide +kernel)
  | 1, _ => List.mem_of_getElem? (i := 227) (by decide +kernel)
  | 2, _ => List.mem_of_getElem? (i := 229) (by decide +kernel)
  | 3, _ => List.mem_of_getElem? (i := 231) (by decide +kernel)
  | _ + 4, h => absurd h (by omega)
theorem zlay_7 : ∀ k, k < 1 → u_lay RX7 TX7 k ∈ tables_1 := fun k h => match k, h with
  | 0, _ => List.mem_of_getElem? (i := 592) (by decide +kernel)
  | _ + 1, h => absurd h (by omega)
theorem zlay_8 : ∀ k, k < 4 → u_lay RX8 TX8 k ∈ tables_1 := fun k h => match k, h with
  | 0, _ => List.mem_of_getElem? (i := 167) (by decide +kernel)
  | 1, _ => List.mem_of_getElem? (i := 169) (by decide +kernel)
  | 2, _ => List.mem_of_getElem? (i := 171) (by decide +kernel)
  | 3, _ => List.mem_of_getElem? (i := 173) (by decide +kernel)
  | _ + 4, h => absurd h (by omega)
theorem zlay_9 : ∀ k, k < 1 → u_lay RX9 TX9 k ∈ tables_1 := fun k h => match k, h with
  | 0, _ => List.mem_of_getElem? (i := 151) (by decide +kernel)
  | _ + 1, h => absurd h (by omega)
theorem zlay_10 : ∀ k, k < 20 → u_lay RX10 TX10 k ∈ tables_1 := fun k h => match k, h with
  | 0, _ => List.mem_of_getElem? (i := 288) (by decide +kernel)
  | 1, _ => List.mem_of_getElem? (i := 290) (by decide +kernel)
  | 2, _ => List.mem_of_getElem? (i := 292) (by decide +kernel)
  | 3, _ => List.mem_of_getElem? (i := 294) (by decide +kernel)
  | 4, _ => List.mem_of_getElem? (i := 296) (by decide +kernel)
  | 5, _ => List.mem_of_getElem? (i := 298) (by decide +kernel)
  | 6, _ => List.mem_of_getElem? (i := 300) (by decide +kernel)
  | 7, _ => List.mem_of_getElem? (i := 302) (by decide +kernel)
  | 8, _ => List.mem_of_getElem? (i := 304) (by decide +kernel)
  | 9, _ => List.mem_of_getElem? (i := 306) (by decide +kernel)
  | 10, _ => List.mem_of_getElem? (i := 308) (by decide +kernel)
  | 11, _ => List.mem_of_getElem? (i := 310) (by decide +kernel)
  | 12, _ => List.mem_of_getElem? (i := 312) (by decide +kernel)
  | 13, _ => List.mem_of_getElem? (i := 314) (by decide +kernel)
  | 14, _ => List.mem_of_getElem? (i := 316) (by decide +kernel)
  | 15, _ => List.mem_of_getElem? (i := 318) (by decide +kernel)
  | 16, _ => List.mem_of_getElem? (i := 320) (by decide +kernel)
  | 17, _ => List.mem_of_getElem? (i := 322) (by decide +kernel)
  | 18, _ => List.mem_of_getElem? (i := 324) (by decide +kernel)
  | 19, _ => List.mem_of_getElem? (i := 326) (by decide +kernel)
  | _ + 20, h => absurd h (by omega)
theorem zlay_11 : ∀ k, k < 40 → u_lay RX11 TX11 k ∈ tables_1 := fun k h => match k, h with
  | 0, _ => List.mem_of_getElem? (i := 996) (by decide +kernel)
  | 1, _ => List.mem_of_getElem? (i := 998) (by decide +kernel)
  | 2, _ => List.mem_of_getElem? (i := 1000) (by decide +kernel)
  | 3, _ => List.mem_of_getElem? (i := 1002) (by decide +kernel)
  | 4, _ => List.mem_of_getElem? (i := 1004) (by decide +kernel)
  | 5, _ => List.mem_of_getElem? (i := 1006) (by decide +kernel)
  | 6, _ => List.mem_of_getElem? (i := 1008) (by decide +kernel)
  | 7, _ => List.mem_of_getElem? (i := 1010) (by decide +kernel)
  | 8, _ => List.mem_of_getElem? (i := 1012) (by decide +kernel)
  | 9, _ => List.mem_of_getElem? (i := 1014) (by decide +kernel)
  | 10, _ => List.mem_of_getElem? (i := 1016) (by decide +kernel)
  | 11, _ => List.mem_of_getElem? (i := 1018) (by decide +kernel)
  | 12, _ => List.mem_of_getElem? (i := 1020) (by decide +kernel)
  | 13, _ => List.mem_of_getElem? (i := 1022) (by decide +kernel)
  | 14, _ => List.mem_of_getElem? (i := 1024) (by decide +kernel)
  | 15, _ => List.mem_of_getElem? (i := 1026) (by decide +kernel)
  | 16, _ => List.mem_of_getElem? (i := 1028) (by decide +kernel)
  | 17, _ => List.mem_of_getElem? (i := 1030) (by decide +kernel)
  | 18, _ => List.mem_of_getElem? (i := 1032) (by decide +kernel)
  | 19, _ => List.mem_of_getElem? (i := 1034) (by decide +kernel)
  | 20, _ => List.mem_of_getElem? (i := 1036) (by decide +kernel)
  | 21, _ => List.mem_of_getElem? (i := 1038) (by decide +kernel)
  | 22, _ => List.mem_of_getElem? (i := 1040) (by decide +kernel)
  | 23, _ => List.mem_of_getElem? (i := 1042) (by decide +kernel)
  | 24, _ => List.mem_of_getElem? (i := 1044) (by decide +kernel)
  | 25, _ => List.mem_of_getElem? (i := 1046) (by decide +kernel)
  | 26, _ => List.mem_of_getElem? (i := 1048) (by decide +kernel)
  | 27, _ => List.mem_of_getElem? (i := 1050) (by decide +kernel)
  | 28, _ => List.mem_of_getElem? (i := 1052) (by decide +kernel)
  | 29, _ => List.mem_of_getElem? (i := 1054) (by decide +kernel)
  | 30, _ => List.mem_of_getElem? (i := 1056) (by decide +kernel)
  | 31, _ => List.mem_of_getElem? (i := 1058) (by decide +kernel)
  | 32, _ => List.mem_of_getElem? (i := 1060) (by decide +kernel)
  | 33, _ => List.mem_of_getElem? (i := 1062) (by decide +kernel)
  | 34, _ => List.mem_of_getElem? (i := 1064) (by decide +kernel)
  | 35, _ => List.mem_of_getElem? (i := 1066) (by decide +kernel)
  | 36, _ => List.mem_of_getElem? (i := 1068) (by decide +kernel)
  | 37, _ => List.mem_of_getElem? (i := 1070) (by decide +kernel)
  | 38, _ => List.mem_of_getElem? (i := 1072) (by decide +kernel)
  | 39, _ => List.mem_of_getElem? (i := 1074) (by decide +kernel)
  | _ + 40, h => absurd h (by omega)
theorem zins_0 : Cond.instantiable RX0 7 ∈ tables_1 ∧ Cond.initialized RX0 ∈ tables_1 := ⟨List.mem_of_getElem? (i := 177) (by decide +kernel), List.mem_of_getElem? (i := 7) (by decide +kernel)⟩
theorem zins_1 : Cond.instantiable RX1 6 ∈ tables_1 ∧ Cond.initialized RX1 ∈ tables_1 := ⟨List.mem_of_getElem? (i := 234) (by decide +kernel), List.mem_of_getElem? (i := 9) (by decide +kernel)⟩
theorem zins_2 : Cond.instantiable RX2 4 ∈ tables_1 ∧ Cond.initialized RX2 ∈ tables_1 := ⟨List.mem_of_getElem? (i := 87) (by decide +kernel), List.mem_of_getElem? (i := 3) (by decide +kernel)⟩
theorem zins_3 : Cond.instantiable RX3 6 ∈ tables_1 ∧ Cond.initialized RX3 ∈ tables_1 := ⟨List.mem_of_getElem? (i := 350) (by decide +kernel), List.mem_of_getElem? (i := 11) (by decide +kernel)⟩
theorem zins_4 : Cond.instantiable RX4 7 ∈ tables_1 ∧ Cond.initialized RX4 ∈ tables_1 := ⟨List.mem_of_getElem? (i := 116) (by decide +kernel), List.mem_of_getElem? (i := 5) (by decide +kernel)⟩
theorem zins_5 : Cond.instantiable RX5 9 ∈ tables_1 ∧ Cond.initialized RX5 ∈ tables_1 := ⟨List.mem_of_getElem? (i := 32) (by decide +kernel), List.mem_of_getElem? (i := 2) (by decide +kernel)⟩
theorem zins_6 : Cond.instantiable RX6 4 ∈ tables_1 ∧ Cond.initialized RX6 ∈ tables_1 := ⟨List.mem_of_getElem? (i := 212) (by decide +kernel), List.mem_of_getElem? (i := 8) (by decide +kernel)⟩
theorem zins_7 : Cond.instantiable RX7 1 ∈ tables_1 ∧ Cond.initialized RX7 ∈ tables_1 := ⟨List.mem_of_getElem? (i := 574) (by decide +kernel), List.mem_of_getElem? (i := 18) (by decide +kernel)⟩
theorem zins_8 : Cond.instantiable RX8 4 ∈ tables_1 ∧ Cond.initialized RX8 ∈ tables_1 := ⟨List.mem_of_getElem? (i := 155) (by decide +kernel), List.mem_of_getElem? (i := 6) (by decide +kernel)⟩
theorem zins_9 : Cond.instantiable RX9 1 ∈ tables_1 ∧ Cond.initialized RX9 ∈ tables_1 := ⟨List.mem_of_getElem? (i := 110) (by decide +kernel), List.mem_of_getElem? (i := 4) (by decide +kernel)⟩
theorem zins_10 : Cond.instantiable RX10 20 ∈ tables_1 ∧ Cond.initialized RX10 ∈ tables_1 := ⟨List.mem_of_getElem? (i := 22) (by decide +kernel), List.mem_of_getElem? (i := 1) (by decide +kernel)⟩
theorem zins_11 : Cond.instantiable RX11 40 ∈ tables_1 ∧ Cond.initialized RX11 ∈ tables_1 := ⟨List.mem_of_getElem? (i := 951) (by decide +kernel), List.mem_of_getElem? (i := 10) (by decide +kernel)⟩
def zVl : List Bool := [false, false, false, false, false, false, false, false, false, true, true, true, true, true, false, true, false, false, true, false, true, true, true, true, true, true, true, true, true, true, true, true, true, true, true, true, true, true, true, true, true, true, true, true, false, false, true, true, false, true, true, true, true, true, true, true, false, true, true, true, true, true, true, true, true, true, true, false, false, false, true, true, true, true, true, true, true, true, false, true, true, true, true, true, true, false, true, true, true, true, true, true, true, true, true, true, true, true, true, true, true, true, true, true, true, true, false, false, true, true, true, true, true, true, true, true, true, true, true, true, true, true, false, true, true, true, true, true, true, true, true, true, false, true, true, true, true, true, true, true, true, true, true, true, true, true, true, true, true, true, false, true, true, true, true, true, true, true, true, true, true, true, true, true, true, true, true, true, true, true, false, true, true, true, true, true, true, true, true, true, true, true, true, true, true, true, true, true, true, true, true, true, true, true, false, true, true, true, true, true, true, true, false, true, true, true, true, true, true, true, true, true, true, true, true, true, true, true, true, true, true, true, true, true, true, true, true, true, true, true, true, true, true, true, true, true, true, true, true, true, true, true, true, true, true, true, true, true, true, true, true, true, true, true, true]
theorem zsel_9 : Cond.selects (zM 9).1.cls (zM 9).1 (zM 9).1 ∈ lw_tbl := List.mem_append_right _ (List.mem_of_getElem? (i := 331) (by decide +kernel))
theorem zsel_10 : Cond.selects (zM 10).1.cls (zM 10).1 (zM 10).1 ∈ lw_tbl := List.mem_append_left _ (List.mem_of_getElem? (i := 0) (by decide +kernel))
theorem zsel_11 : Cond.selects (zM 11).1.cls (zM 11).1 (zM 11).1 ∈ lw_tbl := List.mem_append_right _ (List.mem_of_getElem? (i := 339) (by decide +kernel))
theorem zsel_12 : Cond.selects (zM 12).1.cls (zM 12).1 (zM 12).1 ∈ lw_tbl := List.mem_append_right _ (List.mem_of_getElem? (i := 343) (by decide +kernel))
theorem zsel_13 : Cond.selects (zM 13).1.cls (zM 13).1 (zM 13).1 ∈ lw_tbl := List.mem_append_right _ (List.mem_of_getElem? (i := 347) (by decide +kernel))
theorem zsel_15 : Cond.selects (zM 15).1.cls (zM 15).1 (zM 15).1 ∈ lw_tbl := List.mem_append_right _ (List.mem_of_getElem? (i := 394) (by decide +kernel))
theorem zsel_18 : Cond.selects (zM 18).1.cls (zM 18).1 (zM 18).1 ∈ lw_tbl := List.mem_append_right _ (List.mem_of_getElem? (i := 407) (by decide +kernel))
theorem zsel_20 : Cond.selects (zM 20).1.cls (zM 20).1 (zM 20).1 ∈ lw_tbl := List.mem_append_left _ (List.mem_of_getElem? (i := 1) (by decide +kernel))
theorem zsel_21 : Cond.selects (zM 21).1.cls (zM 21).1 (zM 21).1 ∈ lw_tbl := List.mem_append_right _ (List.mem_of_getElem? (i := 419) (by decide +kernel))
theorem zsel_22 : Cond.selects (zM 22).1.cls (zM 22).1 (zM 22).1 ∈ lw_tbl := List.mem_append_right _ (List.mem_of_getElem? (i := 471) (by decide +kernel))
theorem zsel_23 : Cond.selects (zM 23).1.cls (zM 23).1 (zM 23).1 ∈ lw_tbl := List.mem_append_right _ (List.mem_of_getElem? (i := 476) (by decide +kernel))
theorem zsel_24 : Cond.selects (zM 24).1.cls (zM 24).1 (zM 24).1 ∈ lw_tbl := List.mem_append_right _ (List.mem_of_getElem? (i := 481) (by decide +kernel))
theorem zsel_25 : Cond.selects (zM 25).1.cls (zM 25).1 (zM 25).1 ∈ lw_tbl := List.mem_append_left _ (List.mem_of_getElem? (i := 2) (by decide +kernel))
theorem zsel_26 : Cond.selects (zM 26).1.cls (zM 26).1 (zM 26).1 ∈ lw_tbl := List.mem_append_right _ (List.mem_of_getElem? (i := 489) (by decide +kernel))
theorem zsel_27 : Cond.selects (zM 27).1.cls (zM 27).1 (zM 27).1 ∈ lw_tbl := List.mem_append_left _ (List.mem_of_getElem? (i := 3) (by decide +kernel))
theorem zsel_28 : Cond.selects (zM 28).1.cls (zM 28).1 (zM 28).1 ∈ lw_tbl := List.mem_append_right _ (List.mem_of_getElem? (i := 497) (by decide +kernel))
theorem zsel_29 : Cond.selects (zM 29).1.cls (zM 29).1 (zM 29).1 ∈ lw_tbl := List.mem_append_left _ (List.mem_of_getElem? (i := 4) (by decide +kernel))
theorem zsel_30 : Cond.selects (zM 30).1.cls (zM 30).1 (zM 30).1 ∈ lw_tbl := List.mem_append_right _ (List.mem_of_getElem? (i := 505) (by decide +kernel))
theorem zsel_31 : Cond.selects (zM 31).1.cls (zM 31).1 (zM 31).1 ∈ lw_tbl := List.mem_append_right _ (List.mem_of_getElem? (i := 509) (by decide +kernel))
theorem zsel_32 : Cond.selects (zM 32).1.cls (zM 32).1 (zM 32).1 ∈ lw_tbl := List.mem_append_right _ (List.mem_of_getElem? (i := 513) (by decide +kernel))
theorem zsel_33 : Cond.selects (zM 33).1.cls (zM 33).1 (zM 33).1 ∈ lw_tbl := List.mem_append_right _ (List.mem_of_getElem? (i := 517) (by decide +kernel))
theorem zsel_34 : Cond.selects (zM 34).1.cls (zM 34).1 (zM 34).1 ∈ lw_tbl := List.mem_append_right _ (List.mem_of_getElem? (i := 521) (by decide +kernel))
theorem zsel_35 : Cond.selects (zM 35).1.cls (zM 35).1 (zM 35).1 ∈ lw_tbl := List.mem_append_left _ (List.mem_of_getElem? (i := 5) (by decide +kernel))
theorem zsel_36 : Cond.selects (zM 36).1.cls (zM 36).1 (zM 36).1 ∈ lw_tbl := List.mem_append_left _ (List.mem_of_getElem? (i := 6) (by decide +kernel))
theorem zsel_37 : Cond.selects (zM 37).1.cls (zM 37).1 (zM 37).1 ∈ lw_tbl := List.mem_append_left _ (List.mem_of_getElem? (i := 7) (by decide +kernel))
theorem zsel_38 : Cond.selects (zM 38).1.cls (zM 38).1 (zM 38).1 ∈ lw_tbl := List.mem_append_left _ (List.mem_of_getElem? (i := 8) (by decide +kernel))
theorem zsel_39 : Cond.selects (zM 39).1.cls (zM 39).1 (zM 39).1 ∈ lw_tbl := List.mem_append_left _ (List.mem_of_getElem? (i := 9) (by decide +kernel))
theorem zsel_40 : Cond.selects (zM 40).1.cls (zM 40).1 (zM 40).1 ∈ lw_tbl := List.mem_append_left _ (List.mem_of_getElem? (i := 10) (by decide +kernel))
theorem zsel_41 : Cond.selects (zM 41).1.cls (zM 41).1 (zM 41).1 ∈ lw_tbl := List.mem_append_left _ (List.mem_of_getElem? (i := 11) (by decide +kernel))
theorem zsel_42 : Cond.selects (zM 42).1.cls (zM 42).1 (zM 42).1 ∈ lw_tbl := List.mem_append_left _ (List.mem_of_getElem? (i := 12) (by decide +kernel))
theorem zsel_43 : Cond.selects (zM 43).1.cls (zM 43).1 (zM 43).1 ∈ lw_tbl := List.mem_append_left _ (List.mem_of_getElem? (i := 13) (by decide +kernel))
theorem zsel_46 : Cond.selects (zM 46).1.cls (zM 46).1 (zM 46).1 ∈ lw_tbl := List.mem_append_right _ (List.mem_of_getElem? (i := 597) (by decide +kernel))
theorem zsel_47 : Cond.selects (zM 47).1.cls (zM 47).1 (zM 47).1 ∈ lw_tbl := List.mem_append_right _ (List.mem_of_getElem? (i := 601) (by decide +kernel))
theorem zsel_49 : Cond.selects (zM 49).1.cls (zM 49).1 (zM 49).1 ∈ lw_tbl := List.mem_append_right _ (List.mem_of_getElem? (i := 608) (by decide +kernel))
theorem zsel_50 : Cond.selects (zM 50).1.cls (zM 50).1 (zM 50).1 ∈ lw_tbl := List.mem_append_left _ (List.mem_of_getElem? (i := 14) (by decide +kernel))
theorem zsel_51 : Cond.selects (zM 51).1.cls (zM 51).1 (zM 51).1 ∈ lw_tbl := List.mem_append_right _ (List.mem_of_getElem? (i := 616) (by decide +kernel))
theorem zsel_52 : Cond.selects (zM 52).1.cls (zM 52).1 (zM 52).1 ∈ lw_tbl := List.mem_append_left _ (List.mem_of_getElem? (i := 15) (by decide +kernel))
theorem zsel_53 : Cond.selects (zM 53).1.cls (zM 53).1 (zM 53).1 ∈ lw_tbl := List.mem_append_right _ (List.mem_of_getElem? (i := 624) (by decide +kernel))
theorem zsel_54 : Cond.selects (zM 54).1.cls (zM 54).1 (zM 54).1 ∈ lw_tbl := List.mem_append_right _ (List.mem_of_getElem? (i := 628) (by decide +kernel))
theorem zsel_55 : Cond.selects (zM 55).1.cls (zM 55).1 (zM 55).1 ∈ lw_tbl := List.mem_append_right _ (List.mem_of_getElem? (i := 632) (by decide +kernel))
theorem zsel_57 : Cond.selects (zM 57).1.cls (zM 57).1 (zM 57).1 ∈ lw_tbl := List.mem_append_right _ (List.mem_of_getElem? (i := 642) (by decide +kernel))
theorem zsel_58 : Cond.selects (zM 58).1.cls (zM 58).1 (zM 58).1 ∈ lw_tbl := List.mem_append_right _ (List.mem_of_getElem? (i := 646) (by decide +kernel))
theorem zsel_59 : Cond.selects (zM 59).1.cls (zM 59).1 (zM 59).1 ∈ lw_tbl := List.mem_append_left _ (List.mem_of_getElem? (i := 16) (by decide +kernel))
theorem zsel_60 : Cond.selects (zM 60).1.cls (zM 60).1 (zM 60).1 ∈ lw_tbl := List.mem_append_left _ (List.mem_of_getElem? (i := 17) (by decide +kernel))
theorem zsel_61 : Cond.selects (zM 61).1.cls (zM 61).1 (zM 61).1 ∈ lw_tbl := List.mem_append_right _ (List.mem_of_getElem? (i := 659) (by decide +kernel))
theorem zsel_62 : Cond.selects (zM 62).1.cls (zM 62).1 (zM 62).1 ∈ lw_tbl := List.mem_append_left _ (List.mem_of_getElem? (i := 18) (by decide +kernel))
theorem zsel_63 : Cond.selects (zM 63).1.cls (zM 63).1 (zM 63).1 ∈ lw_tbl := List.mem_append_left _ (List.mem_of_getElem? (i := 19) (by decide +kernel))
theorem zsel_64 : Cond.selects (zM 64).1.cls (zM 64).1 (zM 64).1 ∈ lw_tbl := List.mem_append_left _ (List.mem_of_getElem? (i := 20) (by decide +kernel))
theorem zsel_65 : Cond.selects (zM 65).1.cls (zM 65).1 (zM 65).1 ∈ lw_tbl := List.mem_append_left _ (List.mem_of_getElem? (i := 21) (by decide +kernel))
theorem zsel_66 : Cond.selects (zM 66).1.cls (zM 66).1 (zM 66).1 ∈ lw_tbl := List.mem_append_right _ (List.mem_of_getElem? (i := 680) (by decide +kernel))
theorem zsel_70 : Cond.selects (zM 70).1.cls (zM 70).1 (zM 70).1 ∈ lw_tbl := List.mem_append_right _ (List.mem_of_getElem? (i := 695) (by decide +kernel))
theorem zsel_71 : Cond.selects (zM 71).1.cls (zM 71).1 (zM 71).1 ∈ lw_tbl := List.mem_append_left _ (List.mem_of_getElem? (i := 22) (by decide +kernel))
theorem zsel_72 : Cond.selects (zM 72).1.cls (zM 72).1 (zM 72).1 ∈ lw_tbl := List.mem_append_right _ (List.mem_of_getElem? (i := 703) (by decide +kernel))
theorem zsel_73 : Cond.selects (zM 73).1.cls (zM 73).1 (zM 73).1 ∈ lw_tbl := List.mem_append_right _ (List.mem_of_getElem? (i := 707) (by decide +kernel))
theorem zsel_74 : Cond.selects (zM 74).1.cls (zM 74).1 (zM 74).1 ∈ lw_tbl := List.mem_append_left _ (List.mem_of_getElem? (i := 23) (by decide +kernel))
theorem zsel_75 : Cond.selects (zM 75).1.cls (zM 75).1 (zM 75).1 ∈ lw_tbl := List.mem_append_right _ (List.mem_of_getElem? (i := 715) (by decide +kernel))
theorem zsel_76 : Cond.selects (zM 76).1.cls (zM 76).1 (zM 76).1 ∈ lw_tbl := List.mem_append_right _ (List.mem_of_getElem? (i := 720) (by decide +kernel))
theorem zsel_77 : Cond.selects (zM 77).1.cls (zM 77).1 (zM 77).1 ∈ lw_tbl := List.mem_append_left _ (List.mem_of_getElem? (i := 24) (by decide +kernel))
theorem zsel_79 : Cond.selects (zM 79).1.cls (zM 79).1 (zM 79).1 ∈ lw_tbl := List.mem_append_right _ (List.mem_of_getElem? (i := 731) (by decide +kernel))
theorem zsel_80 : Cond.selects (zM 80).1.cls (zM 80).1 (zM 80).1 ∈ lw_tbl := List.mem_append_right _ (List.mem_of_getElem? (i := 735) (by decide +kernel))
theorem zsel_81 : Cond.selects (zM 81).1.cls (zM 81).1 (zM 81).1 ∈ lw_tbl := List.mem_append_right _ (List.mem_of_getElem? (i := 740) (by decide +kernel))
theorem zsel_82 : Cond.selects (zM 82).1.cls (zM 82).1 (zM 82).1 ∈ lw_tbl := List.mem_append_right _ (List.mem_of_getElem? (i := 744) (by decide +kernel))
theorem zsel_83 : Cond.selects (zM 83).1.cls (zM 83).1 (zM 83).1 ∈ lw_tbl := List.mem_append_right _ (List.mem_of_getElem? (i := 748) (by decide +kernel))
theorem zsel_84 : Cond.selects (zM 84).1.cls (zM 84).1 (zM 84).1 ∈ lw_tbl := List.mem_append_right _ (List.mem_of_getElem? (i := 752) (by decide +kernel))
theorem zsel_86 : Cond.selects (zM 86).1.cls (zM 86).1 (zM 86).1 ∈ lw_tbl := List.mem_append_right _ (List.mem_of_getElem? (i := 759) (by decide +kernel))
theorem zsel_87 : Cond.selects (zM 87).1.cls (zM 87).1 (zM 87).1 ∈ lw_tbl := List.mem_append_left _ (List.mem_of_getElem? (i := 25) (by decide +kernel))
theorem zsel_88 : Cond.selects (zM 88).1.cls (zM 88).1 (zM 88).1 ∈ lw_tbl := List.mem_append_left _ (List.mem_of_getElem? (i := 26) (by decide +kernel))
theorem zsel_89 : Cond.selects (zM 89).1.cls (zM 89).1 (zM 89).1 ∈ lw_tbl := List.mem_append_right _ (List.mem_of_getElem? (i := 771) (by decide +kernel))
theorem zsel_90 : Cond.selects (zM 90).1.cls (zM 90).1 (zM 90).1 ∈ lw_tbl := List.mem_append_left _ (List.mem_of_getElem? (i := 27) (by decide +kernel))
theorem zsel_91 : Cond.selects (zM 91).1.cls (zM 91).1 (zM 91).1 ∈ lw_tbl := List.mem_append_right _ (List.mem_of_getElem? (i := 779) (by decide +kernel))
theorem zsel_92 : Cond.selects (zM 92).1.cls (zM 92).1 (zM 92).1 ∈ lw_tbl := List.mem_append_right _ (List.mem_of_getElem? (i := 783) (by decide +kernel))
theorem zsel_93 : Cond.selects (zM 93).1.cls (zM 93).1 (zM 93).1 ∈ lw_tbl := List.mem_append_right _ (List.mem_of_getElem? (i := 787) (by decide +kernel))
theorem zsel_94 : Cond.selects (zM 94).1.cls (zM 94).1 (zM 94).1 ∈ lw_tbl := List.mem_append_left _ (List.mem_of_getElem? (i := 28) (by decide +kernel))
theorem zsel_95 : Cond.selects (zM 95).1.cls (zM 95).1 (zM 95).1 ∈ lw_tbl := List.mem_append_left _ (List.mem_of_getElem? (i := 29) (by decide +kernel))
theorem zsel_96 : Cond.selects (zM 96).1.cls (zM 96).1 (zM 96).1 ∈ lw_tbl := List.mem_append_right _ (List.mem_of_getElem? (i := 799) (by decide +kernel))
theorem zsel_97 : Cond.selects (zM 97).1.cls (zM 97).1 (zM 97).1 ∈ lw_tbl := List.mem_append_right _ (List.mem_of_getElem? (i := 803) (by decide +kernel))
theorem zsel_98 : Cond.selects (zM 98).1.cls (zM 98).1 (zM 98).1 ∈ lw_tbl := List.mem_append_right _ (List.mem_of_getElem? (i := 807) (by decide +kernel))
theorem zsel_99 : Cond.selects (zM 99).1.cls (zM 99).1 (zM 99).1 ∈ lw_tbl := List.mem_append_right _ (List.mem_of_getElem? (i := 811) (by decide +kernel))
theorem zsel_100 : Cond.selects (zM 100).1.cls (zM 100).1 (zM 100).1 ∈ lw_tbl := List.mem_append_left _ (List.mem_of_getElem? (i := 30) (by decide +kernel))
theorem zsel_101 : Cond.selects (zM 101).1.cls (zM 101).1 (zM 101).1 ∈ lw_tbl := List.mem_append_right _ (List.mem_of_getElem? (i := 821) (by decide +kernel))
theorem zsel_102 : Cond.selects (zM 102).1.cls (zM 102).1 (zM 102).1 ∈ lw_tbl := List.mem_append_left _ (List.mem_of_getElem? (i := 31) (by decide +kernel))
theorem zsel_103 : Cond.selects (zM 103).1.cls (zM 103).1 (zM 103).1 ∈ lw_tbl := List.mem_append_right _ (List.mem_of_getElem? (i := 832) (by decide +kernel))
theorem zsel_104 : Cond.selects (zM 104).1.cls (zM 104).1 (zM 104).1 ∈ lw_tbl := List.mem_append_right _ (List.mem_of_getElem? (i := 837) (by decide +kernel))
theorem zsel_105 : Cond.selects (zM 105).1.cls (zM 105).1 (zM 105).1 ∈ lw_tbl := List.mem_append_left _ (List.mem_of_getElem? (i := 32) (by decide +kernel))
theorem zsel_108 : Cond.selects (zM 108).1.cls (zM 108).1 (zM 108).1 ∈ lw_tbl := List.mem_append_left _ (List.mem_of_getElem? (i := 33) (by decide +kernel))
theorem zsel_109 : Cond.selects (zM 109).1.cls (zM 109).1 (zM 109).1 ∈ lw_tbl := List.mem_append_right _ (List.mem_of_getElem? (i := 855) (by decide +kernel))
theorem zsel_110 : Cond.selects (zM 110).1.cls (zM 110).1 (zM 110).1 ∈ lw_tbl := List.mem_append_right _ (List.mem_of_getElem? (i := 859) (by decide +kernel))
theorem zsel_111 : Cond.selects (zM 111).1.cls (zM 111).1 (zM 111).1 ∈ lw_tbl := List.mem_append_right _ (List.mem_of_getElem? (i := 863) (by decide +kernel))
theorem zsel_112 : Cond.selects (zM 112).1.cls (zM 112).1 (zM 112).1 ∈ lw_tbl := List.mem_append_left _ (List.mem_of_getElem? (i := 34) (by decide +kernel))
theorem zsel_113 : Cond.selects (zM 113).1.cls (zM 113).1 (zM 113).1 ∈ lw_tbl := List.mem_append_right _ (List.mem_of_getElem? (i := 871) (by decide +kernel))
theorem zsel_114 : Cond.selects (zM 114).1.cls (zM 114).1 (zM 114).1 ∈ lw_tbl := List.mem_append_right _ (List.mem_of_getElem? (i := 875) (by decide +kernel))
theorem zsel_115 : Cond.selects (zM 115).1.cls (zM 115).1 (zM 115).1 ∈ lw_tbl := List.mem_append_right _ (List.mem_of_getElem? (i := 879) (by decide +kernel))
theorem zsel_116 : Cond.selects (zM 116).1.cls (zM 116).1 (zM 116).1 ∈ lw_tbl := List.mem_append_left _ (List.mem_of_getElem? (i := 35) (by decide +kernel))
theorem zsel_117 : Cond.selects (zM 117).1.cls (zM 117).1 (zM 117).1 ∈ lw_tbl := List.mem_append_left _ (List.mem_of_getElem? (i := 36) (by decide +kernel))
theorem zsel_118 : Cond.selects (zM 118).1.cls (zM 118).1 (zM 118).1 ∈ lw_tbl := List.mem_append_right _ (List.mem_of_getElem? (i := 891) (by decide +kernel))
theorem zsel_119 : Cond.selects (zM 119).1.cls (zM 119).1 (zM 119).1 ∈ lw_tbl := List.mem_append_right _ (List.mem_of_getElem? (i := 896) (by decide +kernel))
theorem zsel_120 : Cond.selects (zM 120).1.cls (zM 120).1 (zM 120).1 ∈ lw_tbl := List.mem_append_right _ (List.mem_of_getElem? (i := 900) (by decide +kernel))
theorem zsel_121 : Cond.selects (zM 121).1.cls (zM 121).1 (zM 121).1 ∈ lw_tbl := List.mem_append_right _ (List.mem_of_getElem? (i := 904) (by decide +kernel))
theorem zsel_123 : Cond.selects (zM 123).1.cls (zM 123).1 (zM 123).1 ∈ lw_tbl := List.mem_append_left _ (List.mem_of_getElem? (i := 37) (by decide +kernel))
theorem zsel_124 : Cond.selects (zM 124).1.cls (zM 124).1 (zM 124).1 ∈ lw_tbl := List.mem_append_left _ (List.mem_of_getElem? (i := 38) (by decide +kernel))
theorem zsel_125 : Cond.selects (zM 125).1.cls (zM 125).1 (zM 125).1 ∈ lw_tbl := List.mem_append_right _ (List.mem_of_getElem? (i := 919) (by decide +kernel))
theorem zsel_126 : Cond.selects (zM 126).1.cls (zM 126).1 (zM 126).1 ∈ lw_tbl := List.mem_append_right _ (List.mem_of_getElem? (i := 923) (by decide +kernel))
theorem zsel_127 : Cond.selects (zM 127).1.cls (zM 127).1 (zM 127).1 ∈ lw_tbl := List.mem_append_left _ (List.mem_of_getElem? (i := 39) (by decide +kernel))
theorem zsel_128 : Cond.selects (zM 128).1.cls (zM 128).1 (zM 128).1 ∈ lw_tbl := List.mem_append_left _ (List.mem_of_getElem? (i := 40) (by decide +kernel))
theorem zsel_129 : Cond.selects (zM 129).1.cls (zM 129).1 (zM 129).1 ∈ lw_tbl := List.mem_append_right _ (List.mem_of_getElem? (i := 939) (by decide +kernel))
theorem zsel_130 : Cond.selects (zM 130).1.cls (zM 130).1 (zM 130).1 ∈ lw_tbl := List.mem_append_right _ (List.mem_of_getElem? (i := 943) (by decide +kernel))
theorem zsel_131 : Cond.selects (zM 131).1.cls (zM 131).1 (zM 131).1 ∈ lw_tbl := List.mem_append_right _ (List.mem_of_getElem? (i := 948) (by decide +kernel))
theorem zsel_133 : Cond.selects (zM 133).1.cls (zM 133).1 (zM 133).1 ∈ lw_tbl := List.mem_append_right _ (List.mem_of_getElem? (i := 1080) (by decide +kernel))
theorem zsel_134 : Cond.selects (zM 134).1.cls (zM 134).1 (zM 134).1 ∈ lw_tbl := List.mem_append_left _ (List.mem_of_getElem? (i := 41) (by decide +kernel))
theorem zsel_135 : Cond.selects (zM 135).1.cls (zM 135).1 (zM 135).1 ∈ lw_tbl := List.mem_append_right _ (List.mem_of_getElem? (i := 1088) (by decide +kernel))
theorem zsel_136 : Cond.selects (zM 136).1.cls (zM 136).1 (zM 136).1 ∈ lw_tbl := List.mem_append_right _ (List.mem_of_getElem? (i := 1092) (by decide +kernel))
theorem zsel_137 : Cond.selects (zM 137).1.cls (zM 137).1 (zM 137).1 ∈ lw_tbl := List.mem_append_left _ (List.mem_of_getElem? (i := 42) (by decide +kernel))
theorem zsel_138 : Cond.selects (zM 138).1.cls (zM 138).1 (zM 138).1 ∈ lw_tbl := List.mem_append_left _ (List.mem_of_getElem? (i := 43) (by decide +kernel))
theorem zsel_139 : Cond.selects (zM 139).1.cls (zM 139).1 (zM 139).1 ∈ lw_tbl := List.mem_append_left _ (List.mem_of_getElem? (i := 44) (by decide +kernel))
theorem zsel_140 : Cond.selects (zM 140).1.cls (zM 140).1 (zM 140).1 ∈ lw_tbl := List.mem_append_left _ (List.mem_of_getElem? (i := 45) (by decide +kernel))
theorem zsel_141 : Cond.selects (zM 141).1.cls (zM 141).1 (zM 141).1 ∈ lw_tbl := List.mem_append_left _ (List.mem_of_getElem? (i := 46) (by decide +kernel))
theorem zsel_142 : Cond.selects (zM 142).1.cls (zM 142).1 (zM 142).1 ∈ lw_tbl := List.mem_append_left _ (List.mem_of_getElem? (i := 47) (by decide +kernel))
theorem zsel_143 : Cond.selects (zM 143).1.cls (zM 143).1 (zM 143).1 ∈ lw_tbl := List.mem_append_left _ (List.mem_of_getElem? (i := 48) (by decide +kernel))
theorem zsel_144 : Cond.selects (zM 144).1.cls (zM 144).1 (zM 144).1 ∈ lw_tbl := List.mem_append_left _ (List.mem_of_getElem? (i := 49) (by decide +kernel))
theorem zsel_145 : Cond.selects (zM 145).1.cls (zM 145).1 (zM 145).1 ∈ lw_tbl := List.mem_append_left _ (List.mem_of_getElem? (i := 50) (by decide +kernel))
theorem zsel_146 : Cond.selects (zM 146).1.cls (zM 146).1 (zM 146).1 ∈ lw_tbl := List.mem_append_left _ (List.mem_of_getElem? (i := 51) (by decide +kernel))
theorem zsel_147 : Cond.selects (zM 147).1.cls (zM 147).1 (zM 147).1 ∈ lw_tbl := List.mem_append_left _ (List.mem_of_getElem? (i := 52) (by decide +kernel))
theorem zsel_148 : Cond.selects (zM 148).1.cls (zM 148).1 (zM 148).1 ∈ lw_tbl := List.mem_append_left _ (List.mem_of_getElem? (i := 53) (by decide +kernel))
theorem zsel_149 : Cond.selects (zM 149).1.cls (zM 149).1 (zM 149).1 ∈ lw_tbl := List.mem_append_left _ (List.mem_of_getElem? (i := 54) (by decide +kernel))
theorem zsel_151 : Cond.selects (zM 151).1.cls (zM 151).1 (zM 151).1 ∈ lw_tbl := List.mem_append_left _ (List.mem_of_getElem? (i := 55) (by decide +kernel))
theorem zsel_152 : Cond.selects (zM 152).1.cls (zM 152).1 (zM 152).1 ∈ lw_tbl := List.mem_append_left _ (List.mem_of_getElem? (i := 56) (by decide +kernel))
theorem zsel_153 : Cond.selects (zM 153).1.cls (zM 153).1 (zM 153).1 ∈ lw_tbl := List.mem_append_left _ (List.mem_of_getElem? (i := 57) (by decide +kernel))
theorem zsel_154 : Cond.selects (zM 154).1.cls (zM 154).1 (zM 154).1 ∈ lw_tbl := List.mem_append_left _ (List.mem_of_getElem? (i := 58) (by decide +kernel))
theorem zsel_155 : Cond.selects (zM 155).1.cls (zM 155).1 (zM 155).1 ∈ lw_tbl := List.mem_append_left _ (List.mem_of_getElem? (i := 59) (by decide +kernel))
theorem zsel_156 : Cond.selects (zM 156).1.cls (zM 156).1 (zM 156).1 ∈ lw_tbl := List.mem_append_left _ (List.mem_of_getElem? (i := 60) (by decide +kernel))
theorem zsel_157 : Cond.selects (zM 157).1.cls (zM 157).1 (zM 157).1 ∈ lw_tbl := List.mem_append_left _ (List.mem_of_getElem? (i := 61) (by decide +kernel))
theorem zsel_158 : Cond.selects (zM 158).1.cls (zM 158).1 (zM 158).1 ∈ lw_tbl := List.mem_append_left _ (List.mem_of_getElem? (i := 62) (by decide +kernel))
theorem zsel_159 : Cond.selects (zM 159).1.cls (zM 159).1 (zM 159).1 ∈ lw_tbl := List.mem_append_left _ (List.mem_of_getElem? (i := 63) (by decide +kernel))
theorem zsel_160 : Cond.selects (zM 160).1.cls (zM 160).1 (zM 160).1 ∈ lw_tbl := List.mem_append_left _ (List.mem_of_getElem? (i := 64) (by decide +kernel))
theorem zsel_161 : Cond.selects (zM 161).1.cls (zM 161).1 (zM 161).1 ∈ lw_tbl := List.mem_append_left _ (List.mem_of_getElem? (i := 65) (by decide +kernel))
theorem zsel_162 : Cond.selects (zM 162).1.cls (zM 162).1 (zM 162).1 ∈ lw_tbl := List.mem_append_left _ (List.mem_of_getElem? (i := 66) (by decide +kernel))
theorem zsel_163 : Cond.selects (zM 163).1.cls (zM 163).1 (zM 163).1 ∈ lw_tbl := List.mem_append_left _ (List.mem_of_getElem? (i := 67) (by decide +kernel))
theorem zsel_164 : Cond.selects (zM 164).1.cls (zM 164).1 (zM 164).1 ∈ lw_tbl := List.mem_append_left _ (List.mem_of_getElem? (i := 68) (by decide +kernel))
theorem zsel_165 : Cond.selects (zM 165).1.cls (zM 165).1 (zM 165).1 ∈ lw_tbl := List.mem_append_left _ (List.mem_of_getElem? (i := 69) (by decide +kernel))
theorem zsel_166 : Cond.selects (zM 166).1.cls (zM 166).1 (zM 166).1 ∈ lw_tbl := List.mem_append_left _ (List.mem_of_getElem? (i := 70) (by decide +kernel))
theorem zsel_167 : Cond.selects (zM 167).1.cls (zM 167).1 (zM 167).1 ∈ lw_tbl := List.mem_append_left _ (List.mem_of_getElem? (i := 71) (by decide +kernel))
theorem zsel_168 : Cond.selects (zM 168).1.cls (zM 168).1 (zM 168).1 ∈ lw_tbl := List.mem_append_left _ (List.mem_of_getElem? (i := 72) (by decide +kernel))
theorem zsel_169 : Cond.selects (zM 169).1.cls (zM 169).1 (zM 169).1 ∈ lw_tbl := List.mem_append_left _ (List.mem_of_getElem? (i := 73) (by decide +kernel))
theorem zsel_171 : Cond.selects (zM 171).1.cls (zM 171).1 (zM 171).1 ∈ lw_tbl := List.mem_append_left _ (List.mem_of_getElem? (i := 74) (by decide +kernel))
theorem zsel_172 : Cond.selects (zM 172).1.cls (zM 172).1 (zM 172).1 ∈ lw_tbl := List.mem_append_right _ (List.mem_of_getElem? (i := 1252) (by decide +kernel))
theorem zsel_173 : Cond.selects (zM 173).1.cls (zM 173).1 (zM 173).1 ∈ lw_tbl := List.mem_append_left _ (List.mem_of_getElem? (i := 75) (by decide +kernel))
theorem zsel_174 : Cond.selects (zM 174).1.cls (zM 174).1 (zM 174).1 ∈ lw_tbl := List.mem_append_left _ (List.mem_of_getElem? (i := 76) (by decide +kernel))
theorem zsel_175 : Cond.selects (zM 175).1.cls (zM 175).1 (zM 175).1 ∈ lw_tbl := List.mem_append_right _ (List.mem_of_getElem? (i := 1264) (by decide +kernel))
theorem zsel_176 : Cond.selects (zM 176).1.cls (zM 176).1 (zM 176).1 ∈ lw_tbl := List.mem_append_left _ (List.mem_of_getElem? (i := 77) (by decide +kernel))
theorem zsel_177 : Cond.selects (zM 177).1.cls (zM 177).1 (zM 177).1 ∈ lw_tbl := List.mem_append_right _ (List.mem_of_getElem? (i := 1272) (by decide +kernel))
theorem zsel_178 : Cond.selects (zM 178).1.cls (zM 178).1 (zM 178).1 ∈ lw_tbl := List.mem_append_left _ (List.mem_of_getElem? (i := 78) (by decide +kernel))
theorem zsel_179 : Cond.selects (zM 179).1.cls (zM 179).1 (zM 179).1 ∈ lw_tbl := List.mem_append_left _ (List.mem_of_getElem? (i := 79) (by decide +kernel))
theorem zsel_180 : Cond.selects (zM 180).1.cls (zM 180).1 (zM 180).1 ∈ lw_tbl := List.mem_append_left _ (List.mem_of_getElem? (i := 80) (by decide +kernel))
theorem zsel_181 : Cond.selects (zM 181).1.cls (zM 181).1 (zM 181).1 ∈ lw_tbl := List.mem_append_right _ (List.mem_of_getElem? (i := 1290) (by decide +kernel))
theorem zsel_182 : Cond.selects (zM 182).1.cls (zM 182).1 (zM 182).1 ∈ lw_tbl := List.mem_append_left _ (List.mem_of_getElem? (i := 81) (by decide +kernel))
theorem zsel_183 : Cond.selects (zM 183).1.cls (zM 183).1 (zM 183).1 ∈ lw_tbl := List.mem_append_right _ (List.mem_of_getElem? (i := 1299) (by decide +kernel))
theorem zsel_184 : Cond.selects (zM 184).1.cls (zM 184).1 (zM 184).1 ∈ lw_tbl := List.mem_append_left _ (List.mem_of_getElem? (i := 82) (by decide +kernel))
theorem zsel_185 : Cond.selects (zM 185).1.cls (zM 185).1 (zM 185).1 ∈ lw_tbl := List.mem_append_right _ (List.mem_of_getElem? (i := 1307) (by decide +kernel))
theorem zsel_186 : Cond.selects (zM 186).1.cls (zM 186).1 (zM 186).1 ∈ lw_tbl := List.mem_append_right _ (List.mem_of_getElem? (i := 1311) (by decide +kernel))
theorem zsel_187 : Cond.selects (zM 187).1.cls (zM 187).1 (zM 187).1 ∈ lw_tbl := List.mem_append_left _ (List.mem_of_getElem? (i := 83) (by decide +kernel))
theorem zsel_188 : Cond.selects (zM 188).1.cls (zM 188).1 (zM 188).1 ∈ lw_tbl := List.mem_append_left _ (List.mem_of_getElem? (i := 84) (by decide +kernel))
theorem zsel_189 : Cond.selects (zM 189).1.cls (zM 189).1 (zM 189).1 ∈ lw_tbl := List.mem_append_left _ (List.mem_of_getElem? (i := 85) (by decide +kernel))
theorem zsel_190 : Cond.selects (zM 190).1.cls (zM 190).1 (zM 190).1 ∈ lw_tbl := List.mem_append_left _ (List.mem_of_getElem? (i := 86) (by decide +kernel))
theorem zsel_191 : Cond.selects (zM 191).1.cls (zM 191).1 (zM 191).1 ∈ lw_tbl := List.mem_append_left _ (List.mem_of_getElem? (i := 87) (by decide +kernel))
theorem zsel_192 : Cond.selects (zM 192).1.cls (zM 192).1 (zM 192).1 ∈ lw_tbl := List.mem_append_left _ (List.mem_of_getElem? (i := 88) (by decide +kernel))
theorem zsel_193 : Cond.selects (zM 193).1.cls (zM 193).1 (zM 193).1 ∈ lw_tbl := List.mem_append_left _ (List.mem_of_getElem? (i := 89) (by decide +kernel))
theorem zsel_195 : Cond.selects (zM 195).1.cls (zM 195).1 (zM 195).1 ∈ lw_tbl := List.mem_append_left _ (List.mem_of_getElem? (i := 90) (by decide +kernel))
theorem zsel_196 : Cond.selects (zM 196).1.cls (zM 196).1 (zM 196).1 ∈ lw_tbl := List.mem_append_left _ (List.mem_of_getElem? (i := 91) (by decide +kernel))
theorem zsel_197 : Cond.selects (zM 197).1.cls (zM 197).1 (zM 197).1 ∈ lw_tbl := List.mem_append_left _ (List.mem_of_getElem? (i := 92) (by decide +kernel))
theorem zsel_198 : Cond.selects (zM 198).1.cls (zM 198).1 (zM 198).1 ∈ lw_tbl := List.mem_append_left _ (List.mem_of_getElem? (i := 93) (by decide +kernel))
theorem zsel_199 : Cond.selects (zM 199).1.cls (zM 199).1 (zM 199).1 ∈ lw_tbl := List.mem_append_left _ (List.mem_of_getElem? (i := 94) (by decide +kernel))
theorem zsel_200 : Cond.selects (zM 200).1.cls (zM 200).1 (zM 200).1 ∈ lw_tbl := List.mem_append_left _ (List.mem_of_getElem? (i := 95) (by decide +kernel))
theorem zsel_201 : Cond.selects (zM 201).1.cls (zM 201).1 (zM 201).1 ∈ lw_tbl := List.mem_append_left _ (List.mem_of_getElem? (i := 96) (by decide +kernel))
theorem zsel_203 : Cond.selects (zM 203).1.cls (zM 203).1 (zM 203).1 ∈ lw_tbl := List.mem_append_left _ (List.mem_of_getElem? (i := 97) (by decide +kernel))
theorem zsel_204 : Cond.selects (zM 204).1.cls (zM 204).1 (zM 204).1 ∈ lw_tbl := List.mem_append_left _ (List.mem_of_getElem? (i := 98) (by decide +kernel))
theorem zsel_205 : Cond.selects (zM 205).1.cls (zM 205).1 (zM 205).1 ∈ lw_tbl := List.mem_append_left _ (List.mem_of_getElem? (i := 99) (by decide +kernel))
theorem zsel_206 : Cond.selects (zM 206).1.cls (zM 206).1 (zM 206).1 ∈ lw_tbl := List.mem_append_left _ (List.mem_of_getElem? (i := 100) (by decide +kernel))
theorem zsel_207 : Cond.selects (zM 207).1.cls (zM 207).1 (zM 207).1 ∈ lw_tbl := List.mem_append_right _ (List.mem_of_getElem? (i := 1393) (by decide +kernel))
theorem zsel_208 : Cond.selects (zM 208).1.cls (zM 208).1 (zM 208).1 ∈ lw_tbl := List.mem_append_left _ (List.mem_of_getElem? (i := 101) (by decide +kernel))
theorem zsel_209 : Cond.selects (zM 209).1.cls (zM 209).1 (zM 209).1 ∈ lw_tbl := List.mem_append_right _ (List.mem_of_getElem? (i := 1402) (by decide +kernel))
theorem zsel_210 : Cond.selects (zM 210).1.cls (zM 210).1 (zM 210).1 ∈ lw_tbl := List.mem_append_left _ (List.mem_of_getElem? (i := 102) (by decide +kernel))
theorem zsel_211 : Cond.selects (zM 211).1.cls (zM 211).1 (zM 211).1 ∈ lw_tbl := List.mem_append_right _ (List.mem_of_getElem? (i := 1410) (by decide +kernel))
theorem zsel_212 : Cond.selects (zM 212).1.cls (zM 212).1 (zM 212).1 ∈ lw_tbl := List.mem_append_left _ (List.mem_of_getElem? (i := 103) (by decide +kernel))
theorem zsel_213 : Cond.selects (zM 213).1.cls (zM 213).1 (zM 213).1 ∈ lw_tbl := List.mem_append_right _ (List.mem_of_getElem? (i := 1418) (by decide +kernel))
theorem zsel_214 : Cond.selects (zM 214).1.cls (zM 214).1 (zM 214).1 ∈ lw_tbl := List.mem_append_right _ (List.mem_of_getElem? (i := 1422) (by decide +kernel))
theorem zsel_215 : Cond.selects (zM 215).1.cls (zM 215).1 (zM 215).1 ∈ lw_tbl := List.mem_append_left _ (List.mem_of_getElem? (i := 104) (by decide +kernel))
theorem zsel_216 : Cond.selects (zM 216).1.cls (zM 216).1 (zM 216).1 ∈ lw_tbl := List.mem_append_left _ (List.mem_of_getElem? (i := 105) (by decide +kernel))
theorem zsel_217 : Cond.selects (zM 217).1.cls (zM 217).1 (zM 217).1 ∈ lw_tbl := List.mem_append_left _ (List.mem_of_getElem? (i := 106) (by decide +kernel))
theorem zsel_218 : Cond.selects (zM 218).1.cls (zM 218).1 (zM 218).1 ∈ lw_tbl := List.mem_append_right _ (List.mem_of_getElem? (i := 1440) (by decide +kernel))
theorem zsel_219 : Cond.selects (zM 219).1.cls (zM 219).1 (zM 219).1 ∈ lw_tbl := List.mem_append_right _ (List.mem_of_getElem? (i := 1444) (by decide +kernel))
theorem zsel_220 : Cond.selects (zM 220).1.cls (zM 220).1 (zM 220).1 ∈ lw_tbl := List.mem_append_right _ (List.mem_of_getElem? (i := 1448) (by decide +kernel))
theorem zsel_221 : Cond.selects (zM 221).1.cls (zM 221).1 (zM 221).1 ∈ lw_tbl := List.mem_append_left _ (List.mem_of_getElem? (i := 107) (by decide +kernel))
theorem zsel_222 : Cond.selects (zM 222).1.cls (zM 222).1 (zM 222).1 ∈ lw_tbl := List.mem_append_right _ (List.mem_of_getElem? (i := 1456) (by decide +kernel))
theorem zsel_223 : Cond.selects (zM 223).1.cls (zM 223).1 (zM 223).1 ∈ lw_tbl := List.mem_append_left _ (List.mem_of_getElem? (i := 108) (by decide +kernel))
theorem zsel_224 : Cond.selects (zM 224).1.cls (zM 224).1 (zM 224).1 ∈ lw_tbl := List.mem_append_left _ (List.mem_of_getElem? (i := 109) (by decide +kernel))
theorem zsel_225 : Cond.selects (zM 225).1.cls (zM 225).1 (zM 225).1 ∈ lw_tbl := List.mem_append_right _ (List.mem_of_getElem? (i := 1469) (by decide +kernel))
theorem zsel_226 : Cond.selects (zM 226).1.cls (zM 226).1 (zM 226).1 ∈ lw_tbl := List.mem_append_right _ (List.mem_of_getElem? (i := 1473) (by decide +kernel))
theorem zsel_227 : Cond.selects (zM 227).1.cls (zM 227).1 (zM 227).1 ∈ lw_tbl := List.mem_append_right _ (List.mem_of_getElem? (i := 1477) (by decide +kernel))
theorem zsel_228 : Cond.selects (zM 228).1.cls (zM 228).1 (zM 228).1 ∈ lw_tbl := List.mem_append_left _ (List.mem_of_getElem? (i := 110) (by decide +kernel))
theorem zsel_229 : Cond.selects (zM 229).1.cls (zM 229).1 (zM 229).1 ∈ lw_tbl := List.mem_append_right _ (List.mem_of_getElem? (i := 1485) (by decide +kernel))
theorem zsel_230 : Cond.selects (zM 230).1.cls (zM 230).1 (zM 230).1 ∈ lw_tbl := List.mem_append_right _ (List.mem_of_getElem? (i := 1489) (by decide +kernel))
theorem zsel_231 : Cond.selects (zM 231).1.cls (zM 231).1 (zM 231).1 ∈ lw_tbl := List.mem_append_left _ (List.mem_of_getElem? (i := 111) (by decide +kernel))
theorem zsel_232 : Cond.selects (zM 232).1.cls (zM 232).1 (zM 232).1 ∈ lw_tbl := List.mem_append_left _ (List.mem_of_getElem? (i := 112) (by decide +kernel))
theorem zsel_233 : Cond.selects (zM 233).1.cls (zM 233).1 (zM 233).1 ∈ lw_tbl := List.mem_append_left _ (List.mem_of_getElem? (i := 113) (by decide +kernel))
theorem zsel_234 : Cond.selects (zM 234).1.cls (zM 234).1 (zM 234).1 ∈ lw_tbl := List.mem_append_right _ (List.mem_of_getElem? (i := 1505) (by decide +kernel))
theorem zsel_235 : Cond.selects (zM 235).1.cls (zM 235).1 (zM 235).1 ∈ lw_tbl := List.mem_append_left _ (List.mem_of_getElem? (i := 114) (by decide +kernel))
theorem zsel_236 : Cond.selects (zM 236).1.cls (zM 236).1 (zM 236).1 ∈ lw_tbl := List.mem_append_right _ (List.mem_of_getElem? (i := 1513) (by decide +kernel))
theorem zsel_237 : Cond.selects (zM 237).1.cls (zM 237).1 (zM 237).1 ∈ lw_tbl := List.mem_append_left _ (List.mem_of_getElem? (i := 115) (by decide +kernel))
theorem zsel_238 : Cond.selects (zM 238).1.cls (zM 238).1 (zM 238).1 ∈ lw_tbl := List.mem_append_right _ (List.mem_of_getElem? (i := 1522) (by decide +kernel))
theorem zsel_239 : Cond.selects (zM 239).1.cls (zM 239).1 (zM 239).1 ∈ lw_tbl := List.mem_append_right _ (List.mem_of_getElem? (i := 1527) (by decide +kernel))
theorem zsel_240 : Cond.selects (zM 240).1.cls (zM 240).1 (zM 240).1 ∈ lw_tbl := List.mem_append_left _ (List.mem_of_getElem? (i := 116) (by decide +kernel))
theorem zsel_241 : Cond.selects (zM 241).1.cls (zM 241).1 (zM 241).1 ∈ lw_tbl := List.mem_append_left _ (List.mem_of_getElem? (i := 117) (by decide +kernel))
theorem zsel_242 : Cond.selects (zM 242).1.cls (zM 242).1 (zM 242).1 ∈ lw_tbl := List.mem_append_left _ (List.mem_of_getElem? (i := 118) (by decide +kernel))
theorem zsel_243 : Cond.selects (zM 243).1.cls (zM 243).1 (zM 243).1 ∈ lw_tbl := List.mem_append_right _ (List.mem_of_getElem? (i := 1543) (by decide +kernel))
theorem zsel_244 : Cond.selects (zM 244).1.cls (zM 244).1 (zM 244).1 ∈ lw_tbl := List.mem_append_left _ (List.mem_of_getElem? (i := 119) (by decide +kernel))
theorem zsel_245 : Cond.selects (zM 245).1.cls (zM 245).1 (zM 245).1 ∈ lw_tbl := List.mem_append_right _ (List.mem_of_getElem? (i := 1551) (by decide +kernel))
theorem zsel_246 : Cond.selects (zM 246).1.cls (zM 246).1 (zM 246).1 ∈ lw_tbl := List.mem_append_left _ (List.mem_of_getElem? (i := 120) (by decide +kernel))
theorem zsel_247 : Cond.selects (zM 247).1.cls (zM 247).1 (zM 247).1 ∈ lw_tbl := List.mem_append_right _ (List.mem_of_getElem? (i := 1559) (by decide +kernel))
theorem zsel_248 : Cond.selects (zM 248).1.cls (zM 248).1 (zM 248).1 ∈ lw_tbl := List.mem_append_right _ (List.mem_of_getElem? (i := 1563) (by decide +kernel))
theorem zsel_249 : Cond.selects (zM 249).1.cls (zM 249).1 (zM 249).1 ∈ lw_tbl := List.mem_append_left _ (List.mem_of_getElem? (i := 121) (by decide +kernel))
theorem zsel_250 : Cond.selects (zM 250).1.cls (zM 250).1 (zM 250).1 ∈ lw_tbl := List.mem_append_left _ (List.mem_of_getElem? (i := 122) (by decide +kernel))
theorem zsel_251 : Cond.selects (zM 251).1.cls (zM 251).1 (zM 251).1 ∈ lw_tbl := List.mem_append_right _ (List.mem_of_getElem? (i := 1580) (by decide +kernel))
theorem zsel_252 : Cond.selects (zM 252).1.cls (zM 252).1 (zM 252).1 ∈ lw_tbl := List.mem_append_left _ (List.mem_of_getElem? (i := 123) (by decide +kernel))
theorem zsel_253 : Cond.selects (zM 253).1.cls (zM 253).1 (zM 253).1 ∈ lw_tbl := List.mem_append_right _ (List.mem_of_getElem? (i := 1588) (by decide +kernel))
theorem zsel_254 : Cond.selects (zM 254).1.cls (zM 254).1 (zM 254).1 ∈ lw_tbl := List.mem_append_right _ (List.mem_of_getElem? (i := 1592) (by decide +kernel))
set_option maxRecDepth 100000 in
theorem zsel_all : ∀ y, znth zVl y = some true → Cond.selects (zM y).1.cls (zM y).1 (zM y).1 ∈ lw_tbl := by
  intro y hy
  have hl : y < 255 := by
    have g : ∀ (l : List Bool) (y : Nat), znth l y = some true → y < l.length := by
      intro l
      induction l with
      | nil => intro y h; cases y <;> cases h
      | cons a t ih =>
        intro y h
        cases y with
        | zero => simp
        | succ y => have := ih y h; simp; omega
    exact g zVl y hy
  by_cases h127 : y < 127
  · skip
    by_cases h63 : y < 63
    · skip
      by_cases h31 : y < 31
      · skip
        by_cases h15 : y < 15
        · skip
          by_cases h7 : y < 7
          · skip
            by_cases h3 : y < 3
            · skip
              by_cases h1 : y < 1
              · skip
                have e : y = 0 := by omega
                subst e; cases hy
              · skip
                by_cases h2 : y < 2
                · skip
                  have e : y = 1 := by omega
                  subst e; cases hy
                · skip
                  have e : y = 2 := by omega
                  subst e; cases hy
            · skip
              by_cases h5 : y < 5
              · skip
                by_cases h4 : y < 4
                · skip
                  have e : y = 3 := by omega
                  subst e; cases hy
                · skip
                  have e : y = 4 := by omega
                  subst e; cases hy
              · skip
                by_cases h6 : y < 6
                · skip
                  have e : y = 5 := by omega
                  subst e; cases hy
                · skip
                  have e : y = 6 := by omega
                  subst e; cases hy
          · skip
            by_cases h11 : y < 11
            · skip
              by_cases h9 : y < 9
              · skip
                by_cases h8 : y < 8
                · skip
                  have e : y = 7 := by omega
                  subst e; cases hy
                · skip
                  have e : y = 8 := by omega
                  subst e; cases hy
              · skip
                by_cases h10 : y < 10
                · skip
                  have e : y = 9 := by omega
                  subst e; exact zsel_9
                · skip
                  have e : y = 10 := by omega
                  subst e; exact zsel_10
            · skip
              by_cases h13 : y < 13
              · skip
                by_cases h12 : y < 12
                · skip
                  have e : y = 11 := by omega
                  subst e; exact zsel_11
                · skip
                  have e : y = 12 := by omega
                  subst e; exact zsel_12
              · skip
                by_cases h14 : y < 14
                · skip
                  have e : y = 13 := by omega
                  subst e; exact zsel_13
                · skip
                  have e : y = 14 := by omega
                  subst e; cases hy
        · skip
          by_cases h23 : y < 23
          · skip
            by_cases h19 : y < 19
            · skip
              by_cases h17 : y < 17
              · skip
                by_cases h16 : y < 16
                · skip
                  have e : y = 15 := by omega
                  subst e; exact zsel_15
                · skip
                  have e : y = 16 := by omega
                  subst e; cases hy
              · skip
                by_cases h18 : y < 18
                · skip
                  have e : y = 17 := by omega
                  subst e; cases hy
                · skip
                  have e : y = 18 := by omega
                  subst e; exact zsel_18
            · skip
              by_cases h21 : y < 21
              · skip
                by_cases h20 : y < 20
                · skip
                  have e : y = 19 := by omega
                  subst e; cases hy
                · skip
                  have e : y = 20 := by omega
                  subst e; exact zsel_20
              · skip
                by_cases h22 : y < 22
                · skip
                  have e : y = 21 := by omega
                  subst e; exact zsel_21
                · skip
                  have e : y = 22 := by omega
                  subst e; exact zsel_22
          · skip
            by_cases h27 : y < 27
            · skip
              by_cases h25 : y < 25
              · skip
                by_cases h24 : y < 24
                · skip
                  have e : y = 23 := by omega
                  subst e; exact zsel_23
                · skip
                  have e : y = 24 := by omega
                  subst e; exact zsel_24
              · skip
                by_cases h26 : y < 26
                · skip
                  have e : y = 25 := by omega
                  subst e; exact zsel_25
                · skip
                  have e : y = 26 := by omega
                  subst e; exact zsel_26
            · skip
              by_cases h29 : y < 29
              · skip
                by_cases h28 : y < 28
                · skip
                  have e : y = 27 := by omega
                  subst e; exact zsel_27
                · skip
                  have e : y = 28 := by omega
                  subst e; exact zsel_28
              · skip
                by_cases h30 : y < 30
                · skip
                  have e : y = 29 := by omega
                  subst e; exact zsel_29
                · skip
                  have e : y = 30 := by omega
                  subst e; exact zsel_30
      · skip
        by_cases h47 : y < 47
        · skip
          by_cases h39 : y < 39
          · skip
            by_cases h35 : y < 35
            · skip
              by_cases h33 : y < 33
              · skip
                by_cases h32 : y < 32
                · skip
                  have e : y = 31 := by omega
                  subst e; exact zsel_31
                · skip
                  have e : y = 32 := by omega
                  subst e; exact zsel_32
              · skip
                by_cases h34 : y < 34
                · skip
                  have e : y = 33 := by omega
                  subst e; exact zsel_33
                · skip
                  have e : y = 34 := by omega
                  subst e; exact zsel_34
            · skip
              by_cases h37 : y < 37
              · skip
                by_cases h36 : y < 36
                · skip
                  have e : y = 35 := by omega
                  subst e; exact zsel_35
                · skip
                  have e : y = 36 := by omega
                  subst e; exact zsel_36
              · skip
                by_cases h38 : y < 38
                · skip
                  have e : y = 37 := by omega
                  subst e; exact zsel_37
                · skip
                  have e : y = 38 := by omega
                  subst e; exact zsel_38
          · skip
            by_cases h43 : y < 43
            · skip
              by_cases h41 : y < 41
              · skip
                by_cases h40 : y < 40
                · skip
                  have e : y = 39 := by omega
                  subst e; exact zsel_39
                · skip
                  have e : y = 40 := by omega
                  subst e; exact zsel_40
              · skip
                by_cases h42 : y < 42
                · skip
                  have e : y = 41 := by omega
                  subst e; exact zsel_41
                · skip
                  have e : y = 42 := by omega
                  subst e; exact zsel_42
            · skip
              by_cases h45 : y < 45
              · skip
                by_cases h44 : y < 44
                · skip
                  have e : y = 43 := by omega
                  subst e; exact zsel_43
                · skip
                  have e : y = 44 := by omega
                  subst e; cases hy
              · skip
                by_cases h46 : y < 46
                · skip
                  have e : y = 45 := by omega
                  subst e; cases hy
                · skip
                  have e : y = 46 := by omega
                  subst e; exact zsel_46
        · skip
          by_cases h55 : y < 55
          · skip
            by_cases h51 : y < 51
            · skip
              by_cases h49 : y < 49
              · skip
                by_cases h48 : y < 48
                · skip
                  have e : y = 47 := by omega
                  subst e; exact zsel_47
                · skip
                  have e : y = 48 := by omega
                  subst e; cases hy
              · skip
                by_cases h50 : y < 50
                · skip
                  have e : y = 49 := by omega
                  subst e; exact zsel_49
                · skip
                  have e : y = 50 := by omega
                  subst e; exact zsel_50
            · skip
              by_cases h53 : y < 53
              · skip
                by_cases h52 : y < 52
                · skip
                  have e : y = 51 := by omega
                  subst e; exact zsel_51
                · skip
                  have e : y = 52 := by omega
                  subst e; exact zsel_52
              · skip
                by_cases h54 : y < 54
                · skip
                  have e : y = 53 := by omega
                  subst e; exact zsel_53
                · skip
                  have e : y = 54 := by omega
                  subst e; exact zsel_54
          · skip
            by_cases h59 : y < 59
            · skip
              by_cases h57 : y < 57
              · skip
                by_cases h56 : y < 56
                · skip
                  have e : y = 55 := by omega
                  subst e; exact zsel_55
                · skip
                  have e : y = 56 := by omega
                  subst e; cases hy
              · skip
                by_cases h58 : y < 58
                · skip
                  have e : y = 57 := by omega
                  subst e; exact zsel_57
                · skip
                  have e : y = 58 := by omega
                  subst e; exact zsel_58
            · skip
              by_cases h61 : y < 61
              · skip
                by_cases h60 : y < 60
                · skip
                  have e : y = 59 := by omega
                  subst e; exact zsel_59
                · skip
                  have e : y = 60 := by omega
                  subst e; exact zsel_60
              · skip
                by_cases h62 : y < 62
                · skip
                  have e : y = 61 := by omega
                  subst e; exact zsel_61
                · skip
                  have e : y = 62 := by omega
                  subst e; exact zsel_62
    · skip
      by_cases h95 : y < 95
      · skip
        by_cases h79 : y < 79
        · skip
          by_cases h71 : y < 71
          · skip
            by_cases h67 : y < 67
            · skip
              by_cases h65 : y < 65
              · skip
                by_cases h64 : y < 64
                · skip
                  have e : y = 63 := by omega
                  subst e; exact zsel_63
                · skip
                  have e : y = 64 := by omega
                  subst e; exact zsel_64
              · skip
                by_cases h66 : y < 66
                · skip
                  have e : y = 65 := by omega
                  subst e; exact zsel_65
                · skip
                  have e : y = 66 := by omega
                  subst e; exact zsel_66
            · skip
              by_cases h69 : y < 69
              · skip
                by_cases h68 : y < 68
                · skip
                  have e : y = 67 := by omega
                  subst e; cases hy
                · skip
                  have e : y = 68 := by omega
                  subst e; cases hy
              · skip
                by_cases h70 : y < 70
                · skip
                  have e : y = 69 := by omega
                  subst e; cases hy
                · skip
                  have e : y = 70 := by omega
                  subst e; exact zsel_70
          · skip
            by_cases h75 : y < 75
            · skip
              by_cases h73 : y < 73
              · skip
                by_cases h72 : y < 72
                · skip
                  have e : y = 71 := by omega
                  subst e; exact zsel_71
                · skip
                  have e : y = 72 := by omega
                  subst e; exact zsel_72
              · skip
                by_cases h74 : y < 74
                · skip
                  have e : y = 73 := by omega
                  subst e; exact zsel_73
                · skip
                  have e : y = 74 := by omega
                  subst e; exact zsel_74
            · skip
              by_cases h77 : y < 77
              · skip
                by_cases h76 : y < 76
                · skip
                  have e : y = 75 := by omega
                  subst e; exact zsel_75
                · skip
                  have e : y = 76 := by omega
                  subst e; exact zsel_76
              · skip
                by_cases h78 : y < 78
                · skip
                  have e : y = 77 := by omega
                  subst e; exact zsel_77
                · skip
                  have e : y = 78 := by omega
                  subst e; cases hy
        · skip
          by_cases h87 : y < 87
          · skip
            by_cases h83 : y < 83
            · skip
              by_cases h81 : y < 81
              · skip
                by_cases h80 : y < 80
                · skip
                  have e : y = 79 := by omega
                  subst e; exact zsel_79
                · skip
                  have e : y = 80 := by omega
                  subst e; exact zsel_80
              · skip
                by_cases h82 : y < 82
                · skip
                  have e : y = 81 := by omega
                  subst e; exact zsel_81
                · skip
                  have e : y = 82 := by omega
                  subst e; exact zsel_82
            · skip
              by_cases h85 : y < 85
              · skip
                by_cases h84 : y < 84
                · skip
                  have e : y = 83 := by omega
                  subst e; exact zsel_83
                · skip
                  have e : y = 84 := by omega
                  subst e; exact zsel_84
              · skip
                by_cases h86 : y < 86
                · skip
                  have e : y = 85 := by omega
                  subst e; cases hy
                · skip
                  have e : y = 86 := by omega
                  subst e; exact zsel_86
          · skip
            by_cases h91 : y < 91
            · skip
              by_cases h89 : y < 89
              · skip
                by_cases h88 : y < 88
                · skip
                  have e : y = 87 := by omega
                  subst e; exact zsel_87
                · skip
                  have e : y = 88 := by omega
                  subst e; exact zsel_88
              · skip
                by_cases h90 : y < 90
                · skip
                  have e : y = 89 := by omega
                  subst e; exact zsel_89
                · skip
                  have e : y = 90 := by omega
                  subst e; exact zsel_90
            · skip
              by_cases h93 : y < 93
              · skip
                by_cases h92 : y < 92
                · skip
                  have e : y = 91 := by omega
                  subst e; exact zsel_91
                · skip
                  have e : y = 92 := by omega
                  subst e; exact zsel_92
              · skip
                by_cases h94 : y < 94
                · skip
                  have e : y = 93 := by omega
                  subst e; exact zsel_93
                · skip
                  have e : y = 94 := by omega
                  subst e; exact zsel_94
      · skip
        by_cases h111 : y < 111
        · skip
          by_cases h103 : y < 103
          · skip
            by_cases h99 : y < 99
            · skip
              by_cases h97 : y < 97
              · skip
                by_cases h96 : y < 96
                · skip
                  have e : y = 95 := by omega
                  subst e; exact zsel_95
                · skip
                  have e : y = 96 := by omega
                  subst e; exact zsel_96
              · skip
                by_cases h98 : y < 98
                · skip
                  have e : y = 97 := by omega
                  subst e; exact zsel_97
                · skip
                  have e : y = 98 := by omega
                  subst e; exact zsel_98
            · skip
              by_cases h101 : y < 101
              · skip
                by_cases h100 : y < 100
                · skip
                  have e : y = 99 := by omega
                  subst e; exact zsel_99
                · skip
                  have e : y = 100 := by omega
                  subst e; exact zsel_100
              · skip
                by_cases h102 : y < 102
                · skip
                  have e : y = 101 := by omega
                  subst e; exact zsel_101
                · skip
                  have e : y = 102 := by omega
                  subst e; exact zsel_102
          · skip
            by_cases h107 : y < 107
            · skip
              by_cases h105 : y < 105
              · skip
                by_cases h104 : y < 104
                · skip
                  have e : y = 103 := by omega
                  subst e; exact zsel_103
                · skip
                  have e : y = 104 := by omega
                  subst e; exact zsel_104
              · skip
                by_cases h106 : y < 106
                · skip
                  have e : y = 105 := by omega
                  subst e; exact zsel_105
                · skip
                  have e : y = 106 := by omega
                  subst e; cases hy
            · skip
              by_cases h109 : y < 109
              · skip
                by_cases h108 : y < 108
                · skip
                  have e : y = 107 := by omega
                  subst e; cases hy
                · skip
                  have e : y = 108 := by omega
                  subst e; exact zsel_108
              · skip
                by_cases h110 : y < 110
                · skip
                  have e : y = 109 := by omega
                  subst e; exact zsel_109
                · skip
                  have e : y = 110 := by omega
                  subst e; exact zsel_110
        · skip
          by_cases h119 : y < 119
          · skip
            by_cases h115 : y < 115
            · skip
              by_cases h113 : y < 113
              · skip
                by_cases h112 : y < 112
                · skip
                  have e : y = 111 := by omega
                  subst e; exact zsel_111
                · skip
                  have e : y = 112 := by omega
                  subst e; exact zsel_112
              · skip
                by_cases h114 : y < 114
                · skip
                  have e : y = 113 := by omega
                  subst e; exact zsel_113
                · skip
                  have e : y = 114 := by omega
                  subst e; exact zsel_114
            · skip
              by_cases h117 : y < 117
              · skip
                by_cases h116 : y < 116
                · skip
                  have e : y = 115 := by omega
                  subst e; exact zsel_115
                · skip
                  have e : y = 116 := by omega
                  subst e; exact zsel_116
              · skip
                by_cases h118 : y < 118
                · skip
                  have e : y = 117 := by omega
                  subst e; exact zsel_117
                · skip
                  have e : y = 118 := by omega
                  subst e; exact zsel_118
          · skip
            by_cases h123 : y < 123
            · skip
              by_cases h121 : y < 121
              · skip
                by_cases h120 : y < 120
                · skip
                  have e : y = 119 := by omega
                  subst e; exact zsel_119
                · skip
                  have e : y = 120 := by omega
                  subst e; exact zsel_120
              · skip
                by_cases h122 : y < 122
                · skip
                  have e : y = 121 := by omega
                  subst e; exact zsel_121
                · skip
                  have e : y = 122 := by omega
                  subst e; cases hy
            · skip
              by_cases h125 : y < 125
              · skip
                by_cases h124 : y < 124
                · skip
                  have e : y = 123 := by omega
                  subst e; exact zsel_123
                · skip
                  have e : y = 124 := by omega
                  subst e; exact zsel_124
              · skip
                by_cases h126 : y < 126
                · skip
                  have e : y = 125 := by omega
                  subst e; exact zsel_125
                · skip
                  have e : y = 126 := by omega
                  subst e; exact zsel_126
  · skip
    by_cases h191 : y < 191
    · skip
      by_cases h159 : y < 159
      · skip
        by_cases h143 : y < 143
        · skip
          by_cases h135 : y < 135
          · skip
            by_cases h131 : y < 131
            · skip
              by_cases h129 : y < 129
              · skip
                by_cases h128 : y < 128
                · skip
                  have e : y = 127 := by omega
                  subst e; exact zsel_127
                · skip
                  have e : y = 128 := by omega
                  subst e; exact zsel_128
              · skip
                by_cases h130 : y < 130
                · skip
                  have e : y = 129 := by omega
                  subst e; exact zsel_129
                · skip
                  have e : y = 130 := by omega
                  subst e; exact zsel_130
            · skip
              by_cases h133 : y < 133
              · skip
                by_cases h132 : y < 132
                · skip
                  have e : y = 131 := by omega
                  subst e; exact zsel_131
                · skip
                  have e : y = 132 := by omega
                  subst e; cases hy
              · skip
                by_cases h134 : y < 134
                · skip
                  have e : y = 133 := by omega
                  subst e; exact zsel_133
                · skip
                  have e : y = 134 := by omega
                  subst e; exact zsel_134
          · skip
            by_cases h139 : y < 139
            · skip
              by_cases h137 : y < 137
              · skip
                by_cases h136 : y < 136
                · skip
                  have e : y = 135 := by omega
                  subst e; exact zsel_135
                · skip
                  have e : y = 136 := by omega
                  subst e; exact zsel_136
              · skip
                by_cases h138 : y < 138
                · skip
                  have e : y = 137 := by omega
                  subst e; exact zsel_137
                · skip
                  have e : y = 138 := by omega
                  subst e; exact zsel_138
            · skip
              by_cases h141 : y < 141
              · skip
                by_cases h140 : y < 140
                · skip
                  have e : y = 139 := by omega
                  subst e; exact zsel_139
                · skip
                  have e : y = 140 := by omega
                  subst e; exact zsel_140
              · skip
                by_cases h142 : y < 142
                · skip
                  have e : y = 141 := by omega
                  subst e; exact zsel_141
                · skip
                  have e : y = 142 := by omega
                  subst e; exact zsel_142
        · skip
          by_cases h151 : y < 151
          · skip
            by_cases h147 : y < 147
            · skip
              by_cases h145 : y < 145
              · skip
                by_cases h144 : y < 144
                · skip
                  have e : y = 143 := by omega
                  subst e; exact zsel_143
                · skip
                  have e : y = 144 := by omega
                  subst e; exact zsel_144
              · skip
                by_cases h146 : y < 146
                · skip
                  have e : y = 145 := by omega
                  subst e; exact zsel_145
                · skip
                  have e : y = 146 := by omega
                  subst e; exact zsel_146
            · skip
              by_cases h149 : y < 149
              · skip
                by_cases h148 : y < 148
                · skip
                  have e : y = 147 := by omega
                  subst e; exact zsel_147
                · skip
                  have e : y = 148 := by omega
                  subst e; exact zsel_148
              · skip
                by_cases h150 : y < 150
                · skip
                  have e : y = 149 := by omega
                  subst e; exact zsel_149
                · skip
                  have e : y = 150 := by omega
                  subst e; cases hy
          · skip
            by_cases h155 : y < 155
            · skip
              by_cases h153 : y < 153
              · skip
                by_cases h152 : y < 152
                · skip
                  have e : y = 151 := by omega
                  subst e; exact zsel_151
                · skip
                  have e : y = 152 := by omega
                  subst e; exact zsel_152
              · skip
                by_cases h154 : y < 154
                · skip
                  have e : y = 153 := by omega
                  subst e; exact zsel_153
                · skip
                  have e : y = 154 := by omega
                  subst e; exact zsel_154
            · skip
              by_cases h157 : y < 157
              · skip
                by_cases h156 : y < 156
                · skip
                  have e : y = 155 := by omega
                  subst e; exact zsel_155
                · skip
                  have e : y = 156 := by omega
                  subst e; exact zsel_156
              · skip
                by_cases h158 : y < 158
                · skip
                  have e : y = 157 := by omega
                  subst e; exact zsel_157
                · skip
                  have e : y = 158 := by omega
                  subst e; exact zsel_158
      · skip
        by_cases h175 : y < 175
        · skip
          by_cases h167 : y < 167
          · skip
            by_cases h163 : y < 163
            · skip
              by_cases h161 : y < 161
              · skip
                by_cases h160 : y < 160
                · skip
                  have e : y = 159 := by omega
                  subst e; exact zsel_159
                · skip
                  have e : y = 160 := by omega
                  subst e; exact zsel_160
              · skip
                by_cases h162 : y < 162
                · skip
                  have e : y = 161 := by omega
                  subst e; exact zsel_161
                · skip
                  have e : y = 162 := by omega
                  subst e; exact zsel_162
            · skip
              by_cases h165 : y < 165
              · skip
                by_cases h164 : y < 164
                · skip
                  have e : y = 163 := by omega
                  subst e; exact zsel_163
                · skip
                  have e : y = 164 := by omega
                  subst e; exact zsel_164
              · skip
                by_cases h166 : y < 166
                · skip
                  have e : y = 165 := by omega
                  subst e; exact zsel_165
                · skip
                  have e : y = 166 := by omega
                  subst e; exact zsel_166
          · skip
            by_cases h171 : y < 171
            · skip
              by_cases h169 : y < 169
              · skip
                by_cases h168 : y < 168
                · skip
                  have e : y = 167 := by omega
                  subst e; exact zsel_167
                · skip
                  have e : y = 168 := by omega
                  subst e; exact zsel_168
              · skip
                by_cases h170 : y < 170
                · skip
                  have e : y = 169 := by omega
                  subst e; exact zsel_169
                · skip
                  have e : y = 170 := by omega
                  subst e; cases hy
            · skip
              by_cases h173 : y < 173
              · skip
                by_cases h172 : y < 172
                · skip
                  have e : y = 171 := by omega
                  subst e; exact zsel_171
                · skip
                  have e : y = 172 := by omega
                  subst e; exact zsel_172
              · skip
                by_cases h174 : y < 174
                · skip
                  have e : y = 173 := by omega
                  subst e; exact zsel_173
                · skip
                  have e : y = 174 := by omega
                  subst e; exact zsel_174
        · skip
          by_cases h183 : y < 183
          · skip
            by_cases h179 : y < 179
            · skip
              by_cases h177 : y < 177
              · skip
                by_cases h176 : y < 176
                · skip
                  have e : y = 175 := by omega
                  subst e; exact zsel_175
                · skip
                  have e : y = 176 := by omega
                  subst e; exact zsel_176
              · skip
                by_cases h178 : y < 178
                · skip
                  have e : y = 177 := by omega
                  subst e; exact zsel_177
                · skip
                  have e : y = 178 := by omega
                  subst e; exact zsel_178
            · skip
              by_cases h181 : y < 181
              · skip
                by_cases h180 : y < 180
                · skip
                  have e : y = 179 := by omega
                  subst e; exact zsel_179
                · skip
                  have e : y = 180 := by omega
                  subst e; exact zsel_180
              · skip
                by_cases h182 : y < 182
                · skip
                  have e : y = 181 := by omega
                  subst e; exact zsel_181
                · skip
                  have e : y = 182 := by omega
                  subst e; exact zsel_182
          · skip
            by_cases h187 : y < 187
            · skip
              by_cases h185 : y < 185
              · skip
                by_cases h184 : y < 184
                · skip
                  have e : y = 183 := by omega
                  subst e; exact zsel_183
                · skip
                  have e : y = 184 := by omega
                  subst e; exact zsel_184
              · skip
                by_cases h186 : y < 186
                · skip
                  have e : y = 185 := by omega
                  subst e; exact zsel_185
                · skip
                  have e : y = 186 := by omega
                  subst e; exact zsel_186
            · skip
              by_cases h189 : y < 189
              · skip
                by_cases h188 : y < 188
                · skip
                  have e : y = 187 := by omega
                  subst e; exact zsel_187
                · skip
                  have e : y = 188 := by omega
                  subst e; exact zsel_188
              · skip
                by_cases h190 : y < 190
                · skip
                  have e : y = 189 := by omega
                  subst e; exact zsel_189
                · skip
                  have e : y = 190 := by omega
                  subst e; exact zsel_190
    · skip
      by_cases h223 : y < 223
      · skip
        by_cases h207 : y < 207
        · skip
          by_cases h199 : y < 199
          · skip
            by_cases h195 : y < 195
            · skip
              by_cases h193 : y < 193
              · skip
                by_cases h192 : y < 192
                · skip
                  have e : y = 191 := by omega
                  subst e; exact zsel_191
                · skip
                  have e : y = 192 := by omega
                  subst e; exact zsel_192
              · skip
                by_cases h194 : y < 194
                · skip
                  have e : y = 193 := by omega
                  subst e; exact zsel_193
                · skip
                  have e : y = 194 := by omega
                  subst e; cases hy
            · skip
              by_cases h197 : y < 197
              · skip
                by_cases h196 : y < 196
                · skip
                  have e : y = 195 := by omega
                  subst e; exact zsel_195
                · skip
                  have e : y = 196 := by omega
                  subst e; exact zsel_196
              · skip
                by_cases h198 : y < 198
                · skip
                  have e : y = 197 := by omega
                  subst e; exact zsel_197
                · skip
                  have e : y = 198 := by omega
                  subst e; exact zsel_198
          · skip
            by_cases h203 : y < 203
            · skip
              by_cases h201 : y < 201
              · skip
                by_cases h200 : y < 200
                · skip
                  have e : y = 199 := by omega
                  subst e; exact zsel_199
                · skip
                  have e : y = 200 := by omega
                  subst e; exact zsel_200
              · skip
                by_cases h202 : y < 202
                · skip
                  have e : y = 201 := by omega
                  subst e; exact zsel_201
                · skip
                  have e : y = 202 := by omega
                  subst e; cases hy
            · skip
              by_cases h205 : y < 205
              · skip
                by_cases h204 : y < 204
                · skip
                  have e : y = 203 := by omega
                  subst e; exact zsel_203
                · skip
                  have e : y = 204 := by omega
                  subst e; exact zsel_204
              · skip
                by_cases h206 : y < 206
                · skip
                  have e : y = 205 := by omega
                  subst e; exact zsel_205
                · skip
                  have e : y = 206 := by omega
                  subst e; exact zsel_206
        · skip
          by_cases h215 : y < 215
          · skip
            by_cases h211 : y < 211
            · skip
              by_cases h209 : y < 209
              · skip
                by_cases h208 : y < 208
                · skip
                  have e : y = 207 := by omega
                  subst e; exact zsel_207
                · skip
                  have e : y = 208 := by omega
                  subst e; exact zsel_208
              · skip
                by_cases h210 : y < 210
                · skip
                  have e : y = 209 := by omega
                  subst e; exact zsel_209
                · skip
                  have e : y = 210 := by omega
                  subst e; exact zsel_210
            · skip
              by_cases h213 : y < 213
              · skip
                by_cases h212 : y < 212
                · skip
                  have e : y = 211 := by omega
                  subst e; exact zsel_211
                · skip
                  have e : y = 212 := by omega
                  subst e; exact zsel_212
              · skip
                by_cases h214 : y < 214
                · skip
                  have e : y = 213 := by omega
                  subst e; exact zsel_213
                · skip
                  have e : y = 214 := by omega
                  subst e; exact zsel_214
          · skip
            by_cases h219 : y < 219
            · skip
              by_cases h217 : y < 217
              · skip
                by_cases h216 : y < 216
                · skip
                  have e : y = 215 := by omega
                  subst e; exact zsel_215
                · skip
                  have e : y = 216 := by omega
                  subst e; exact zsel_216
              · skip
                by_cases h218 : y < 218
                · skip
                  have e : y = 217 := by omega
                  subst e; exact zsel_217
                · skip
                  have e : y = 218 := by omega
                  subst e; exact zsel_218
            · skip
              by_cases h221 : y < 221
              · skip
                by_cases h220 : y < 220
                · skip
                  have e : y = 219 := by omega
                  subst e; exact zsel_219
                · skip
                  have e : y = 220 := by omega
                  subst e; exact zsel_220
              · skip
                by_cases h222 : y < 222
                · skip
                  have e : y = 221 := by omega
                  subst e; exact zsel_221
                · skip
                  have e : y = 222 := by omega
                  subst e; exact zsel_222
      · skip
        by_cases h239 : y < 239
        · skip
          by_cases h231 : y < 231
          · skip
            by_cases h227 : y < 227
            · skip
              by_cases h225 : y < 225
              · skip
                by_cases h224 : y < 224
                · skip
                  have e : y = 223 := by omega
                  subst e; exact zsel_223
                · skip
                  have e : y = 224 := by omega
                  subst e; exact zsel_224
              · skip
                by_cases h226 : y < 226
                · skip
                  have e : y = 225 := by omega
                  subst e; exact zsel_225
                · skip
                  have e : y = 226 := by omega
                  subst e; exact zsel_226
            · skip
              by_cases h229 : y < 229
              · skip
                by_cases h228 : y < 228
                · skip
                  have e : y = 227 := by omega
                  subst e; exact zsel_227
                · skip
                  have e : y = 228 := by omega
                  subst e; exact zsel_228
              · skip
                by_cases h230 : y < 230
                · skip
                  have e : y = 229 := by omega
                  subst e; exact zsel_229
                · skip
                  have e : y = 230 := by omega
                  subst e; exact zsel_230
          · skip
            by_cases h235 : y < 235
            · skip
              by_cases h233 : y < 233
              · skip
                by_cases h232 : y < 232
                · skip
                  have e : y = 231 := by omega
                  subst e; exact zsel_231
                · skip
                  have e : y = 232 := by omega
                  subst e; exact zsel_232
              · skip
                by_cases h234 : y < 234
                · skip
                  have e : y = 233 := by omega
                  subst e; exact zsel_233
                · skip
                  have e : y = 234 := by omega
                  subst e; exact zsel_234
            · skip
              by_cases h237 : y < 237
              · skip
                by_cases h236 : y < 236
                · skip
                  have e : y = 235 := by omega
                  subst e; exact zsel_235
                · skip
                  have e : y = 236 := by omega
                  subst e; exact zsel_236
              · skip
                by_cases h238 : y < 238
                · skip
                  have e : y = 237 := by omega
                  subst e; exact zsel_237
                · skip
                  have e : y = 238 := by omega
                  subst e; exact zsel_238
        · skip
          by_cases h247 : y < 247
          · skip
            by_cases h243 : y < 243
            · skip
              by_cases h241 : y < 241
              · skip
                by_cases h240 : y < 240
                · skip
                  have e : y = 239 := by omega
                  subst e; exact zsel_239
                · skip
                  have e : y = 240 := by omega
                  subst e; exact zsel_240
              · skip
                by_cases h242 : y < 242
                · skip
                  have e : y = 241 := by omega
                  subst e; exact zsel_241
                · skip
                  have e : y = 242 := by omega
                  subst e; exact zsel_242
            · skip
              by_cases h245 : y < 245
              · skip
                by_cases h244 : y < 244
                · skip
                  have e : y = 243 := by omega
                  subst e; exact zsel_243
                · skip
                  have e : y = 244 := by omega
                  subst e; exact zsel_244
              · skip
                by_cases h246 : y < 246
                · skip
                  have e : y = 245 := by omega
                  subst e; exact zsel_245
                · skip
                  have e : y = 246 := by omega
                  subst e; exact zsel_246
          · skip
            by_cases h251 : y < 251
            · skip
              by_cases h249 : y < 249
              · skip
                by_cases h248 : y < 248
                · skip
                  have e : y = 247 := by omega
                  subst e; exact zsel_247
                · skip
                  have e : y = 248 := by omega
                  subst e; exact zsel_248
              · skip
                by_cases h250 : y < 250
                · skip
                  have e : y = 249 := by omega
                  subst e; exact zsel_249
                · skip
                  have e : y = 250 := by omega
                  subst e; exact zsel_250
            · skip
              by_cases h253 : y < 253
              · skip
                by_cases h252 : y < 252
                · skip
                  have e : y = 251 := by omega
                  subst e; exact zsel_251
                · skip
                  have e : y = 252 := by omega
                  subst e; exact zsel_252
              · skip
                by_cases h254 : y < 254
                · skip
                  have e : y = 253 := by omega
                  subst e; exact zsel_253
                · skip
                  have e : y = 254 := by omega
                  subst e; exact zsel_254
end
section
/-! A small machine of my own over numbers: what the bytecode does, said on lists, whole numbers and a heap of functions. -/
/-- a value: an int, a long, a reference, nothing -/
abbrev ZV : Type := Int ⊕ Int ⊕ Option Nat ⊕ Unit
abbrev zi (x : Int) : ZV := .inl x
abbrev zl (x : Int) : ZV := .inr (.inl x)
abbrev zr (x : Option Nat) : ZV := .inr (.inr (.inl x))
abbrev zu : ZV := .inr (.inr (.inr ()))
/-- sizes (cells, slots) and the kind and length of each cell -/
abbrev ZS : Type := (Nat × Nat) × (Nat → Nat × Nat)
abbrev ZF : Type := Nat → Nat → Int
abbrev ZG : Type := Nat → Nat → Option Nat
abbrev ZH : Type := ZS × ZF × ZG
def up2 {α : Type} (f : Nat → Nat → α) (a i : Nat) (v : α) : Nat → Nat → α := fun b j => if b = a ∧ j = i then v else f b j
theorem up2_same {α : Type} (f : Nat → Nat → α) (a i : Nat) (v : α) : up2 f a i v a i = v := by simp [up2]
theorem up2_ne {α : Type} (f : Nat → Nat → α) {a i b j : Nat} (v : α) (h : ¬ (b = a ∧ j = i)) : up2 f a i v b j = f b j := by simp [up2, h]
/-- cell k is an object of class c -/
def zO (σ : ZS) (k c : Nat) : Prop := k < σ.1.1 ∧ (σ.2 k).1 = c
/-- cell k is an array of kind t with n elements -/
def zA (σ : ZS) (k t n : Nat) : Prop := k < σ.1.1 ∧ σ.2 k = (t, n)
def zNewS (σ : ZS) (t n : Nat) : ZS := ((σ.1.1 + 1, σ.1.2 + n), fun k => if k = σ.1.1 then (t, n) else σ.2 k)
def zNewF (σ : ZS) (f : ZF) : ZF := fun k j => if k = σ.1.1 then 0 else f k j
def zNewG (σ : ZS) (g : ZG) : ZG := fun k j => if k = σ.1.1 then none else g k j
def wr (x : Int) : Int := (x + 2147483648) % 4294967296 - 2147483648
def wl (x : Int) : Int := (x + 9223372036854775808) % 18446744073709551616 - 9223372036854775808
theorem wr_id {x : Int} (h : -2147483648 ≤ x ∧ x ≤ 2147483647) : wr x = x := by unfold wr; omega
theorem wl_id {x : Int} (h : -9223372036854775808 ≤ x ∧ x ≤ 9223372036854775807) : wl x = x := by unfold wl; omega
def z_and (x y : Int) : Int := (Int32.ofInt x &&& Int32.ofInt y).toInt
def z_or (x y : Int) : Int := (Int32.ofInt x ||| Int32.ofInt y).toInt
def z_xor (x y : Int) : Int := (Int32.ofInt x ^^^ Int32.ofInt y).toInt
def z_shl (x y : Int) : Int := (Int32.ofInt x <<< (Int32.ofInt y &&& 31)).toInt
def z_shr (x y : Int) : Int := (Int32.ofInt x >>> (Int32.ofInt y &&& 31)).toInt
def z_ushr (x y : Int) : Int := ((Int32.ofInt x).toUInt32 >>> ((Int32.ofInt y).toUInt32 &&& Int32.toUInt32 31)).toInt32.toInt
def z_land (x y : Int) : Int := (Int64.ofInt x &&& Int64.ofInt y).toInt
def z_lor (x y : Int) : Int := (Int64.ofInt x ||| Int64.ofInt y).toInt
def z_lshl (x y : Int) : Int := (Int64.ofInt x <<< ((Int32.ofInt y).toInt64 &&& 63)).toInt
def z_div (x y : Int) : Int := (wr x).tdiv (wr y)
def z_rem (x y : Int) : Int := (wr x).tmod (wr y)
def z_ldiv (x y : Int) : Int := (wl x).tdiv (wl y)
def z_lrem (x y : Int) : Int := (wl x).tmod (wl y)
def z_cmp (x y : Int) : Int := if wl y < wl x then 1 else if wl x = wl y then 0 else -1
def z_b (x : Int) : Int := (x + 128) % 256 - 128
def z_cm (c : Jvm.ClassFile.Cond) (x y : Int) : Bool := match c with
  | .eq => decide (wr x = wr y)
  | .ne => decide (wr x ≠ wr y)
  | .lt => decide (wr x < wr y)
  | .ge => decide (wr y ≤ wr x)
  | .gt => decide (wr y < wr x)
  | .le => decide (wr x ≤ wr y)
def zget : List ZV → Nat → Option ZV
  | [], _ => none
  | u :: _, 0 => some u
  | _ :: t, n + 1 => zget t n
def zset : List ZV → Nat → ZV → List ZV
  | [], _, _ => []
  | _ :: t, 0, v => v :: t
  | u :: t, n + 1, v => u :: zset t n v
/-- what stays of a slot when the one behind it is written: a long goes -/
def zkeep (u : ZV) : ZV := match u with
  | .inr (.inl _) => zu
  | u => u
def zst1 : List ZV → Nat → ZV → List ZV
  | [], _, _ => []
  | _ :: t, 0, v => v :: t
  | u :: t, 1, v => zkeep u :: zset t 0 v
  | u :: t, n + 2, v => u :: zst1 t (n + 1) v
/-- a long into two slots -/
def zst2 : List ZV → Nat → ZV → List ZV
  | [], _, _ => []
  | _ :: t, 0, v => v :: zset t 0 zu
  | u :: t, 1, v => zkeep u :: zset (zset t 0 v) 1 zu
  | u :: t, n + 2, v => u :: zst2 t (n + 1) v
def zargs : List ZV → List ZV
  | [] => []
  | .inr (.inl x) :: t => zl x :: zu :: zargs t
  | v :: t => v :: zargs t
def zent (n : Nat) (as : List ZV) : List ZV := zargs as ++ List.replicate (n - (zargs as).length) zu
/-- an instruction: itself, the place behind it (or its goal), numbers that say what it means -/
abbrev ZE : Type := Instr × Nat × Nat × Nat × Nat × Int
abbrev ZO : Type := (Nat × List ZV × List ZV × ZH) ⊕ (Nat × List ZV × Nat × List ZV) ⊕ Option ZV
abbrev ZT : Type := List (List (Option ZE))
def zlk (T : ZT) (pc : Nat) : Option ZE := match znth T (pc / 16) with
  | none => none
  | some r => match znth r (pc % 16) with
    | none => none
    | some e => e
/-- the texts of the String constants -/
def zstr (k : Nat) : List Int := match k with
  | 0 => [115, 104, 111, 119, 32, 114, 111, 97, 100, 32, 99, 97, 114, 32, 103, 97, 112]
  | 1 => [110, 111, 116]
  | 2 => [97, 110, 100, 32, 111, 114]
  | 3 => [103, 111]
  | 4 => [105, 102]
  | _ => [99, 97, 114, 32, 114, 111, 97, 100, 32, 102, 117, 101, 108, 32, 119, 97, 105, 116, 105, 110, 103, 32, 98, 101, 104, 105, 110, 100, 32, 111, 110, 32, 111, 102, 102, 32, 114, 111, 117, 110, 100, 115, 32, 101, 118, 101, 114, 121, 32, 115, 116, 101, 112]
def zX : Nat := 10000000
def zcpy (f : ZF) (a0 a sp dp n : Nat) : ZF := fun k j => if k = a ∧ dp ≤ j ∧ j < dp + n then f a0 (sp + (j - dp)) else f k j
/-- jump -/
def zgo (q : Nat) (L st : List ZV) (h : ZH) : Option ZO := some (.inl (q, L, st, h))
def z_if (c : Bool) (t q : Nat) (L st : List ZV) (h : ZH) : Option ZO := if c = true then zgo t L st h else zgo q L st h
def z_get (q a b c : Nat) (L st : List ZV) (h : ZH) : Option ZO := match st with
  | .inr (.inr (.inl (some k))) :: st => if k < h.1.1.1 ∧ (h.1.2 k).1 = c then (if b = 1 then zgo q L (zl (h.2.1 k a) :: st) h else if b = 2 then zgo q L (zr (h.2.2 k a) :: st) h else zgo q L (zi (h.2.1 k a) :: st) h) else none
  | _ => none
def z_put (q a b c : Nat) (L st : List ZV) (h : ZH) : Option ZO := match st with
  | .inl x :: .inr (.inr (.inl (some k))) :: st => if (k < h.1.1.1 ∧ (h.1.2 k).1 = c) ∧ (b = 0 ∨ (b = 3 ∧ (x = 0 ∨ x = 1))) then zgo q L st (h.1, up2 h.2.1 k a x, h.2.2) else none
  | .inr (.inl x) :: .inr (.inr (.inl (some k))) :: st => if (k < h.1.1.1 ∧ (h.1.2 k).1 = c) ∧ b = 1 then zgo q L st (h.1, up2 h.2.1 k a x, h.2.2) else none
  | .inr (.inr (.inl x)) :: .inr (.inr (.inl (some k))) :: st => if (k < h.1.1.1 ∧ (h.1.2 k).1 = c) ∧ b = 2 then zgo q L st (h.1, h.2.1, up2 h.2.2 k a x) else none
  | _ => none
/-- array element read: kind t -/
def z_ald (t q : Nat) (L st : List ZV) (h : ZH) : Option ZO := match st with
  | .inl i :: .inr (.inr (.inl (some k))) :: st => if ((k < h.1.1.1 ∨ k = zX + 6) ∧ (h.1.2 k).1 = t) ∧ 0 ≤ i ∧ i < ((h.1.2 k).2 : Int) ∧ (h.1.2 k).2 ≤ 2147483647 then (if t = 103 then zgo q L (zl (h.2.1 k i.toNat) :: st) h else if 110 ≤ t then zgo q L (zr (h.2.2 k i.toNat) :: st) h else zgo q L (zi (h.2.1 k i.toNat) :: st) h) else none
  | _ => none
def z_ast (t q : Nat) (L st : List ZV) (h : ZH) : Option ZO := match st with
  | .inl x :: .inl i :: .inr (.inr (.inl (some k))) :: st => if ((k < h.1.1.1 ∧ (h.1.2 k).1 = t) ∧ 0 ≤ i ∧ i < ((h.1.2 k).2 : Int) ∧ (h.1.2 k).2 ≤ 2147483647) ∧ (t = 100 ∨ (t = 101 ∧ -128 ≤ x ∧ x ≤ 127) ∨ (t = 102 ∧ (x = 0 ∨ x = 1))) then zgo q L st (h.1, up2 h.2.1 k i.toNat x, h.2.2) else none
  | .inr (.inl x) :: .inl i :: .inr (.inr (.inl (some k))) :: st => if ((k < h.1.1.1 ∧ (h.1.2 k).1 = t) ∧ 0 ≤ i ∧ i < ((h.1.2 k).2 : Int) ∧ (h.1.2 k).2 ≤ 2147483647) ∧ t = 103 then zgo q L st (h.1, up2 h.2.1 k i.toNat x, h.2.2) else none
  | .inr (.inr (.inl (some x))) :: .inl i :: .inr (.inr (.inl (some k))) :: st => if ((k < h.1.1.1 ∧ (h.1.2 k).1 = t) ∧ 0 ≤ i ∧ i < ((h.1.2 k).2 : Int) ∧ (h.1.2 k).2 ≤ 2147483647) ∧ 110 ≤ t ∧ x < h.1.1.1 ∧ (h.1.2 x).1 + 110 = t then zgo q L st (h.1, h.2.1, up2 h.2.2 k i.toNat (some x)) else none
  | _ => none
/-- a new cell of kind t with n slots -/
def z_new (t n q : Nat) (L st : List ZV) (h : ZH) : Option ZO := if h.1.1.1 < 1000000 then zgo q L (zr (some h.1.1.1) :: st) (zNewS h.1 t n, zNewF h.1 h.2.1, zNewG h.1 h.2.2) else none
def z_newa (t q : Nat) (L st : List ZV) (h : ZH) : Option ZO := match st with
  | .inl n :: st => if 0 ≤ n ∧ n ≤ 100000 then z_new t n.toNat q L st h else none
  | _ => none
def z_len (q : Nat) (L st : List ZV) (h : ZH) : Option ZO := match st with
  | .inr (.inr (.inl (some k))) :: st => if (k < h.1.1.1 ∨ k = zX + 6) ∧ 100 ≤ (h.1.2 k).1 ∧ (h.1.2 k).2 ≤ 2147483647 then zgo q L (zi ((h.1.2 k).2 : Int) :: st) h else none
  | _ => none
/-- what is built in: Object's constructor, a text's length and signs, arraycopy, clone of an int array -/
def z_bi (a q : Nat) (L st : List ZV) (h : ZH) : Option ZO := match a with
  | 1000 => (match st with
    | .inr (.inr (.inl (some _))) :: st => zgo q L st h
    | _ => none)
  | 1001 => (match st with
    | .inr (.inr (.inl (some k))) :: st => if zX ≤ k ∧ k < zX + 6 then zgo q L (zi ((zstr (k - zX)).length : Int) :: st) h else none
    | _ => none)
  | 1002 => (match st with
    | .inl i :: .inr (.inr (.inl (some k))) :: st => if (zX ≤ k ∧ k < zX + 6) ∧ 0 ≤ i ∧ i < ((zstr (k - zX)).length : Int) then zgo q L (zi ((zstr (k - zX)).getD i.toNat 0) :: st) h else none
    | _ => none)
  | 1004 => (match st with
    | .inr (.inr (.inl (some k))) :: st => if k < h.1.1.1 ∧ (h.1.2 k).1 = 100 ∧ h.1.1.1 < 1000000 then zgo q L (zr (some h.1.1.1) :: st) (zNewS h.1 100 (h.1.2 k).2, (fun k' j => if k' = h.1.1.1 then h.2.1 k j else h.2.1 k' j), zNewG h.1 h.2.2) else none
    | _ => none)
  | 1003 => (match st with
    | .inl n :: .inl dp :: .inr (.inr (.inl (some k))) :: .inl sp :: .inr (.inr (.inl (some k0))) :: st => if ((k < h.1.1.1 ∧ k0 < h.1.1.1) ∧ (h.1.2 k0).1 = (h.1.2 k).1 ∧ ((h.1.2 k).1 = 100 ∨ (h.1.2 k).1 = 101) ∧ (h.1.2 k).2 ≤ 2147483647 ∧ (h.1.2 k0).2 ≤ 2147483647) ∧ (0 ≤ sp ∧ 0 ≤ dp ∧ 0 ≤ n ∧ sp + n ≤ ((h.1.2 k0).2 : Int) ∧ dp + n ≤ ((h.1.2 k).2 : Int)) ∧ ((h.1.2 k).1 = 100 ∨ ∀ i, i < n.toNat → -128 ≤ h.2.1 k0 (sp.toNat + i) ∧ h.2.1 k0 (sp.toNat + i) ≤ 127) then zgo q L st (h.1, zcpy h.2.1 k0 k sp.toNat dp.toNat n.toNat, h.2.2) else none
    | _ => none)
  | _ => none
def zal (i : Instr) (st : List ZV) (v : Int) (a b : Nat) : Option (List ZV) := match i with
  | .iconst n => some (zi n :: st)
  | .bipush n => some (zi n :: st)
  | .sipush n => some (zi n :: st)
  | .lconst _ => some (zl v :: st)
  | .ldc _ => if b = 0 then some (zi v :: st) else some (zr (some a) :: st)
  | .ldc_w _ => some (zi v :: st)
  | .ldc2_w _ => some (zl v :: st)
  | .aconst_null => some (zr none :: st)
  | .iadd => (match st with | .inl y :: .inl x :: st => some (zi (x + y) :: st) | _ => none)
  | .isub => (match st with | .inl y :: .inl x :: st => some (zi (x - y) :: st) | _ => none)
  | .imul => (match st with | .inl y :: .inl x :: st => some (zi (x * y) :: st) | _ => none)
  | .idiv => (match st with | .inl y :: .inl x :: st => if wr y = 0 then none else some (zi (z_div x y) :: st) | _ => none)
  | .irem => (match st with | .inl y :: .inl x :: st => if wr y = 0 then none else some (zi (z_rem x y) :: st) | _ => none)
  | .iand => (match st with | .inl y :: .inl x :: st => some (zi (z_and x y) :: st) | _ => none)
  | .ior => (match st with | .inl y :: .inl x :: st => some (zi (z_or x y) :: st) | _ => none)
  | .ixor => (match st with | .inl y :: .inl x :: st => some (zi (z_xor x y) :: st) | _ => none)
  | .ishl => (match st with | .inl y :: .inl x :: st => some (zi (z_shl x y) :: st) | _ => none)
  | .ishr => (match st with | .inl y :: .inl x :: st => some (zi (z_shr x y) :: st) | _ => none)
  | .iushr => (match st with | .inl y :: .inl x :: st => some (zi (z_ushr x y) :: st) | _ => none)
  | .ladd => (match st with | .inr (.inl y) :: .inr (.inl x) :: st => some (zl (x + y) :: st) | _ => none)
  | .lsub => (match st with | .inr (.inl y) :: .inr (.inl x) :: st => some (zl (x - y) :: st) | _ => none)
  | .lmul => (match st with | .inr (.inl y) :: .inr (.inl x) :: st => some (zl (x * y) :: st) | _ => none)
  | .ldiv => (match st with | .inr (.inl y) :: .inr (.inl x) :: st => if wl y = 0 then none else some (zl (z_ldiv x y) :: st) | _ => none)
  | .lrem => (match st with | .inr (.inl y) :: .inr (.inl x) :: st => if wl y = 0 then none else some (zl (z_lrem x y) :: st) | _ => none)
  | .land => (match st with | .inr (.inl y) :: .inr (.inl x) :: st => some (zl (z_land x y) :: st) | _ => none)
  | .lor => (match st with | .inr (.inl y) :: .inr (.inl x) :: st => some (zl (z_lor x y) :: st) | _ => none)
  | .lshl => (match st with | .inl y :: .inr (.inl x) :: st => some (zl (z_lshl x y) :: st) | _ => none)
  | .lcmp => (match st with | .inr (.inl y) :: .inr (.inl x) :: st => some (zi (z_cmp x y) :: st) | _ => none)
  | .i2l => (match st with | .inl x :: st => some (zl (wr x) :: st) | _ => none)
  | .l2i => (match st with | .inr (.inl x) :: st => some (zi x :: st) | _ => none)
  | .i2b => (match st with | .inl x :: st => some (zi (z_b x) :: st) | _ => none)
  | .dup => (match st with | .inl x :: st => some (zi x :: zi x :: st) | .inr (.inr (.inl x)) :: st => some (zr x :: zr x :: st) | _ => none)
  | .dup2 => (match st with | .inl y :: .inr (.inr (.inl x)) :: st => some (zi y :: zr x :: zi y :: zr x :: st) | _ => none)
  | .pop => (match st with | .inl _ :: st => some st | .inr (.inr (.inl _)) :: st => some st | _ => none)
  | _ => none
/-- one instruction -/
def zx (e : ZE) (pc : Nat) (L st : List ZV) (h : ZH) : Option ZO := match e with
  | (i, q, a, b, c, v) => match i with
    | .iload _ | .iload_n _ => (match zget L a with
      | some (.inl x) => zgo q L (zi x :: st) h
      | _ => none)
    | .lload _ | .lload_n _ => (match zget L a with
      | some (.inr (.inl x)) => zgo q L (zl x :: st) h
      | _ => none)
    | .aload _ | .aload_n _ => (match zget L a with
      | some (.inr (.inr (.inl x))) => zgo q L (zr x :: st) h
      | _ => none)
    | .istore _ | .istore_n _ => (match st with
      | .inl x :: st => if a < L.length then zgo q (zst1 L a (zi x)) st h else none
      | _ => none)
    | .astore _ | .astore_n _ => (match st with
      | .inr (.inr (.inl x)) :: st => if a < L.length then zgo q (zst1 L a (zr x)) st h else none
      | _ => none)
    | .lstore _ | .lstore_n _ => (match st with
      | .inr (.inl x) :: st => if a + 1 < L.length then zgo q (zst2 L a (zl x)) st h else none
      | _ => none)
    | .iinc _ n => (match zget L a with
      | some (.inl x) => zgo q (zst1 L a (zi (x + n))) st h
      | _ => none)
    | .goto _ => zgo q L st h
    | .ifCond cm _ => (match st with
      | .inl x :: st => z_if (z_cm cm x 0) a q L st h
      | _ => none)
    | .if_icmp cm _ => (match st with
      | .inl y :: .inl x :: st => z_if (z_cm cm x y) a q L st h
      | _ => none)
    | .ifnull _ => (match st with
      | .inr (.inr (.inl x)) :: st => z_if x.isNone a q L st h
      | _ => none)
    | .ifnonnull _ => (match st with
      | .inr (.inr (.inl x)) :: st => z_if x.isSome a q L st h
      | _ => none)
    | .tableswitch dflt lo hi offs => (match st with
      | .inl x :: st => if wr x < lo ∨ hi < wr x then zgo ((pc : Int) + dflt).toNat L st h else (match offs.toList[(wr x - lo).toNat]? with
        | some off => zgo ((pc : Int) + off).toNat L st h
        | none => none)
      | _ => none)
    | .lookupswitch dflt ps => (match st with
      | .inl x :: st => zgo ((pc : Int) + Op.lookupswitch.offset ps.toList dflt (wr x)).toNat L st h
      | _ => none)
    | .getfield _ => z_get q a b c L st h
    | .putfield _ => z_put q a b c L st h
    | .iaload => z_ald 100 q L st h
    | .baload => z_ald (if a = 0 then 101 else 102) q L st h
    | .laload => z_ald 103 q L st h
    | .aaload => z_ald a q L st h
    | .iastore => z_ast 100 q L st h
    | .bastore => z_ast (if a = 0 then 101 else 102) q L st h
    | .lastore => z_ast 103 q L st h
    | .aastore => z_ast a q L st h
    | .arraylength => z_len q L st h
    | .checkcast _ => (match st with
      | .inr (.inr (.inl (some k))) :: _ => if k < h.1.1.1 ∧ (h.1.2 k).1 = 100 then zgo q L st h else none
      | _ => none)
    | .new _ => z_new a b q L st h
    | .newarray _ => z_newa a q L st h
    | .anewarray _ => z_newa a q L st h
    | .invokevirtual _ | .invokestatic _ | .invokespecial _ => if 1000 ≤ a then z_bi a q L st h else if b ≤ st.length then some (.inr (.inl (a, (st.take b).reverse, q, st.drop b))) else none
    | .return_ => if c = 0 ∧ st = [] then some (.inr (.inr none)) else none
    | .ireturn => (match st with
      | [.inl x] => if c = 1 ∨ (c = 2 ∧ (x = 0 ∨ x = 1)) then some (.inr (.inr (some (zi x)))) else none
      | _ => none)
    | .lreturn => (match st with
      | [.inr (.inl x)] => if c = 3 then some (.inr (.inr (some (zl x)))) else none
      | _ => none)
    | .areturn => (match st with
      | [.inr (.inr (.inl x))] => if c = 4 then some (.inr (.inr (some (zr x)))) else none
      | _ => none)
    | i => (match zal i st v a b with
      | some st' => zgo q L st' h
      | none => none)
def zrun (call : Nat → List ZV → ZH → Option (Option ZV × ZH)) (T : ZT) : Nat → Nat → List ZV → List ZV → ZH → Option (Option ZV × ZH)
  | 0, _, _, _, _ => none
  | n + 1, pc, L, st, h => match zlk T pc with
    | none => none
    | some e => match zx e pc L st h with
      | none => none
      | some (.inl (q, L', st', h')) => zrun call T n q L' st' h'
      | some (.inr (.inl (y, as, q, st'))) => (match call y as h with
        | none => none
        | some (r, h') => zrun call T n q L (r.toList ++ st') h')
      | some (.inr (.inr r)) => some (r, h)
/-- method y's machine: at most d frames, each of at most n instructions -/
def zev (P : Nat → Nat × ZT) : Nat → Nat → Nat → List ZV → ZH → Option (Option ZV × ZH)
  | 0, _, _, _, _ => none
  | d + 1, n, y, as, h => zrun (zev P d n) (P y).2 n 0 (zent (P y).1 as) [] h
end
section
theorem wr_toInt (x : Int) : (Int32.ofInt x).toInt = wr x := by
  rw [Int32.toInt_ofInt]
  show x.bmod 4294967296 = wr x
  unfold wr
  rw [Int.bmod_def]
  split <;> omega
theorem wl_toInt (x : Int) : (Int64.ofInt x).toInt = wl x := by
  rw [Int64.toInt_ofInt]
  show x.bmod 18446744073709551616 = wl x
  unfold wl
  rw [Int.bmod_def]
  split <;> omega
theorem of_wr (x : Int) : Int32.ofInt (wr x) = Int32.ofInt x := by rw [← wr_toInt, Int32.ofInt_toInt]
theorem of_wl (x : Int) : Int64.ofInt (wl x) = Int64.ofInt x := by rw [← wl_toInt, Int64.ofInt_toInt]
theorem wr_lo (x : Int) : -2147483648 ≤ wr x := by unfold wr; omega
theorem wr_hi (x : Int) : wr x ≤ 2147483647 := by unfold wr; omega
theorem wl_lo (x : Int) : -9223372036854775808 ≤ wl x := by unfold wl; omega
theorem wl_hi (x : Int) : wl x ≤ 9223372036854775807 := by unfold wl; omega
theorem wr_eq_iff (x y : Int) : Int32.ofInt x = Int32.ofInt y ↔ wr x = wr y := by
  rw [← Int32.toInt_inj, wr_toInt, wr_toInt]
theorem wl_eq_iff (x y : Int) : Int64.ofInt x = Int64.ofInt y ↔ wl x = wl y := by
  rw [← Int64.toInt_inj, wl_toInt, wl_toInt]
theorem wr_lt_iff (x y : Int) : Int32.ofInt x < Int32.ofInt y ↔ wr x < wr y := by
  rw [Int32.lt_iff_toInt_lt, wr_toInt, wr_toInt]
theorem wr_le_iff (x y : Int) : Int32.ofInt x ≤ Int32.ofInt y ↔ wr x ≤ wr y := by
  rw [Int32.le_iff_toInt_le, wr_toInt, wr_toInt]
theorem wl_lt_iff (x y : Int) : Int64.ofInt x < Int64.ofInt y ↔ wl x < wl y := by
  rw [Int64.lt_iff_toInt_lt, wl_toInt, wl_toInt]
theorem wr_zero : wr 0 = 0 := by decide
theorem z_div_of (x y : Int) : Int32.ofInt (z_div x y) = Int32.ofInt x / Int32.ofInt y := by
  unfold z_div
  rw [Int32.ofInt_tdiv (wr_lo x) (wr_hi x) (wr_lo y) (wr_hi y), of_wr, of_wr]
theorem z_ldiv_of (x y : Int) : Int64.ofInt (z_ldiv x y) = Int64.ofInt x / Int64.ofInt y := by
  unfold z_ldiv
  rw [Int64.ofInt_tdiv (wl_lo x) (wl_hi x) (wl_lo y) (wl_hi y), of_wl, of_wl]
theorem z_rem_of (x y : Int) : Int32.ofInt (z_rem x y) = Int32.ofInt x - Int32.ofInt x / Int32.ofInt y * Int32.ofInt y := by
  rw [← z_div_of]
  unfold z_rem z_div
  rw [Int.tmod_def, Int32.ofInt_sub, Int32.ofInt_mul, of_wr, of_wr, Int32.mul_comm]
theorem z_lrem_of (x y : Int) : Int64.ofInt (z_lrem x y) = Int64.ofInt x - Int64.ofInt x / Int64.ofInt y * Int64.ofInt y := by
  rw [← z_ldiv_of]
  unfold z_lrem z_ldiv
  rw [Int.tmod_def, Int64.ofInt_sub, Int64.ofInt_mul, of_wl, of_wl, Int64.mul_comm]
theorem z_and_of (x y : Int) : Int32.ofInt (z_and x y) = Int32.ofInt x &&& Int32.ofInt y := Int32.ofInt_toInt _
theorem z_or_of (x y : Int) : Int32.ofInt (z_or x y) = Int32.ofInt x ||| Int32.ofInt y := Int32.ofInt_toInt _
theorem z_xor_of (x y : Int) : Int32.ofInt (z_xor x y) = Int32.ofInt x ^^^ Int32.ofInt y := Int32.ofInt_toInt _
theorem z_shl_of (x y : Int) : Int32.ofInt (z_shl x y) = Int32.ofInt x <<< (Int32.ofInt y &&& 31) := Int32.ofInt_toInt _
theorem z_shr_of (x y : Int) : Int32.ofInt (z_shr x y) = Int32.ofInt x >>> (Int32.ofInt y &&& 31) := Int32.ofInt_toInt _
theorem z_ushr_of (x y : Int) : ((Int32.ofInt x).toUInt32 >>> ((Int32.ofInt y).toUInt32 &&& Int32.toUInt32 31)).toInt32 = Int32.ofInt (z_ushr x y) := (Int32.ofInt_toInt _).symm
theorem z_land_of (x y : Int) : Int64.ofInt (z_land x y) = Int64.ofInt x &&& Int64.ofInt y := Int64.ofInt_toInt _
theorem z_lor_of (x y : Int) : Int64.ofInt (z_lor x y) = Int64.ofInt x ||| Int64.ofInt y := Int64.ofInt_toInt _
theorem z_lshl_of (x y : Int) : Int64.ofInt x <<< ((Int32.ofInt y).toInt64 &&& 63) = Int64.ofInt (z_lshl x y) := (Int64.ofInt_toInt _).symm
theorem z_i2l_of (x : Int) : (Int32.ofInt x).toInt64 = Int64.ofInt (wr x) := by
  apply Int64.toInt_inj.mp
  rw [Int32.toInt_toInt64, wr_toInt, wl_toInt, wl_id]
  have h1 := wr_lo x
  have h2 := wr_hi x
  omega
theorem z_l2i_of (x : Int) : (Int64.ofInt x).toInt32 = Int32.ofInt x := by
  apply Int32.toInt_inj.mp
  rw [Int64.toInt_toInt32, wl_toInt, wr_toInt]
  show (wl x).bmod 4294967296 = wr x
  unfold wr wl
  rw [Int.bmod_def]
  split <;> omega
theorem z_i2b_of (x : Int) : (Int32.ofInt x).toInt8.toInt32 = Int32.ofInt (z_b x) := by
  apply Int32.toInt_inj.mp
  rw [Int8.toInt_toInt32, Int32.toInt_toInt8, wr_toInt, wr_toInt]
  show (wr x).bmod 256 = wr (z_b x)
  unfold wr z_b
  rw [Int.bmod_def]
  split <;> omega
theorem z_cmp_of (x y : Int) : lg_cmp (Int64.ofInt x) (Int64.ofInt y) = Int32.ofInt (z_cmp x y) := by
  unfold z_cmp lg_cmp
  by_cases h1 : wl y < wl x
  · have h1' := (wl_lt_iff y x).mpr h1
    simp [h1, h1']
  · have h1' := (not_congr (wl_lt_iff y x)).mpr h1
    by_cases h2 : wl x = wl y
    · have h2' := (wl_eq_iff x y).mpr h2
      simp [h2, h2']
    · have h2' := (not_congr (wl_eq_iff x y)).mpr h2
      simp [h1, h1', h2, h2']
theorem z_idx {i : Int} {n : Nat} (h0 : 0 ≤ i) (h1 : i < (n : Int)) (hn : n ≤ 2147483647) : vp_in (Int32.ofInt i) n ∧ (Int32.ofInt i).toNatClampNeg = i.toNat := by
  have e : (Int32.ofInt i).toInt = i := by rw [wr_toInt, wr_id]; omega
  have e2 : (Int32.ofInt i).toNatClampNeg = i.toNat := by
    show (Int32.ofInt i).toInt.toNat = i.toNat
    rw [e]
  refine ⟨?_, e2⟩
  rintro (h | h)
  · rw [Int32.lt_iff_toInt_lt, e] at h
    have h3 : (0 : Int32).toInt = 0 := by decide
    omega
  · rw [e2] at h
    omega
theorem z_nat {i : Int} (h0 : 0 ≤ i) (h1 : i ≤ 2147483647) : ¬ Int32.ofInt i < 0 ∧ (Int32.ofInt i).toNatClampNeg = i.toNat := by
  have e : (Int32.ofInt i).toInt = i := by rw [wr_toInt, wr_id]; omega
  have e2 : (Int32.ofInt i).toNatClampNeg = i.toNat := by
    show (Int32.ofInt i).toInt.toNat = i.toNat
    rw [e]
  refine ⟨?_, e2⟩
  rw [Int32.lt_iff_toInt_lt, e]
  have h3 : (0 : Int32).toInt = 0 := by decide
  omega
end
section
/-! printed by wip/whole/gen.py: the code of every method, instruction by instruction -/
def zt0 : ZT := [[some (.aload_n 0, 1, 0, 0, 0, 0), some (.invokespecial 1, 4, 1000, 0, 0, 0), none, none, some (.aload_n 0, 5, 0, 0, 0, 0), some (.sipush 400, 8, 0, 0, 0, 0), none, none, some (.newarray .byte, 10, 101, 0, 0, 0), none, some (.putfield 9, 13, 0, 2, 10, 0), none, none, some (.aload_n 0, 14, 0, 0, 0, 0), some (.iconst 0, 15, 0, 0, 0, 0), some (.putfield 13, 18, 1, 0, 10, 0)],
  [none, none, some (.aload_n 0, 19, 0, 0, 0, 0), some (.bipush 6, 21, 0, 0, 0, 0), none, some (.anewarray 17, 24, 117, 0, 0, 0), none, none, some (.putfield 19, 27, 2, 2, 10, 0), none, none, some (.aload_n 0, 28, 0, 0, 0, 0), some (.iconst 0, 29, 0, 0, 0, 0), some (.putfield 23, 32, 3, 0, 10, 0), none, none],
  [some (.aload_n 0, 33, 0, 0, 0, 0), some (.aconst_null, 34, 0, 0, 0, 0), some (.putfield 26, 37, 4, 2, 10, 0), none, none, some (.aload_n 0, 38, 0, 0, 0, 0), some (.new 30, 41, 5, 9, 0, 0), none, none, some (.dup, 42, 0, 0, 0, 0), some (.invokespecial 32, 45, 1, 1, 0, 0), none, none, some (.putfield 33, 48, 5, 2, 10, 0), none, none],
  [some (.aload_n 0, 49, 0, 0, 0, 0), some (.iconst (-1), 50, 0, 0, 0, 0), some (.putfield 37, 53, 6, 0, 10, 0), none, none, some (.aload_n 0, 54, 0, 0, 0, 0), some (.iconst 0, 55, 0, 0, 0, 0), some (.putfield 40, 58, 7, 0, 10, 0), none, none, some (.aload_n 0, 59, 0, 0, 0, 0), some (.new 43, 62, 2, 4, 0, 0), none, none, some (.dup, 63, 0, 0, 0, 0), some (.invokespecial 45, 66, 2, 1, 0, 0)],
  [none, none, some (.putfield 46, 69, 8, 2, 10, 0), none, none, some (.aload_n 0, 70, 0, 0, 0, 0), some (.iconst 4, 71, 0, 0, 0, 0), some (.anewarray 50, 74, 111, 0, 0, 0), none, none, some (.putfield 52, 77, 9, 2, 10, 0), none, none, some (.aload_n 0, 78, 0, 0, 0, 0), some (.bipush 20, 80, 0, 0, 0, 0), none],
  [some (.anewarray 30, 83, 115, 0, 0, 0), none, none, some (.putfield 56, 86, 10, 2, 10, 0), none, none, some (.aload_n 0, 87, 0, 0, 0, 0), some (.iconst 0, 88, 0, 0, 0, 0), some (.putfield 60, 91, 11, 0, 10, 0), none, none, some (.aload_n 0, 92, 0, 0, 0, 0), some (.iconst 0, 93, 0, 0, 0, 0), some (.putfield 63, 96, 12, 0, 10, 0), none, none],
  [some (.aload_n 0, 97, 0, 0, 0, 0), some (.new 66, 100, 9, 1, 0, 0), none, none, some (.dup, 101, 0, 0, 0, 0), some (.invokespecial 68, 104, 3, 1, 0, 0), none, none, some (.putfield 69, 107, 13, 2, 10, 0), none, none, some (.aload_n 0, 108, 0, 0, 0, 0), some (.new 73, 111, 8, 4, 0, 0), none, none, some (.dup, 112, 0, 0, 0, 0)],
  [some (.invokespecial 75, 115, 5, 1, 0, 0), none, none, some (.putfield 76, 118, 14, 2, 10, 0), none, none, some (.aload_n 0, 119, 0, 0, 0, 0), some (.new 80, 122, 0, 7, 0, 0), none, none, some (.dup, 123, 0, 0, 0, 0), some (.invokespecial 82, 126, 6, 1, 0, 0), none, none, some (.putfield 83, 129, 15, 2, 10, 0), none],
  [none, some (.aload_n 0, 130, 0, 0, 0, 0), some (.new 87, 133, 6, 4, 0, 0), none, none, some (.dup, 134, 0, 0, 0, 0), some (.invokespecial 89, 137, 7, 1, 0, 0), none, none, some (.putfield 90, 140, 16, 2, 10, 0), none, none, some (.aload_n 0, 141, 0, 0, 0, 0), some (.new 30, 144, 5, 9, 0, 0), none, none],
  [some (.dup, 145, 0, 0, 0, 0), some (.invokespecial 32, 148, 1, 1, 0, 0), none, none, some (.putfield 94, 151, 17, 2, 10, 0), none, none, some (.aload_n 0, 152, 0, 0, 0, 0), some (.bipush 126, 154, 0, 0, 0, 0), none, some (.newarray .int, 156, 100, 0, 0, 0), none, some (.putfield 97, 159, 18, 2, 10, 0), none, none, some (.aload_n 0, 160, 0, 0, 0, 0)],
  [some (.bipush 61, 162, 0, 0, 0, 0), none, some (.newarray .long, 164, 103, 0, 0, 0), none, some (.putfield 101, 167, 19, 2, 10, 0), none, none, some (.iconst 0, 168, 0, 0, 0, 0), some (.istore_n 1, 169, 1, 0, 0, 0), some (.iload_n 1, 170, 1, 0, 0, 0), some (.iconst 4, 171, 0, 0, 0, 0), some (.if_icmp .ge 22, 174, 193, 0, 0, 0), none, none, some (.aload_n 0, 175, 0, 0, 0, 0), some (.getfield 52, 178, 9, 2, 10, 0)],
  [none, none, some (.iload_n 1, 179, 1, 0, 0, 0), some (.new 50, 182, 1, 6, 0, 0), none, none, some (.dup, 183, 0, 0, 0, 0), some (.invokespecial 105, 186, 8, 1, 0, 0), none, none, some (.aastore, 187, 111, 0, 0, 0), some (.iinc 1 1, 190, 1, 0, 0, 0), none, none, some (.goto (-21), 169, 0, 0, 0, 0), none],
  [none, some (.iconst 0, 194, 0, 0, 0, 0), some (.istore_n 1, 195, 1, 0, 0, 0), some (.iload_n 1, 196, 1, 0, 0, 0), some (.bipush 20, 198, 0, 0, 0, 0), none, some (.if_icmp .ge 22, 201, 220, 0, 0, 0), none, none, some (.aload_n 0, 202, 0, 0, 0, 0), some (.getfield 56, 205, 10, 2, 10, 0), none, none, some (.iload_n 1, 206, 1, 0, 0, 0), some (.new 30, 209, 5, 9, 0, 0), none],
  [none, some (.dup, 210, 0, 0, 0, 0), some (.invokespecial 32, 213, 1, 1, 0, 0), none, none, some (.aastore, 214, 115, 0, 0, 0), some (.iinc 1 1, 217, 1, 0, 0, 0), none, none, some (.goto (-22), 195, 0, 0, 0, 0), none, none, some (.return_, 221, 0, 0, 0, 0)]]
def zt1 : ZT := [[some (.aload_n 0, 1, 0, 0, 0, 0), some (.invokespecial 3, 4, 1000, 0, 0, 0), none, none, some (.aload_n 0, 5, 0, 0, 0, 0), some (.bipush 6, 7, 0, 0, 0, 0), none, some (.newarray .int, 9, 100, 0, 0, 0), none, some (.dup, 10, 0, 0, 0, 0), some (.iconst 0, 11, 0, 0, 0, 0), some (.iconst (-1), 12, 0, 0, 0, 0), some (.iastore, 13, 0, 0, 0, 0), some (.dup, 14, 0, 0, 0, 0), some (.iconst 1, 15, 0, 0, 0, 0), some (.iconst (-1), 16, 0, 0, 0, 0)],
  [some (.iastore, 17, 0, 0, 0, 0), some (.dup, 18, 0, 0, 0, 0), some (.iconst 2, 19, 0, 0, 0, 0), some (.iconst (-1), 20, 0, 0, 0, 0), some (.iastore, 21, 0, 0, 0, 0), some (.dup, 22, 0, 0, 0, 0), some (.iconst 3, 23, 0, 0, 0, 0), some (.iconst (-1), 24, 0, 0, 0, 0), some (.iastore, 25, 0, 0, 0, 0), some (.dup, 26, 0, 0, 0, 0), some (.iconst 4, 27, 0, 0, 0, 0), some (.iconst (-1), 28, 0, 0, 0, 0), some (.iastore, 29, 0, 0, 0, 0), some (.dup, 30, 0, 0, 0, 0), some (.iconst 5, 31, 0, 0, 0, 0), some (.iconst (-1), 32, 0, 0, 0, 0)],
  [some (.iastore, 33, 0, 0, 0, 0), some (.putfield 9, 36, 0, 2, 5, 0), none, none, some (.aload_n 0, 37, 0, 0, 0, 0), some (.bipush 6, 39, 0, 0, 0, 0), none, some (.newarray .int, 41, 100, 0, 0, 0), none, some (.dup, 42, 0, 0, 0, 0), some (.iconst 0, 43, 0, 0, 0, 0), some (.iconst (-1), 44, 0, 0, 0, 0), some (.iastore, 45, 0, 0, 0, 0), some (.dup, 46, 0, 0, 0, 0), some (.iconst 1, 47, 0, 0, 0, 0), some (.iconst (-1), 48, 0, 0, 0, 0)],
  [some (.iastore, 49, 0, 0, 0, 0), some (.dup, 50, 0, 0, 0, 0), some (.iconst 2, 51, 0, 0, 0, 0), some (.iconst (-1), 52, 0, 0, 0, 0), some (.iastore, 53, 0, 0, 0, 0), some (.dup, 54, 0, 0, 0, 0), some (.iconst 3, 55, 0, 0, 0, 0), some (.iconst (-1), 56, 0, 0, 0, 0), some (.iastore, 57, 0, 0, 0, 0), some (.dup, 58, 0, 0, 0, 0), some (.iconst 4, 59, 0, 0, 0, 0), some (.iconst (-1), 60, 0, 0, 0, 0), some (.iastore, 61, 0, 0, 0, 0), some (.dup, 62, 0, 0, 0, 0), some (.iconst 5, 63, 0, 0, 0, 0), some (.iconst (-1), 64, 0, 0, 0, 0)],
  [some (.iastore, 65, 0, 0, 0, 0), some (.putfield 15, 68, 1, 2, 5, 0), none, none, some (.aload_n 0, 69, 0, 0, 0, 0), some (.bipush 6, 71, 0, 0, 0, 0), none, some (.newarray .int, 73, 100, 0, 0, 0), none, some (.putfield 18, 76, 2, 2, 5, 0), none, none, some (.aload_n 0, 77, 0, 0, 0, 0), some (.bipush 6, 79, 0, 0, 0, 0), none, some (.newarray .int, 81, 100, 0, 0, 0)],
  [none, some (.putfield 21, 84, 3, 2, 5, 0), none, none, some (.aload_n 0, 85, 0, 0, 0, 0), some (.iconst 5, 86, 0, 0, 0, 0), some (.newarray .int, 88, 100, 0, 0, 0), none, some (.putfield 24, 91, 4, 2, 5, 0), none, none, some (.aload_n 0, 92, 0, 0, 0, 0), some (.iconst 0, 93, 0, 0, 0, 0), some (.putfield 27, 96, 5, 0, 5, 0), none, none],
  [some (.aload_n 0, 97, 0, 0, 0, 0), some (.iconst 0, 98, 0, 0, 0, 0), some (.putfield 31, 101, 6, 0, 5, 0), none, none, some (.aload_n 0, 102, 0, 0, 0, 0), some (.iconst 0, 103, 0, 0, 0, 0), some (.putfield 34, 106, 7, 0, 5, 0), none, none, some (.aload_n 0, 107, 0, 0, 0, 0), some (.iconst 0, 108, 0, 0, 0, 0), some (.putfield 37, 111, 8, 0, 5, 0), none, none, some (.return_, 112, 0, 0, 0, 0)]]
def zt2 : ZT := [[some (.aload_n 0, 1, 0, 0, 0, 0), some (.invokespecial 3, 4, 1000, 0, 0, 0), none, none, some (.aload_n 0, 5, 0, 0, 0, 0), some (.iconst 0, 6, 0, 0, 0, 0), some (.putfield 9, 9, 0, 0, 2, 0), none, none, some (.aload_n 0, 10, 0, 0, 0, 0), some (.bipush 10, 12, 0, 0, 0, 0), none, some (.newarray .int, 14, 100, 0, 0, 0), none, some (.putfield 15, 17, 1, 2, 2, 0), none],
  [none, some (.aload_n 0, 18, 0, 0, 0, 0), some (.bipush 10, 20, 0, 0, 0, 0), none, some (.newarray .int, 22, 100, 0, 0, 0), none, some (.putfield 19, 25, 2, 2, 2, 0), none, none, some (.aload_n 0, 26, 0, 0, 0, 0), some (.bipush 10, 28, 0, 0, 0, 0), none, some (.newarray .int, 30, 100, 0, 0, 0), none, some (.putfield 22, 33, 3, 2, 2, 0), none],
  [none, some (.return_, 34, 0, 0, 0, 0)]]
def zt3 : ZT := [[some (.aload_n 0, 1, 0, 0, 0, 0), some (.invokespecial 3, 4, 1000, 0, 0, 0), none, none, some (.aload_n 0, 5, 0, 0, 0, 0), some (.new 9, 8, 4, 7, 0, 0), none, none, some (.dup, 9, 0, 0, 0, 0), some (.invokespecial 11, 12, 4, 1, 0, 0), none, none, some (.putfield 12, 15, 0, 2, 9, 0), none, none, some (.return_, 16, 0, 0, 0, 0)]]
def zt4 : ZT := [[some (.aload_n 0, 1, 0, 0, 0, 0), some (.invokespecial 3, 4, 1000, 0, 0, 0), none, none, some (.aload_n 0, 5, 0, 0, 0, 0), some (.iconst 0, 6, 0, 0, 0, 0), some (.putfield 11, 9, 0, 0, 4, 0), none, none, some (.aload_n 0, 10, 0, 0, 0, 0), some (.iconst 0, 11, 0, 0, 0, 0), some (.putfield 15, 14, 1, 0, 4, 0), none, none, some (.aload_n 0, 15, 0, 0, 0, 0), some (.iconst 0, 16, 0, 0, 0, 0)],
  [some (.putfield 18, 19, 2, 0, 4, 0), none, none, some (.aload_n 0, 20, 0, 0, 0, 0), some (.sipush 400, 23, 0, 0, 0, 0), none, none, some (.newarray .byte, 25, 101, 0, 0, 0), none, some (.putfield 21, 28, 3, 2, 4, 0), none, none, some (.aload_n 0, 29, 0, 0, 0, 0), some (.iconst 0, 30, 0, 0, 0, 0), some (.putfield 25, 33, 4, 0, 4, 0), none],
  [none, some (.aload_n 0, 34, 0, 0, 0, 0), some (.iconst 0, 35, 0, 0, 0, 0), some (.putfield 28, 38, 5, 0, 4, 0), none, none, some (.aload_n 0, 39, 0, 0, 0, 0), some (.iconst 0, 40, 0, 0, 0, 0), some (.putfield 31, 43, 6, 0, 4, 0), none, none, some (.return_, 44, 0, 0, 0, 0)]]
def zt5 : ZT := [[some (.aload_n 0, 1, 0, 0, 0, 0), some (.invokespecial 7, 4, 1000, 0, 0, 0), none, none, some (.aload_n 0, 5, 0, 0, 0, 0), some (.new 3, 8, 4, 7, 0, 0), none, none, some (.dup, 9, 0, 0, 0, 0), some (.invokespecial 13, 12, 4, 1, 0, 0), none, none, some (.putfield 14, 15, 0, 2, 8, 0), none, none, some (.aload_n 0, 16, 0, 0, 0, 0)],
  [some (.sipush 400, 19, 0, 0, 0, 0), none, none, some (.newarray .int, 21, 100, 0, 0, 0), none, some (.putfield 18, 24, 1, 2, 8, 0), none, none, some (.aload_n 0, 25, 0, 0, 0, 0), some (.iconst 0, 26, 0, 0, 0, 0), some (.putfield 22, 29, 2, 0, 8, 0), none, none, some (.aload_n 0, 30, 0, 0, 0, 0), some (.iconst 0, 31, 0, 0, 0, 0), some (.putfield 26, 34, 3, 0, 8, 0)],
  [none, none, some (.return_, 35, 0, 0, 0, 0)]]
def zt6 : ZT := [[some (.aload_n 0, 1, 0, 0, 0, 0), some (.invokespecial 3, 4, 1000, 0, 0, 0), none, none, some (.aload_n 0, 5, 0, 0, 0, 0), some (.aconst_null, 6, 0, 0, 0, 0), some (.putfield 9, 9, 0, 2, 0, 0), none, none, some (.aload_n 0, 10, 0, 0, 0, 0), some (.aconst_null, 11, 0, 0, 0, 0), some (.putfield 15, 14, 1, 2, 0, 0), none, none, some (.aload_n 0, 15, 0, 0, 0, 0), some (.iconst (-1), 16, 0, 0, 0, 0)],
  [some (.putfield 19, 19, 2, 0, 0, 0), none, none, some (.aload_n 0, 20, 0, 0, 0, 0), some (.iconst (-1), 21, 0, 0, 0, 0), some (.putfield 23, 24, 3, 0, 0, 0), none, none, some (.aload_n 0, 25, 0, 0, 0, 0), some (.iconst 0, 26, 0, 0, 0, 0), some (.putfield 26, 29, 4, 3, 0, 0), none, none, some (.aload_n 0, 30, 0, 0, 0, 0), some (.bipush 10, 32, 0, 0, 0, 0), none],
  [some (.newarray .long, 34, 103, 0, 0, 0), none, some (.putfield 32, 37, 5, 2, 0, 0), none, none, some (.aload_n 0, 38, 0, 0, 0, 0), some (.bipush 60, 40, 0, 0, 0, 0), none, some (.newarray .long, 42, 103, 0, 0, 0), none, some (.putfield 36, 45, 6, 2, 0, 0), none, none, some (.return_, 46, 0, 0, 0, 0)]]
def zt7 : ZT := [[some (.aload_n 0, 1, 0, 0, 0, 0), some (.invokespecial 3, 4, 1000, 0, 0, 0), none, none, some (.aload_n 0, 5, 0, 0, 0, 0), some (.iconst 0, 6, 0, 0, 0, 0), some (.putfield 9, 9, 0, 0, 6, 0), none, none, some (.aload_n 0, 10, 0, 0, 0, 0), some (.iconst 3, 11, 0, 0, 0, 0), some (.newarray .int, 13, 100, 0, 0, 0), none, some (.putfield 15, 16, 1, 2, 6, 0), none, none],
  [some (.aload_n 0, 17, 0, 0, 0, 0), some (.iconst 3, 18, 0, 0, 0, 0), some (.newarray .int, 20, 100, 0, 0, 0), none, some (.putfield 19, 23, 2, 2, 6, 0), none, none, some (.aload_n 0, 24, 0, 0, 0, 0), some (.iconst 3, 25, 0, 0, 0, 0), some (.anewarray 22, 28, 115, 0, 0, 0), none, none, some (.putfield 24, 31, 3, 2, 6, 0), none, none, some (.iconst 0, 32, 0, 0, 0, 0)],
  [some (.istore_n 1, 33, 1, 0, 0, 0), some (.iload_n 1, 34, 1, 0, 0, 0), some (.iconst 3, 35, 0, 0, 0, 0), some (.if_icmp .ge 22, 38, 57, 0, 0, 0), none, none, some (.aload_n 0, 39, 0, 0, 0, 0), some (.getfield 24, 42, 3, 2, 6, 0), none, none, some (.iload_n 1, 43, 1, 0, 0, 0), some (.new 22, 46, 5, 9, 0, 0), none, none, some (.dup, 47, 0, 0, 0, 0), some (.invokespecial 28, 50, 1, 1, 0, 0)],
  [none, none, some (.aastore, 51, 115, 0, 0, 0), some (.iinc 1 1, 54, 1, 0, 0, 0), none, none, some (.goto (-21), 33, 0, 0, 0, 0), none, none, some (.return_, 58, 0, 0, 0, 0)]]
def zt8 : ZT := [[some (.aload_n 0, 1, 0, 0, 0, 0), some (.invokespecial 3, 4, 1000, 0, 0, 0), none, none, some (.aload_n 0, 5, 0, 0, 0, 0), some (.iconst 0, 6, 0, 0, 0, 0), some (.putfield 9, 9, 0, 3, 1, 0), none, none, some (.aload_n 0, 10, 0, 0, 0, 0), some (.aconst_null, 11, 0, 0, 0, 0), some (.putfield 15, 14, 1, 2, 1, 0), none, none, some (.aload_n 0, 15, 0, 0, 0, 0), some (.iconst (-1), 16, 0, 0, 0, 0)],
  [some (.putfield 19, 19, 2, 0, 1, 0), none, none, some (.aload_n 0, 20, 0, 0, 0, 0), some (.iconst 0, 21, 0, 0, 0, 0), some (.putfield 23, 24, 3, 0, 1, 0), none, none, some (.aload_n 0, 25, 0, 0, 0, 0), some (.new 26, 28, 5, 9, 0, 0), none, none, some (.dup, 29, 0, 0, 0, 0), some (.invokespecial 28, 32, 1, 1, 0, 0), none, none],
  [some (.putfield 29, 35, 4, 2, 1, 0), none, none, some (.aload_n 0, 36, 0, 0, 0, 0), some (.new 33, 39, 2, 4, 0, 0), none, none, some (.dup, 40, 0, 0, 0, 0), some (.invokespecial 35, 43, 2, 1, 0, 0), none, none, some (.putfield 36, 46, 5, 2, 1, 0), none, none, some (.return_, 47, 0, 0, 0, 0)]]
def zt9 : ZT := [[some (.aload_n 0, 1, 0, 0, 0, 0), some (.getfield 13, 4, 1, 0, 10, 0), none, none, some (.bipush 20, 6, 0, 0, 0, 0), none, some (.iadd, 7, 0, 0, 0, 0), some (.sipush 400, 10, 0, 0, 0, 0), none, none, some (.if_icmp .le 5, 13, 15, 0, 0, 0), none, none, some (.iconst (-1), 14, 0, 0, 0, 0), some (.ireturn, 15, 0, 0, 1, 0), some (.aload_n 0, 16, 0, 0, 0, 0)],
  [some (.iload_n 1, 17, 1, 0, 0, 0), some (.invokevirtual 106, 20, 10, 2, 0, 0), none, none, some (.aload_n 0, 21, 0, 0, 0, 0), some (.iload_n 2, 22, 2, 0, 0, 0), some (.invokevirtual 106, 25, 10, 2, 0, 0), none, none, some (.aload_n 0, 26, 0, 0, 0, 0), some (.iload_n 3, 27, 3, 0, 0, 0), some (.invokevirtual 106, 30, 10, 2, 0, 0), none, none, some (.aload_n 0, 31, 0, 0, 0, 0), some (.iload 4, 33, 4, 0, 0, 0)],
  [none, some (.invokevirtual 106, 36, 10, 2, 0, 0), none, none, some (.aload_n 0, 37, 0, 0, 0, 0), some (.iload 5, 39, 5, 0, 0, 0), none, some (.invokevirtual 106, 42, 10, 2, 0, 0), none, none, some (.aload_n 0, 43, 0, 0, 0, 0), some (.getfield 13, 46, 1, 0, 10, 0), none, none, some (.ireturn, 47, 0, 0, 1, 0)]]
def zt10 : ZT := [[some (.bipush 24, 2, 0, 0, 0, 0), none, some (.istore_n 2, 3, 2, 0, 0, 0), some (.iload_n 2, 4, 2, 0, 0, 0), some (.ifCond .lt 42, 7, 46, 0, 0, 0), none, none, some (.aload_n 0, 8, 0, 0, 0, 0), some (.getfield 13, 11, 1, 0, 10, 0), none, none, some (.sipush 400, 14, 0, 0, 0, 0), none, none, some (.if_icmp .ge 32, 17, 46, 0, 0, 0), none],
  [none, some (.aload_n 0, 18, 0, 0, 0, 0), some (.getfield 9, 21, 0, 2, 10, 0), none, none, some (.aload_n 0, 22, 0, 0, 0, 0), some (.getfield 13, 25, 1, 0, 10, 0), none, none, some (.iload_n 1, 26, 1, 0, 0, 0), some (.iload_n 2, 27, 2, 0, 0, 0), some (.ishr, 28, 0, 0, 0, 0), some (.i2b, 29, 0, 0, 0, 0), some (.bastore, 30, 0, 0, 0, 0), some (.aload_n 0, 31, 0, 0, 0, 0), some (.dup, 32, 0, 0, 0, 0)],
  [some (.getfield 13, 35, 1, 0, 10, 0), none, none, some (.iconst 1, 36, 0, 0, 0, 0), some (.iadd, 37, 0, 0, 0, 0), some (.putfield 13, 40, 1, 0, 10, 0), none, none, some (.iinc 2 (-8), 43, 2, 0, 0, 0), none, none, some (.goto (-40), 3, 0, 0, 0, 0), none, none, some (.return_, 47, 0, 0, 0, 0)]]
def zt11 : ZT := [[some (.iload_n 1, 1, 1, 0, 0, 0), some (.ifCond .lt 11, 4, 12, 0, 0, 0), none, none, some (.iload_n 1, 5, 1, 0, 0, 0), some (.aload_n 0, 6, 0, 0, 0, 0), some (.getfield 13, 9, 1, 0, 10, 0), none, none, some (.if_icmp .le 5, 12, 14, 0, 0, 0), none, none, some (.iconst (-1), 13, 0, 0, 0, 0), some (.ireturn, 14, 0, 0, 1, 0), some (.aload_n 0, 15, 0, 0, 0, 0), some (.iload_n 1, 16, 1, 0, 0, 0)],
  [some (.putfield 13, 19, 1, 0, 10, 0), none, none, some (.iload_n 1, 20, 1, 0, 0, 0), some (.ireturn, 21, 0, 0, 1, 0)]]
def zt12 : ZT := [[some (.aload_n 0, 1, 0, 0, 0, 0), some (.getfield 69, 4, 13, 2, 10, 0), none, none, some (.aload_n 0, 5, 0, 0, 0, 0), some (.getfield 9, 8, 0, 2, 10, 0), none, none, some (.aload_n 0, 9, 0, 0, 0, 0), some (.getfield 13, 12, 1, 0, 10, 0), none, none, some (.invokevirtual 110, 15, 13, 3, 0, 0), none, none, some (.astore_n 1, 16, 1, 0, 0, 0)],
  [some (.aload_n 0, 17, 0, 0, 0, 0), some (.iconst 0, 18, 0, 0, 0, 0), some (.putfield 13, 21, 1, 0, 10, 0), none, none, some (.aload_n 1, 22, 1, 0, 0, 0), some (.ifnonnull 17, 25, 39, 0, 0, 0), none, none, some (.bipush (-2), 27, 0, 0, 0, 0), none, some (.aload_n 0, 28, 0, 0, 0, 0), some (.getfield 69, 31, 13, 2, 10, 0), none, none, some (.getfield 114, 34, 0, 2, 9, 0)],
  [none, none, some (.getfield 118, 37, 2, 0, 4, 0), none, none, some (.isub, 38, 0, 0, 0, 0), some (.ireturn, 39, 0, 0, 1, 0), some (.aload_n 0, 40, 0, 0, 0, 0), some (.aload_n 1, 41, 1, 0, 0, 0), some (.putfield 26, 44, 4, 2, 10, 0), none, none, some (.aload_n 0, 45, 0, 0, 0, 0), some (.getfield 33, 48, 5, 2, 10, 0), none, none],
  [some (.aload_n 1, 49, 1, 0, 0, 0), some (.getfield 123, 52, 5, 2, 3, 0), none, none, some (.invokevirtual 128, 55, 32, 2, 0, 0), none, none, some (.aload_n 0, 56, 0, 0, 0, 0), some (.getfield 46, 59, 8, 2, 10, 0), none, none, some (.iconst 0, 60, 0, 0, 0, 0), some (.putfield 132, 63, 0, 0, 2, 0), none, none, some (.aload_n 0, 64, 0, 0, 0, 0)],
  [some (.iconst 0, 65, 0, 0, 0, 0), some (.putfield 60, 68, 11, 0, 10, 0), none, none, some (.aload_n 1, 69, 1, 0, 0, 0), some (.getfield 135, 72, 2, 0, 3, 0), none, none, some (.ireturn, 73, 0, 0, 1, 0)]]
def zt13 : ZT := [[some (.new 18, 3, 3, 6, 0, 0), none, none, some (.dup, 4, 0, 0, 0, 0), some (.invokespecial 20, 7, 14, 1, 0, 0), none, none, some (.astore_n 3, 8, 3, 0, 0, 0), some (.aload_n 0, 9, 0, 0, 0, 0), some (.getfield 12, 12, 0, 2, 9, 0), none, none, some (.aload_n 1, 13, 1, 0, 0, 0), some (.iload_n 2, 14, 2, 0, 0, 0), some (.invokevirtual 21, 17, 15, 3, 0, 0), none],
  [none, some (.iconst 0, 18, 0, 0, 0, 0), some (.istore 4, 20, 4, 0, 0, 0), none, some (.iload 4, 22, 4, 0, 0, 0), none, some (.bipush 40, 24, 0, 0, 0, 0), none, some (.if_icmp .gt 49, 27, 73, 0, 0, 0), none, none, some (.aload_n 0, 28, 0, 0, 0, 0), some (.aload_n 3, 29, 3, 0, 0, 0), some (.iload 4, 31, 4, 0, 0, 0), none, some (.invokevirtual 25, 34, 20, 3, 0, 0)],
  [none, none, some (.aload_n 0, 35, 0, 0, 0, 0), some (.getfield 12, 38, 0, 2, 9, 0), none, none, some (.getfield 29, 41, 0, 0, 4, 0), none, none, some (.ifCond .ne 5, 44, 46, 0, 0, 0), none, none, some (.aload_n 3, 45, 3, 0, 0, 0), some (.areturn, 46, 0, 0, 4, 0), some (.aload_n 0, 47, 0, 0, 0, 0), some (.getfield 12, 50, 0, 2, 9, 0)],
  [none, none, some (.bipush 59, 52, 0, 0, 0, 0), none, some (.invokevirtual 33, 55, 30, 2, 0, 0), none, none, some (.aload_n 0, 56, 0, 0, 0, 0), some (.getfield 12, 59, 0, 2, 9, 0), none, none, some (.getfield 37, 62, 2, 0, 4, 0), none, none, some (.ifCond .eq 5, 65, 67, 0, 0, 0), none],
  [none, some (.aconst_null, 66, 0, 0, 0, 0), some (.areturn, 67, 0, 0, 4, 0), some (.iinc 4 1, 70, 4, 0, 0, 0), none, none, some (.goto (-50), 20, 0, 0, 0, 0), none, none, some (.aconst_null, 74, 0, 0, 0, 0), some (.areturn, 75, 0, 0, 4, 0)]]
def zt14 : ZT := [[some (.aload_n 0, 1, 0, 0, 0, 0), some (.invokespecial 3, 4, 1000, 0, 0, 0), none, none, some (.aload_n 0, 5, 0, 0, 0, 0), some (.iconst 0, 6, 0, 0, 0, 0), some (.putfield 9, 9, 0, 0, 3, 0), none, none, some (.aload_n 0, 10, 0, 0, 0, 0), some (.iconst 0, 11, 0, 0, 0, 0), some (.putfield 15, 14, 1, 0, 3, 0), none, none, some (.aload_n 0, 15, 0, 0, 0, 0), some (.iconst 0, 16, 0, 0, 0, 0)],
  [some (.putfield 18, 19, 2, 0, 3, 0), none, none, some (.aload_n 0, 20, 0, 0, 0, 0), some (.iconst 5, 21, 0, 0, 0, 0), some (.newarray .int, 23, 100, 0, 0, 0), none, some (.putfield 21, 26, 3, 2, 3, 0), none, none, some (.aload_n 0, 27, 0, 0, 0, 0), some (.iconst 5, 28, 0, 0, 0, 0), some (.newarray .int, 30, 100, 0, 0, 0), none, some (.putfield 25, 33, 4, 2, 3, 0), none],
  [none, some (.aload_n 0, 34, 0, 0, 0, 0), some (.new 28, 37, 5, 9, 0, 0), none, none, some (.dup, 38, 0, 0, 0, 0), some (.invokespecial 30, 41, 1, 1, 0, 0), none, none, some (.putfield 31, 44, 5, 2, 3, 0), none, none, some (.return_, 45, 0, 0, 0, 0)]]
def zt15 : ZT := [[some (.aload_n 0, 1, 0, 0, 0, 0), some (.iconst 0, 2, 0, 0, 0, 0), some (.iload_n 2, 3, 2, 0, 0, 0), some (.aload_n 1, 4, 1, 0, 0, 0), some (.arraylength, 5, 0, 0, 0, 0), some (.sipush 400, 8, 0, 0, 0, 0), none, none, some (.invokestatic 34, 11, 16, 2, 0, 0), none, none, some (.invokestatic 34, 14, 16, 2, 0, 0), none, none, some (.invokestatic 40, 17, 17, 2, 0, 0), none],
  [none, some (.putfield 25, 20, 4, 0, 4, 0), none, none, some (.aload_n 1, 21, 1, 0, 0, 0), some (.iconst 0, 22, 0, 0, 0, 0), some (.aload_n 0, 23, 0, 0, 0, 0), some (.getfield 21, 26, 3, 2, 4, 0), none, none, some (.iconst 0, 27, 0, 0, 0, 0), some (.aload_n 0, 28, 0, 0, 0, 0), some (.getfield 25, 31, 4, 0, 4, 0), none, none, some (.invokestatic 43, 34, 1003, 0, 0, 0)],
  [none, none, some (.aload_n 0, 35, 0, 0, 0, 0), some (.iconst 0, 36, 0, 0, 0, 0), some (.putfield 18, 39, 2, 0, 4, 0), none, none, some (.aload_n 0, 40, 0, 0, 0, 0), some (.iconst 0, 41, 0, 0, 0, 0), some (.putfield 31, 44, 6, 0, 4, 0), none, none, some (.aload_n 0, 45, 0, 0, 0, 0), some (.invokevirtual 49, 48, 18, 1, 0, 0), none, none],
  [some (.return_, 49, 0, 0, 0, 0)]]
def zt16 : ZT := [[some (.iload_n 0, 1, 0, 0, 0, 0), some (.iload_n 1, 2, 1, 0, 0, 0), some (.if_icmp .gt 7, 5, 9, 0, 0, 0), none, none, some (.iload_n 0, 6, 0, 0, 0, 0), some (.goto 4, 10, 0, 0, 0, 0), none, none, some (.iload_n 1, 10, 1, 0, 0, 0), some (.ireturn, 11, 0, 0, 1, 0)]]
def zt17 : ZT := [[some (.iload_n 0, 1, 0, 0, 0, 0), some (.iload_n 1, 2, 1, 0, 0, 0), some (.if_icmp .lt 7, 5, 9, 0, 0, 0), none, none, some (.iload_n 0, 6, 0, 0, 0, 0), some (.goto 4, 10, 0, 0, 0, 0), none, none, some (.iload_n 1, 10, 1, 0, 0, 0), some (.ireturn, 11, 0, 0, 1, 0)]]
def zt18 : ZT := [[some (.aload_n 0, 1, 0, 0, 0, 0), some (.getfield 18, 4, 2, 0, 4, 0), none, none, some (.ifCond .eq 4, 7, 8, 0, 0, 0), none, none, some (.return_, 8, 0, 0, 0, 0), some (.aload_n 0, 9, 0, 0, 0, 0), some (.aload_n 0, 10, 0, 0, 0, 0), some (.getfield 31, 13, 6, 0, 4, 0), none, none, some (.putfield 28, 16, 5, 0, 4, 0), none, none],
  [some (.aload_n 0, 17, 0, 0, 0, 0), some (.getfield 28, 20, 5, 0, 4, 0), none, none, some (.aload_n 0, 21, 0, 0, 0, 0), some (.getfield 25, 24, 4, 0, 4, 0), none, none, some (.if_icmp .ge 30, 27, 54, 0, 0, 0), none, none, some (.aload_n 0, 28, 0, 0, 0, 0), some (.getfield 21, 31, 3, 2, 4, 0), none, none, some (.aload_n 0, 32, 0, 0, 0, 0)],
  [some (.getfield 28, 35, 5, 0, 4, 0), none, none, some (.baload, 36, 0, 0, 0, 0), some (.bipush 32, 38, 0, 0, 0, 0), none, some (.if_icmp .ne 16, 41, 54, 0, 0, 0), none, none, some (.aload_n 0, 42, 0, 0, 0, 0), some (.dup, 43, 0, 0, 0, 0), some (.getfield 28, 46, 5, 0, 4, 0), none, none, some (.iconst 1, 47, 0, 0, 0, 0), some (.iadd, 48, 0, 0, 0, 0)],
  [some (.putfield 28, 51, 5, 0, 4, 0), none, none, some (.goto (-35), 16, 0, 0, 0, 0), none, none, some (.aload_n 0, 55, 0, 0, 0, 0), some (.aload_n 0, 56, 0, 0, 0, 0), some (.getfield 28, 59, 5, 0, 4, 0), none, none, some (.putfield 31, 62, 6, 0, 4, 0), none, none, some (.aload_n 0, 63, 0, 0, 0, 0), some (.getfield 28, 66, 5, 0, 4, 0)],
  [none, none, some (.aload_n 0, 67, 0, 0, 0, 0), some (.getfield 25, 70, 4, 0, 4, 0), none, none, some (.if_icmp .lt 9, 73, 79, 0, 0, 0), none, none, some (.aload_n 0, 74, 0, 0, 0, 0), some (.iconst 0, 75, 0, 0, 0, 0), some (.putfield 11, 78, 0, 0, 4, 0), none, none, some (.return_, 79, 0, 0, 0, 0), some (.aload_n 0, 80, 0, 0, 0, 0)],
  [some (.aload_n 0, 81, 0, 0, 0, 0), some (.getfield 21, 84, 3, 2, 4, 0), none, none, some (.aload_n 0, 85, 0, 0, 0, 0), some (.getfield 28, 88, 5, 0, 4, 0), none, none, some (.baload, 89, 0, 0, 0, 0), some (.invokestatic 52, 92, 19, 1, 0, 0), none, none, some (.putfield 11, 95, 0, 0, 4, 0), none, none, some (.aload_n 0, 96, 0, 0, 0, 0)],
  [some (.dup, 97, 0, 0, 0, 0), some (.getfield 31, 100, 6, 0, 4, 0), none, none, some (.iconst 1, 101, 0, 0, 0, 0), some (.iadd, 102, 0, 0, 0, 0), some (.putfield 31, 105, 6, 0, 4, 0), none, none, some (.aload_n 0, 106, 0, 0, 0, 0), some (.getfield 11, 109, 0, 0, 4, 0), none, none, some (.iconst 3, 110, 0, 0, 0, 0), some (.if_icmp .ne 82, 113, 192, 0, 0, 0), none],
  [none, some (.aload_n 0, 114, 0, 0, 0, 0), some (.aload_n 0, 115, 0, 0, 0, 0), some (.getfield 21, 118, 3, 2, 4, 0), none, none, some (.aload_n 0, 119, 0, 0, 0, 0), some (.getfield 28, 122, 5, 0, 4, 0), none, none, some (.baload, 123, 0, 0, 0, 0), some (.putfield 15, 126, 1, 0, 4, 0), none, none, some (.aload_n 0, 127, 0, 0, 0, 0), some (.getfield 15, 130, 1, 0, 4, 0)],
  [none, none, some (.bipush 60, 132, 0, 0, 0, 0), none, some (.if_icmp .eq 12, 135, 144, 0, 0, 0), none, none, some (.aload_n 0, 136, 0, 0, 0, 0), some (.getfield 15, 139, 1, 0, 4, 0), none, none, some (.bipush 62, 141, 0, 0, 0, 0), none, some (.if_icmp .ne 50, 144, 191, 0, 0, 0), none, none],
  [some (.aload_n 0, 145, 0, 0, 0, 0), some (.getfield 31, 148, 6, 0, 4, 0), none, none, some (.aload_n 0, 149, 0, 0, 0, 0), some (.getfield 25, 152, 4, 0, 4, 0), none, none, some (.if_icmp .ge 39, 155, 191, 0, 0, 0), none, none, some (.aload_n 0, 156, 0, 0, 0, 0), some (.getfield 21, 159, 3, 2, 4, 0), none, none, some (.aload_n 0, 160, 0, 0, 0, 0)],
  [some (.getfield 31, 163, 6, 0, 4, 0), none, none, some (.baload, 164, 0, 0, 0, 0), some (.bipush 61, 166, 0, 0, 0, 0), none, some (.if_icmp .ne 25, 169, 191, 0, 0, 0), none, none, some (.aload_n 0, 170, 0, 0, 0, 0), some (.dup, 171, 0, 0, 0, 0), some (.getfield 15, 174, 1, 0, 4, 0), none, none, some (.sipush 256, 177, 0, 0, 0, 0), none],
  [none, some (.iadd, 178, 0, 0, 0, 0), some (.putfield 15, 181, 1, 0, 4, 0), none, none, some (.aload_n 0, 182, 0, 0, 0, 0), some (.dup, 183, 0, 0, 0, 0), some (.getfield 31, 186, 6, 0, 4, 0), none, none, some (.iconst 1, 187, 0, 0, 0, 0), some (.iadd, 188, 0, 0, 0, 0), some (.putfield 31, 191, 6, 0, 4, 0), none, none, some (.return_, 192, 0, 0, 0, 0)],
  [some (.aload_n 0, 193, 0, 0, 0, 0), some (.aload_n 0, 194, 0, 0, 0, 0), some (.getfield 21, 197, 3, 2, 4, 0), none, none, some (.aload_n 0, 198, 0, 0, 0, 0), some (.getfield 28, 201, 5, 0, 4, 0), none, none, some (.baload, 202, 0, 0, 0, 0), some (.bipush 48, 204, 0, 0, 0, 0), none, some (.isub, 205, 0, 0, 0, 0), some (.putfield 15, 208, 1, 0, 4, 0), none, none],
  [some (.aload_n 0, 209, 0, 0, 0, 0), some (.getfield 31, 212, 6, 0, 4, 0), none, none, some (.aload_n 0, 213, 0, 0, 0, 0), some (.getfield 25, 216, 4, 0, 4, 0), none, none, some (.if_icmp .ge 59, 219, 275, 0, 0, 0), none, none, some (.aload_n 0, 220, 0, 0, 0, 0), some (.getfield 21, 223, 3, 2, 4, 0), none, none, some (.aload_n 0, 224, 0, 0, 0, 0)],
  [some (.getfield 31, 227, 6, 0, 4, 0), none, none, some (.baload, 228, 0, 0, 0, 0), some (.invokestatic 52, 231, 19, 1, 0, 0), none, none, some (.aload_n 0, 232, 0, 0, 0, 0), some (.getfield 11, 235, 0, 0, 4, 0), none, none, some (.if_icmp .ne 40, 238, 275, 0, 0, 0), none, none, some (.aload_n 0, 239, 0, 0, 0, 0), some (.aload_n 0, 240, 0, 0, 0, 0)],
  [some (.getfield 15, 243, 1, 0, 4, 0), none, none, some (.bipush 10, 245, 0, 0, 0, 0), none, some (.imul, 246, 0, 0, 0, 0), some (.aload_n 0, 247, 0, 0, 0, 0), some (.getfield 21, 250, 3, 2, 4, 0), none, none, some (.aload_n 0, 251, 0, 0, 0, 0), some (.getfield 31, 254, 6, 0, 4, 0), none, none, some (.baload, 255, 0, 0, 0, 0), some (.iadd, 256, 0, 0, 0, 0)],
  [some (.bipush 48, 258, 0, 0, 0, 0), none, some (.isub, 259, 0, 0, 0, 0), some (.putfield 15, 262, 1, 0, 4, 0), none, none, some (.aload_n 0, 263, 0, 0, 0, 0), some (.dup, 264, 0, 0, 0, 0), some (.getfield 31, 267, 6, 0, 4, 0), none, none, some (.iconst 1, 268, 0, 0, 0, 0), some (.iadd, 269, 0, 0, 0, 0), some (.putfield 31, 272, 6, 0, 4, 0), none, none],
  [some (.goto (-64), 208, 0, 0, 0, 0), none, none, some (.return_, 276, 0, 0, 0, 0)]]
def zt19 : ZT := [[some (.iload_n 0, 1, 0, 0, 0, 0), some (.bipush 48, 3, 0, 0, 0, 0), none, some (.if_icmp .lt 11, 6, 14, 0, 0, 0), none, none, some (.iload_n 0, 7, 0, 0, 0, 0), some (.bipush 57, 9, 0, 0, 0, 0), none, some (.if_icmp .gt 5, 12, 14, 0, 0, 0), none, none, some (.iconst 1, 13, 0, 0, 0, 0), some (.ireturn, 14, 0, 0, 1, 0), some (.iload_n 0, 15, 0, 0, 0, 0), some (.bipush 97, 17, 0, 0, 0, 0)],
  [none, some (.if_icmp .lt 13, 20, 30, 0, 0, 0), none, none, some (.iload_n 0, 21, 0, 0, 0, 0), some (.bipush 122, 23, 0, 0, 0, 0), none, some (.if_icmp .gt 7, 26, 30, 0, 0, 0), none, none, some (.iconst 2, 27, 0, 0, 0, 0), some (.goto 4, 31, 0, 0, 0, 0), none, none, some (.iconst 3, 31, 0, 0, 0, 0), some (.ireturn, 32, 0, 0, 1, 0)]]
def zt20 : ZT := [[some (.aload_n 0, 1, 0, 0, 0, 0), some (.getfield 12, 4, 0, 2, 9, 0), none, none, some (.ldc 40, 6, 10000000, 2, 0, 0), none, some (.invokevirtual 42, 9, 21, 2, 0, 0), none, none, some (.istore_n 3, 10, 3, 0, 0, 0), some (.iload_n 3, 11, 3, 0, 0, 0), some (.iconst (-1), 12, 0, 0, 0, 0), some (.if_icmp .ne 12, 15, 24, 0, 0, 0), none, none, some (.aload_n 0, 16, 0, 0, 0, 0)],
  [some (.getfield 12, 19, 0, 2, 9, 0), none, none, some (.iconst 0, 20, 0, 0, 0, 0), some (.invokevirtual 46, 23, 22, 2, 0, 0), none, none, some (.return_, 24, 0, 0, 0, 0), some (.iload_n 2, 25, 2, 0, 0, 0), some (.bipush 40, 27, 0, 0, 0, 0), none, some (.if_icmp .ge 51, 30, 78, 0, 0, 0), none, none, some (.iload_n 3, 31, 3, 0, 0, 0), some (.ifCond .ne 7, 34, 38, 0, 0, 0)],
  [none, none, some (.iconst 1, 35, 0, 0, 0, 0), some (.goto 4, 39, 0, 0, 0, 0), none, none, some (.iconst 0, 39, 0, 0, 0, 0), some (.iload_n 2, 40, 2, 0, 0, 0), some (.ifCond .ne 7, 43, 47, 0, 0, 0), none, none, some (.iconst 1, 44, 0, 0, 0, 0), some (.goto 4, 48, 0, 0, 0, 0), none, none, some (.iconst 0, 48, 0, 0, 0, 0)],
  [some (.if_icmp .ne 30, 51, 78, 0, 0, 0), none, none, some (.iload_n 3, 52, 3, 0, 0, 0), some (.iconst 1, 53, 0, 0, 0, 0), some (.if_icmp .ne 11, 56, 64, 0, 0, 0), none, none, some (.aload_n 1, 57, 1, 0, 0, 0), some (.getfield 49, 60, 1, 0, 3, 0), none, none, some (.iconst 5, 61, 0, 0, 0, 0), some (.if_icmp .ge 17, 64, 78, 0, 0, 0), none, none],
  [some (.iload_n 3, 65, 3, 0, 0, 0), some (.iconst 2, 66, 0, 0, 0, 0), some (.if_icmp .ne 21, 69, 87, 0, 0, 0), none, none, some (.aload_n 1, 70, 1, 0, 0, 0), some (.getfield 52, 73, 2, 0, 3, 0), none, none, some (.bipush 6, 75, 0, 0, 0, 0), none, some (.if_icmp .lt 12, 78, 87, 0, 0, 0), none, none, some (.aload_n 0, 79, 0, 0, 0, 0), some (.getfield 12, 82, 0, 2, 9, 0)],
  [none, none, some (.iconst 4, 83, 0, 0, 0, 0), some (.invokevirtual 46, 86, 22, 2, 0, 0), none, none, some (.return_, 87, 0, 0, 0, 0), some (.aload_n 0, 88, 0, 0, 0, 0), some (.getfield 12, 91, 0, 2, 9, 0), none, none, some (.invokevirtual 55, 94, 18, 1, 0, 0), none, none, some (.iload_n 3, 95, 3, 0, 0, 0), some (.tableswitch 59 0 2 #[25, 43, 51], 120, 0, 0, 0, 0)],
  [none, none, none, none, none, none, none, none, none, none, none, none, none, none, none, none],
  [none, none, none, none, none, none, none, none, some (.aload_n 1, 121, 1, 0, 0, 0), some (.aload_n 0, 122, 0, 0, 0, 0), some (.getfield 12, 125, 0, 2, 9, 0), none, none, some (.iconst 3, 126, 0, 0, 0, 0), some (.bipush 20, 128, 0, 0, 0, 0), none],
  [some (.iconst 0, 129, 0, 0, 0, 0), some (.invokevirtual 58, 132, 23, 4, 0, 0), none, none, some (.putfield 62, 135, 0, 0, 3, 0), none, none, some (.goto 24, 159, 0, 0, 0, 0), none, none, some (.aload_n 0, 139, 0, 0, 0, 0), some (.aload_n 1, 140, 1, 0, 0, 0), some (.invokevirtual 65, 143, 25, 2, 0, 0), none, none, some (.goto 16, 159, 0, 0, 0, 0)],
  [none, none, some (.aload_n 0, 147, 0, 0, 0, 0), some (.aload_n 1, 148, 1, 0, 0, 0), some (.invokevirtual 69, 151, 27, 2, 0, 0), none, none, some (.goto 8, 159, 0, 0, 0, 0), none, none, some (.aload_n 0, 155, 0, 0, 0, 0), some (.aload_n 1, 156, 1, 0, 0, 0), some (.invokevirtual 72, 159, 29, 2, 0, 0), none, none, some (.return_, 160, 0, 0, 0, 0)]]
def zt21 : ZT := [[some (.aload_n 0, 1, 0, 0, 0, 0), some (.getfield 11, 4, 0, 0, 4, 0), none, none, some (.iconst 2, 5, 0, 0, 0, 0), some (.if_icmp .eq 5, 8, 10, 0, 0, 0), none, none, some (.iconst (-1), 9, 0, 0, 0, 0), some (.ireturn, 10, 0, 0, 1, 0), some (.iconst 0, 11, 0, 0, 0, 0), some (.istore_n 2, 12, 2, 0, 0, 0), some (.aload_n 0, 13, 0, 0, 0, 0), some (.getfield 28, 16, 5, 0, 4, 0), none, none],
  [some (.istore_n 3, 17, 3, 0, 0, 0), some (.iconst 1, 18, 0, 0, 0, 0), some (.istore 4, 20, 4, 0, 0, 0), none, some (.iconst 0, 21, 0, 0, 0, 0), some (.istore 5, 23, 5, 0, 0, 0), none, some (.iload 5, 25, 5, 0, 0, 0), none, some (.aload_n 1, 26, 1, 0, 0, 0), some (.invokevirtual 68, 29, 1001, 0, 0, 0), none, none, some (.if_icmp .gt 96, 32, 125, 0, 0, 0), none, none],
  [some (.iload 5, 34, 5, 0, 0, 0), none, some (.aload_n 1, 35, 1, 0, 0, 0), some (.invokevirtual 68, 38, 1001, 0, 0, 0), none, none, some (.if_icmp .eq 14, 41, 52, 0, 0, 0), none, none, some (.aload_n 1, 42, 1, 0, 0, 0), some (.iload 5, 44, 5, 0, 0, 0), none, some (.invokevirtual 73, 47, 1002, 0, 0, 0), none, none, some (.bipush 32, 49, 0, 0, 0, 0)],
  [none, some (.if_icmp .ne 32, 52, 81, 0, 0, 0), none, none, some (.iload 4, 54, 4, 0, 0, 0), none, some (.ifCond .eq 13, 57, 67, 0, 0, 0), none, none, some (.iload_n 3, 58, 3, 0, 0, 0), some (.aload_n 0, 59, 0, 0, 0, 0), some (.getfield 31, 62, 6, 0, 4, 0), none, none, some (.if_icmp .ne 5, 65, 67, 0, 0, 0), none],
  [none, some (.iload_n 2, 66, 2, 0, 0, 0), some (.ireturn, 67, 0, 0, 1, 0), some (.iinc 2 1, 70, 2, 0, 0, 0), none, none, some (.aload_n 0, 71, 0, 0, 0, 0), some (.getfield 28, 74, 5, 0, 4, 0), none, none, some (.istore_n 3, 75, 3, 0, 0, 0), some (.iconst 1, 76, 0, 0, 0, 0), some (.istore 4, 78, 4, 0, 0, 0), none, some (.goto 41, 119, 0, 0, 0, 0), none],
  [none, some (.iload 4, 83, 4, 0, 0, 0), none, some (.ifCond .eq 30, 86, 113, 0, 0, 0), none, none, some (.iload_n 3, 87, 3, 0, 0, 0), some (.aload_n 0, 88, 0, 0, 0, 0), some (.getfield 31, 91, 6, 0, 4, 0), none, none, some (.if_icmp .ge 22, 94, 113, 0, 0, 0), none, none, some (.aload_n 0, 95, 0, 0, 0, 0), some (.getfield 21, 98, 3, 2, 4, 0)],
  [none, none, some (.iload_n 3, 99, 3, 0, 0, 0), some (.baload, 100, 0, 0, 0, 0), some (.aload_n 1, 101, 1, 0, 0, 0), some (.iload 5, 103, 5, 0, 0, 0), none, some (.invokevirtual 73, 106, 1002, 0, 0, 0), none, none, some (.if_icmp .ne 7, 109, 113, 0, 0, 0), none, none, some (.iconst 1, 110, 0, 0, 0, 0), some (.goto 4, 114, 0, 0, 0, 0), none],
  [none, some (.iconst 0, 114, 0, 0, 0, 0), some (.istore 4, 116, 4, 0, 0, 0), none, some (.iinc 3 1, 119, 3, 0, 0, 0), none, none, some (.iinc 5 1, 122, 5, 0, 0, 0), none, none, some (.goto (-99), 23, 0, 0, 0, 0), none, none, some (.iconst (-1), 126, 0, 0, 0, 0), some (.ireturn, 127, 0, 0, 1, 0)]]
def zt22 : ZT := [[some (.aload_n 0, 1, 0, 0, 0, 0), some (.getfield 18, 4, 2, 0, 4, 0), none, none, some (.ifCond .ne 23, 7, 27, 0, 0, 0), none, none, some (.aload_n 0, 8, 0, 0, 0, 0), some (.iconst 1, 9, 0, 0, 0, 0), some (.bipush 8, 11, 0, 0, 0, 0), none, some (.aload_n 0, 12, 0, 0, 0, 0), some (.getfield 28, 15, 5, 0, 4, 0), none, none, some (.imul, 16, 0, 0, 0, 0)],
  [some (.iadd, 17, 0, 0, 0, 0), some (.iload_n 1, 18, 1, 0, 0, 0), some (.iadd, 19, 0, 0, 0, 0), some (.putfield 18, 22, 2, 0, 4, 0), none, none, some (.aload_n 0, 23, 0, 0, 0, 0), some (.iconst 4, 24, 0, 0, 0, 0), some (.putfield 11, 27, 0, 0, 4, 0), none, none, some (.return_, 28, 0, 0, 0, 0)]]
def zt23 : ZT := [[some (.aload_n 0, 1, 0, 0, 0, 0), some (.getfield 11, 4, 0, 0, 4, 0), none, none, some (.iconst 1, 5, 0, 0, 0, 0), some (.if_icmp .eq 10, 8, 15, 0, 0, 0), none, none, some (.aload_n 0, 9, 0, 0, 0, 0), some (.iconst 0, 10, 0, 0, 0, 0), some (.invokevirtual 60, 13, 22, 2, 0, 0), none, none, some (.iconst 0, 14, 0, 0, 0, 0), some (.ireturn, 15, 0, 0, 1, 0), some (.aload_n 0, 16, 0, 0, 0, 0)],
  [some (.getfield 15, 19, 1, 0, 4, 0), none, none, some (.istore 4, 21, 4, 0, 0, 0), none, some (.aload_n 0, 22, 0, 0, 0, 0), some (.invokevirtual 64, 25, 24, 1, 0, 0), none, none, some (.ifCond .ne 19, 28, 44, 0, 0, 0), none, none, some (.iload 4, 30, 4, 0, 0, 0), none, some (.iload_n 1, 31, 1, 0, 0, 0), some (.if_icmp .lt 13, 34, 44, 0, 0, 0)],
  [none, none, some (.iload 4, 36, 4, 0, 0, 0), none, some (.iload_n 2, 37, 2, 0, 0, 0), some (.if_icmp .gt 7, 40, 44, 0, 0, 0), none, none, some (.iconst 1, 41, 0, 0, 0, 0), some (.goto 4, 45, 0, 0, 0, 0), none, none, some (.iconst 0, 45, 0, 0, 0, 0), some (.istore 5, 47, 5, 0, 0, 0), none, some (.iload 5, 49, 5, 0, 0, 0)],
  [none, some (.ifCond .eq 20, 52, 69, 0, 0, 0), none, none, some (.iload 4, 54, 4, 0, 0, 0), none, some (.bipush 32, 56, 0, 0, 0, 0), none, some (.if_icmp .ge 20, 59, 76, 0, 0, 0), none, none, some (.iload_n 3, 60, 3, 0, 0, 0), some (.iload 4, 62, 4, 0, 0, 0), none, some (.ishr, 63, 0, 0, 0, 0), some (.iconst 1, 64, 0, 0, 0, 0)],
  [some (.iand, 65, 0, 0, 0, 0), some (.iconst 1, 66, 0, 0, 0, 0), some (.if_icmp .ne 10, 69, 76, 0, 0, 0), none, none, some (.aload_n 0, 70, 0, 0, 0, 0), some (.iconst 1, 71, 0, 0, 0, 0), some (.invokevirtual 60, 74, 22, 2, 0, 0), none, none, some (.iconst 0, 75, 0, 0, 0, 0), some (.ireturn, 76, 0, 0, 1, 0), some (.aload_n 0, 77, 0, 0, 0, 0), some (.invokevirtual 49, 80, 18, 1, 0, 0), none, none],
  [some (.iload 4, 82, 4, 0, 0, 0), none, some (.ireturn, 83, 0, 0, 1, 0)]]
def zt24 : ZT := [[some (.aload_n 0, 1, 0, 0, 0, 0), some (.getfield 31, 4, 6, 0, 4, 0), none, none, some (.aload_n 0, 5, 0, 0, 0, 0), some (.getfield 28, 8, 5, 0, 4, 0), none, none, some (.isub, 9, 0, 0, 0, 0), some (.iconst 5, 10, 0, 0, 0, 0), some (.if_icmp .le 7, 13, 17, 0, 0, 0), none, none, some (.iconst 1, 14, 0, 0, 0, 0), some (.goto 4, 18, 0, 0, 0, 0), none],
  [none, some (.iconst 0, 18, 0, 0, 0, 0), some (.ireturn, 19, 0, 0, 2, 0)]]
def zt25 : ZT := [[some (.aload_n 0, 1, 0, 0, 0, 0), some (.getfield 12, 4, 0, 2, 9, 0), none, none, some (.iconst 0, 5, 0, 0, 0, 0), some (.aload_n 1, 6, 1, 0, 0, 0), some (.getfield 62, 9, 0, 0, 3, 0), none, none, some (.iconst 1, 10, 0, 0, 0, 0), some (.isub, 11, 0, 0, 0, 0), some (.aload_n 1, 12, 1, 0, 0, 0), some (.invokevirtual 75, 15, 26, 1, 0, 0), none, none, some (.invokevirtual 58, 18, 23, 4, 0, 0)],
  [none, none, some (.istore_n 2, 19, 2, 0, 0, 0), some (.aload_n 0, 20, 0, 0, 0, 0), some (.getfield 12, 23, 0, 2, 9, 0), none, none, some (.iconst 1, 24, 0, 0, 0, 0), some (.bipush 20, 26, 0, 0, 0, 0), none, some (.iconst 0, 27, 0, 0, 0, 0), some (.invokevirtual 58, 30, 23, 4, 0, 0), none, none, some (.istore_n 3, 31, 3, 0, 0, 0), some (.aload_n 0, 32, 0, 0, 0, 0)],
  [some (.getfield 12, 35, 0, 2, 9, 0), none, none, some (.getfield 37, 38, 2, 0, 4, 0), none, none, some (.ifCond .ne 33, 41, 71, 0, 0, 0), none, none, some (.aload_n 1, 42, 1, 0, 0, 0), some (.getfield 79, 45, 3, 2, 3, 0), none, none, some (.aload_n 1, 46, 1, 0, 0, 0), some (.getfield 49, 49, 1, 0, 3, 0), none],
  [none, some (.iload_n 2, 50, 2, 0, 0, 0), some (.iastore, 51, 0, 0, 0, 0), some (.aload_n 1, 52, 1, 0, 0, 0), some (.getfield 83, 55, 4, 2, 3, 0), none, none, some (.aload_n 1, 56, 1, 0, 0, 0), some (.getfield 49, 59, 1, 0, 3, 0), none, none, some (.iload_n 3, 60, 3, 0, 0, 0), some (.iastore, 61, 0, 0, 0, 0), some (.aload_n 1, 62, 1, 0, 0, 0), some (.dup, 63, 0, 0, 0, 0), some (.getfield 49, 66, 1, 0, 3, 0)],
  [none, none, some (.iconst 1, 67, 0, 0, 0, 0), some (.iadd, 68, 0, 0, 0, 0), some (.putfield 49, 71, 1, 0, 3, 0), none, none, some (.return_, 72, 0, 0, 0, 0)]]
def zt26 : ZT := [[some (.iconst 0, 1, 0, 0, 0, 0), some (.istore_n 1, 2, 1, 0, 0, 0), some (.iconst 0, 3, 0, 0, 0, 0), some (.istore_n 2, 4, 2, 0, 0, 0), some (.iload_n 2, 5, 2, 0, 0, 0), some (.aload_n 0, 6, 0, 0, 0, 0), some (.getfield 15, 9, 1, 0, 3, 0), none, none, some (.if_icmp .ge 20, 12, 29, 0, 0, 0), none, none, some (.iload_n 1, 13, 1, 0, 0, 0), some (.iconst 1, 14, 0, 0, 0, 0), some (.aload_n 0, 15, 0, 0, 0, 0), some (.getfield 21, 18, 3, 2, 3, 0)],
  [none, none, some (.iload_n 2, 19, 2, 0, 0, 0), some (.iaload, 20, 0, 0, 0, 0), some (.ishl, 21, 0, 0, 0, 0), some (.ior, 22, 0, 0, 0, 0), some (.istore_n 1, 23, 1, 0, 0, 0), some (.iinc 2 1, 26, 2, 0, 0, 0), none, none, some (.goto (-22), 4, 0, 0, 0, 0), none, none, some (.iload_n 1, 30, 1, 0, 0, 0), some (.ireturn, 31, 0, 0, 1, 0)]]
def zt27 : ZT := [[some (.aload_n 1, 1, 1, 0, 0, 0), some (.getfield 86, 4, 5, 2, 3, 0), none, none, some (.astore_n 2, 5, 2, 0, 0, 0), some (.aload_n 0, 6, 0, 0, 0, 0), some (.getfield 12, 9, 0, 2, 9, 0), none, none, some (.iconst 0, 10, 0, 0, 0, 0), some (.aload_n 1, 11, 1, 0, 0, 0), some (.getfield 62, 14, 0, 0, 3, 0), none, none, some (.iconst 1, 15, 0, 0, 0, 0), some (.isub, 16, 0, 0, 0, 0)],
  [some (.aload_n 2, 17, 2, 0, 0, 0), some (.getfield 90, 20, 5, 0, 5, 0), none, none, some (.aload_n 2, 21, 2, 0, 0, 0), some (.getfield 95, 24, 6, 0, 5, 0), none, none, some (.ior, 25, 0, 0, 0, 0), some (.invokevirtual 58, 28, 23, 4, 0, 0), none, none, some (.istore_n 3, 29, 3, 0, 0, 0), some (.aload_n 0, 30, 0, 0, 0, 0), some (.getfield 12, 33, 0, 2, 9, 0), none],
  [none, some (.iconst 0, 34, 0, 0, 0, 0), some (.aload_n 1, 35, 1, 0, 0, 0), some (.getfield 49, 38, 1, 0, 3, 0), none, none, some (.iconst 1, 39, 0, 0, 0, 0), some (.isub, 40, 0, 0, 0, 0), some (.iconst 0, 41, 0, 0, 0, 0), some (.invokevirtual 58, 44, 23, 4, 0, 0), none, none, some (.istore 4, 46, 4, 0, 0, 0), none, some (.aload_n 0, 47, 0, 0, 0, 0), some (.getfield 12, 50, 0, 2, 9, 0)],
  [none, none, some (.iconst 0, 51, 0, 0, 0, 0), some (.bipush 60, 53, 0, 0, 0, 0), none, some (.iconst 0, 54, 0, 0, 0, 0), some (.invokevirtual 58, 57, 23, 4, 0, 0), none, none, some (.istore 5, 59, 5, 0, 0, 0), none, some (.aload_n 0, 60, 0, 0, 0, 0), some (.getfield 12, 63, 0, 2, 9, 0), none, none, some (.getfield 37, 66, 2, 0, 4, 0)],
  [none, none, some (.ifCond .ne 26, 69, 92, 0, 0, 0), none, none, some (.aload_n 2, 70, 2, 0, 0, 0), some (.aload_n 1, 71, 1, 0, 0, 0), some (.getfield 52, 74, 2, 0, 3, 0), none, none, some (.iload_n 3, 75, 3, 0, 0, 0), some (.iload 4, 77, 4, 0, 0, 0), none, some (.iload 5, 79, 5, 0, 0, 0), none, some (.invokevirtual 98, 82, 28, 5, 0, 0)],
  [none, none, some (.aload_n 1, 83, 1, 0, 0, 0), some (.dup, 84, 0, 0, 0, 0), some (.getfield 52, 87, 2, 0, 3, 0), none, none, some (.iconst 1, 88, 0, 0, 0, 0), some (.iadd, 89, 0, 0, 0, 0), some (.putfield 52, 92, 2, 0, 3, 0), none, none, some (.return_, 93, 0, 0, 0, 0)]]
def zt28 : ZT := [[some (.aload_n 0, 1, 0, 0, 0, 0), some (.getfield 9, 4, 0, 2, 5, 0), none, none, some (.iload_n 1, 5, 1, 0, 0, 0), some (.iload_n 2, 6, 2, 0, 0, 0), some (.iastore, 7, 0, 0, 0, 0), some (.aload_n 0, 8, 0, 0, 0, 0), some (.getfield 15, 11, 1, 2, 5, 0), none, none, some (.iload_n 1, 12, 1, 0, 0, 0), some (.iload_n 3, 13, 3, 0, 0, 0), some (.iastore, 14, 0, 0, 0, 0), some (.aload_n 0, 15, 0, 0, 0, 0), some (.getfield 18, 18, 2, 2, 5, 0)],
  [none, none, some (.iload_n 1, 19, 1, 0, 0, 0), some (.iload 4, 21, 4, 0, 0, 0), none, some (.iastore, 22, 0, 0, 0, 0), some (.aload_n 0, 23, 0, 0, 0, 0), some (.dup, 24, 0, 0, 0, 0), some (.getfield 27, 27, 5, 0, 5, 0), none, none, some (.iconst 1, 28, 0, 0, 0, 0), some (.iload_n 2, 29, 2, 0, 0, 0), some (.ishl, 30, 0, 0, 0, 0), some (.ior, 31, 0, 0, 0, 0), some (.putfield 27, 34, 5, 0, 5, 0)],
  [none, none, some (.return_, 35, 0, 0, 0, 0)]]
def zt29 : ZT := [[some (.aload_n 0, 1, 0, 0, 0, 0), some (.getfield 12, 4, 0, 2, 9, 0), none, none, some (.iconst 0, 5, 0, 0, 0, 0), some (.aload_n 1, 6, 1, 0, 0, 0), some (.getfield 62, 9, 0, 0, 3, 0), none, none, some (.iconst 1, 10, 0, 0, 0, 0), some (.isub, 11, 0, 0, 0, 0), some (.aload_n 1, 12, 1, 0, 0, 0), some (.getfield 86, 15, 5, 2, 3, 0), none, none, some (.getfield 90, 18, 5, 0, 5, 0)],
  [none, none, some (.invokevirtual 58, 21, 23, 4, 0, 0), none, none, some (.istore_n 2, 22, 2, 0, 0, 0), some (.aload_n 0, 23, 0, 0, 0, 0), some (.getfield 12, 26, 0, 2, 9, 0), none, none, some (.getfield 37, 29, 2, 0, 4, 0), none, none, some (.ifCond .ne 18, 32, 47, 0, 0, 0), none, none],
  [some (.aload_n 1, 33, 1, 0, 0, 0), some (.getfield 86, 36, 5, 2, 3, 0), none, none, some (.dup, 37, 0, 0, 0, 0), some (.getfield 95, 40, 6, 0, 5, 0), none, none, some (.iconst 1, 41, 0, 0, 0, 0), some (.iload_n 2, 42, 2, 0, 0, 0), some (.ishl, 43, 0, 0, 0, 0), some (.ior, 44, 0, 0, 0, 0), some (.putfield 95, 47, 6, 0, 5, 0), none, none, some (.return_, 48, 0, 0, 0, 0)]]
def zt30 : ZT := [[some (.aload_n 0, 1, 0, 0, 0, 0), some (.iload_n 1, 2, 1, 0, 0, 0), some (.invokevirtual 56, 5, 31, 2, 0, 0), none, none, some (.ifCond .ne 8, 8, 13, 0, 0, 0), none, none, some (.aload_n 0, 9, 0, 0, 0, 0), some (.iconst 0, 10, 0, 0, 0, 0), some (.invokevirtual 60, 13, 22, 2, 0, 0), none, none, some (.aload_n 0, 14, 0, 0, 0, 0), some (.invokevirtual 49, 17, 18, 1, 0, 0), none],
  [none, some (.return_, 18, 0, 0, 0, 0)]]
def zt31 : ZT := [[some (.aload_n 0, 1, 0, 0, 0, 0), some (.getfield 11, 4, 0, 0, 4, 0), none, none, some (.iconst 3, 5, 0, 0, 0, 0), some (.if_icmp .ne 15, 8, 20, 0, 0, 0), none, none, some (.aload_n 0, 9, 0, 0, 0, 0), some (.getfield 15, 12, 1, 0, 4, 0), none, none, some (.iload_n 1, 13, 1, 0, 0, 0), some (.if_icmp .ne 7, 16, 20, 0, 0, 0), none, none],
  [some (.iconst 1, 17, 0, 0, 0, 0), some (.goto 4, 21, 0, 0, 0, 0), none, none, some (.iconst 0, 21, 0, 0, 0, 0), some (.ireturn, 22, 0, 0, 2, 0)]]
def zt32 : ZT := [[some (.iconst 0, 1, 0, 0, 0, 0), some (.istore_n 2, 2, 2, 0, 0, 0), some (.iload_n 2, 3, 2, 0, 0, 0), some (.bipush 6, 5, 0, 0, 0, 0), none, some (.if_icmp .ge 57, 8, 62, 0, 0, 0), none, none, some (.aload_n 0, 9, 0, 0, 0, 0), some (.getfield 9, 12, 0, 2, 5, 0), none, none, some (.iload_n 2, 13, 2, 0, 0, 0), some (.aload_n 1, 14, 1, 0, 0, 0), some (.getfield 9, 17, 0, 2, 5, 0), none],
  [none, some (.iload_n 2, 18, 2, 0, 0, 0), some (.iaload, 19, 0, 0, 0, 0), some (.iastore, 20, 0, 0, 0, 0), some (.aload_n 0, 21, 0, 0, 0, 0), some (.getfield 15, 24, 1, 2, 5, 0), none, none, some (.iload_n 2, 25, 2, 0, 0, 0), some (.aload_n 1, 26, 1, 0, 0, 0), some (.getfield 15, 29, 1, 2, 5, 0), none, none, some (.iload_n 2, 30, 2, 0, 0, 0), some (.iaload, 31, 0, 0, 0, 0), some (.iastore, 32, 0, 0, 0, 0)],
  [some (.aload_n 0, 33, 0, 0, 0, 0), some (.getfield 18, 36, 2, 2, 5, 0), none, none, some (.iload_n 2, 37, 2, 0, 0, 0), some (.aload_n 1, 38, 1, 0, 0, 0), some (.getfield 18, 41, 2, 2, 5, 0), none, none, some (.iload_n 2, 42, 2, 0, 0, 0), some (.iaload, 43, 0, 0, 0, 0), some (.iastore, 44, 0, 0, 0, 0), some (.aload_n 0, 45, 0, 0, 0, 0), some (.getfield 21, 48, 3, 2, 5, 0), none, none],
  [some (.iload_n 2, 49, 2, 0, 0, 0), some (.aload_n 1, 50, 1, 0, 0, 0), some (.getfield 21, 53, 3, 2, 5, 0), none, none, some (.iload_n 2, 54, 2, 0, 0, 0), some (.iaload, 55, 0, 0, 0, 0), some (.iastore, 56, 0, 0, 0, 0), some (.iinc 2 1, 59, 2, 0, 0, 0), none, none, some (.goto (-57), 2, 0, 0, 0, 0), none, none, some (.iconst 0, 63, 0, 0, 0, 0), some (.istore_n 2, 64, 2, 0, 0, 0)],
  [some (.iload_n 2, 65, 2, 0, 0, 0), some (.iconst 5, 66, 0, 0, 0, 0), some (.if_icmp .ge 21, 69, 87, 0, 0, 0), none, none, some (.aload_n 0, 70, 0, 0, 0, 0), some (.getfield 24, 73, 4, 2, 5, 0), none, none, some (.iload_n 2, 74, 2, 0, 0, 0), some (.aload_n 1, 75, 1, 0, 0, 0), some (.getfield 24, 78, 4, 2, 5, 0), none, none, some (.iload_n 2, 79, 2, 0, 0, 0), some (.iaload, 80, 0, 0, 0, 0)],
  [some (.iastore, 81, 0, 0, 0, 0), some (.iinc 2 1, 84, 2, 0, 0, 0), none, none, some (.goto (-20), 64, 0, 0, 0, 0), none, none, some (.aload_n 0, 88, 0, 0, 0, 0), some (.aload_n 1, 89, 1, 0, 0, 0), some (.getfield 27, 92, 5, 0, 5, 0), none, none, some (.putfield 27, 95, 5, 0, 5, 0), none, none, some (.aload_n 0, 96, 0, 0, 0, 0)],
  [some (.aload_n 1, 97, 1, 0, 0, 0), some (.getfield 31, 100, 6, 0, 5, 0), none, none, some (.putfield 31, 103, 6, 0, 5, 0), none, none, some (.aload_n 0, 104, 0, 0, 0, 0), some (.aload_n 1, 105, 1, 0, 0, 0), some (.getfield 34, 108, 7, 0, 5, 0), none, none, some (.putfield 34, 111, 7, 0, 5, 0), none, none, some (.aload_n 0, 112, 0, 0, 0, 0)],
  [some (.aload_n 1, 113, 1, 0, 0, 0), some (.getfield 37, 116, 8, 0, 5, 0), none, none, some (.putfield 37, 119, 8, 0, 5, 0), none, none, some (.return_, 120, 0, 0, 0, 0)]]
def zt33 : ZT := [[some (.aload_n 0, 1, 0, 0, 0, 0), some (.getfield 23, 4, 3, 0, 10, 0), none, none, some (.bipush 6, 6, 0, 0, 0, 0), none, some (.if_icmp .lt 5, 9, 11, 0, 0, 0), none, none, some (.iconst (-1), 10, 0, 0, 0, 0), some (.ireturn, 11, 0, 0, 1, 0), some (.aload_n 0, 12, 0, 0, 0, 0), some (.getfield 76, 15, 14, 2, 10, 0), none, none, some (.aload_n 0, 16, 0, 0, 0, 0)],
  [some (.getfield 9, 19, 0, 2, 10, 0), none, none, some (.aload_n 0, 20, 0, 0, 0, 0), some (.getfield 13, 23, 1, 0, 10, 0), none, none, some (.invokevirtual 138, 26, 34, 3, 0, 0), none, none, some (.astore_n 1, 27, 1, 0, 0, 0), some (.aload_n 0, 28, 0, 0, 0, 0), some (.iconst 0, 29, 0, 0, 0, 0), some (.putfield 13, 32, 1, 0, 10, 0), none, none],
  [some (.aload_n 1, 33, 1, 0, 0, 0), some (.ifnonnull 17, 36, 50, 0, 0, 0), none, none, some (.bipush (-2), 38, 0, 0, 0, 0), none, some (.aload_n 0, 39, 0, 0, 0, 0), some (.getfield 76, 42, 14, 2, 10, 0), none, none, some (.getfield 141, 45, 0, 2, 8, 0), none, none, some (.getfield 118, 48, 2, 0, 4, 0), none, none],
  [some (.isub, 49, 0, 0, 0, 0), some (.ireturn, 50, 0, 0, 1, 0), some (.aload_n 0, 51, 0, 0, 0, 0), some (.getfield 19, 54, 2, 2, 10, 0), none, none, some (.aload_n 0, 55, 0, 0, 0, 0), some (.getfield 23, 58, 3, 0, 10, 0), none, none, some (.aload_n 1, 59, 1, 0, 0, 0), some (.aastore, 60, 117, 0, 0, 0), some (.aload_n 0, 61, 0, 0, 0, 0), some (.dup, 62, 0, 0, 0, 0), some (.getfield 23, 65, 3, 0, 10, 0), none],
  [none, some (.iconst 1, 66, 0, 0, 0, 0), some (.iadd, 67, 0, 0, 0, 0), some (.putfield 23, 70, 3, 0, 10, 0), none, none, some (.aload_n 0, 71, 0, 0, 0, 0), some (.getfield 23, 74, 3, 0, 10, 0), none, none, some (.iconst 1, 75, 0, 0, 0, 0), some (.isub, 76, 0, 0, 0, 0), some (.ireturn, 77, 0, 0, 1, 0)]]
def zt34 : ZT := [[some (.aload_n 0, 1, 0, 0, 0, 0), some (.getfield 14, 4, 0, 2, 8, 0), none, none, some (.aload_n 1, 5, 1, 0, 0, 0), some (.iload_n 2, 6, 2, 0, 0, 0), some (.invokevirtual 29, 9, 15, 3, 0, 0), none, none, some (.aload_n 0, 10, 0, 0, 0, 0), some (.iconst 0, 11, 0, 0, 0, 0), some (.putfield 22, 14, 2, 0, 8, 0), none, none, some (.aload_n 0, 15, 0, 0, 0, 0), some (.iconst 0, 16, 0, 0, 0, 0)],
  [some (.putfield 26, 19, 3, 0, 8, 0), none, none, some (.iconst 0, 20, 0, 0, 0, 0), some (.istore_n 3, 21, 3, 0, 0, 0), some (.iload_n 3, 22, 3, 0, 0, 0), some (.bipush 12, 24, 0, 0, 0, 0), none, some (.if_icmp .gt 107, 27, 131, 0, 0, 0), none, none, some (.aload_n 0, 28, 0, 0, 0, 0), some (.iload_n 3, 29, 3, 0, 0, 0), some (.invokevirtual 33, 32, 35, 2, 0, 0), none, none],
  [some (.aload_n 0, 33, 0, 0, 0, 0), some (.invokevirtual 37, 36, 36, 1, 0, 0), none, none, some (.aload_n 0, 37, 0, 0, 0, 0), some (.getfield 14, 40, 0, 2, 8, 0), none, none, some (.ldc 40, 42, 10000004, 2, 0, 0), none, some (.invokevirtual 42, 45, 21, 2, 0, 0), none, none, some (.ifCond .ne 24, 48, 69, 0, 0, 0), none, none],
  [some (.aload_n 0, 49, 0, 0, 0, 0), some (.getfield 14, 52, 0, 2, 8, 0), none, none, some (.invokevirtual 46, 55, 18, 1, 0, 0), none, none, some (.aload_n 0, 56, 0, 0, 0, 0), some (.iconst 0, 57, 0, 0, 0, 0), some (.invokevirtual 49, 60, 41, 2, 0, 0), none, none, some (.aload_n 0, 61, 0, 0, 0, 0), some (.bipush 63, 63, 0, 0, 0, 0), none, some (.invokevirtual 52, 66, 40, 2, 0, 0)],
  [none, none, some (.goto 9, 75, 0, 0, 0, 0), none, none, some (.aload_n 0, 70, 0, 0, 0, 0), some (.bipush 59, 72, 0, 0, 0, 0), none, some (.invokevirtual 52, 75, 40, 2, 0, 0), none, none, some (.aload_n 0, 76, 0, 0, 0, 0), some (.getfield 14, 79, 0, 2, 8, 0), none, none, some (.getfield 55, 82, 0, 0, 4, 0)],
  [none, none, some (.ifCond .ne 22, 85, 104, 0, 0, 0), none, none, some (.new 58, 88, 7, 1, 0, 0), none, none, some (.dup, 89, 0, 0, 0, 0), some (.aload_n 0, 90, 0, 0, 0, 0), some (.getfield 18, 93, 1, 2, 8, 0), none, none, some (.aload_n 0, 94, 0, 0, 0, 0), some (.getfield 22, 97, 2, 0, 8, 0), none],
  [none, some (.invokestatic 60, 100, 44, 2, 0, 0), none, none, some (.invokespecial 66, 103, 45, 2, 0, 0), none, none, some (.areturn, 104, 0, 0, 4, 0), some (.aload_n 0, 105, 0, 0, 0, 0), some (.getfield 14, 108, 0, 2, 8, 0), none, none, some (.bipush 59, 110, 0, 0, 0, 0), none, some (.invokevirtual 69, 113, 30, 2, 0, 0), none],
  [none, some (.aload_n 0, 114, 0, 0, 0, 0), some (.getfield 14, 117, 0, 2, 8, 0), none, none, some (.getfield 72, 120, 2, 0, 4, 0), none, none, some (.ifCond .eq 5, 123, 125, 0, 0, 0), none, none, some (.aconst_null, 124, 0, 0, 0, 0), some (.areturn, 125, 0, 0, 4, 0), some (.iinc 3 1, 128, 3, 0, 0, 0), none, none],
  [some (.goto (-107), 21, 0, 0, 0, 0), none, none, some (.aconst_null, 132, 0, 0, 0, 0), some (.areturn, 133, 0, 0, 4, 0)]]
def zt35 : ZT := [[some (.aload_n 0, 1, 0, 0, 0, 0), some (.getfield 14, 4, 0, 2, 8, 0), none, none, some (.ldc 82, 6, 10000003, 2, 0, 0), none, some (.invokevirtual 42, 9, 21, 2, 0, 0), none, none, some (.ifCond .eq 14, 12, 23, 0, 0, 0), none, none, some (.aload_n 0, 13, 0, 0, 0, 0), some (.getfield 14, 16, 0, 2, 8, 0), none, none],
  [some (.iconst 0, 17, 0, 0, 0, 0), some (.invokevirtual 79, 20, 22, 2, 0, 0), none, none, some (.goto 17, 37, 0, 0, 0, 0), none, none, some (.iload_n 1, 24, 1, 0, 0, 0), some (.bipush 12, 26, 0, 0, 0, 0), none, some (.if_icmp .lt 11, 29, 37, 0, 0, 0), none, none, some (.aload_n 0, 30, 0, 0, 0, 0), some (.getfield 14, 33, 0, 2, 8, 0), none],
  [none, some (.iconst 4, 34, 0, 0, 0, 0), some (.invokevirtual 79, 37, 22, 2, 0, 0), none, none, some (.aload_n 0, 38, 0, 0, 0, 0), some (.getfield 14, 41, 0, 2, 8, 0), none, none, some (.invokevirtual 46, 44, 18, 1, 0, 0), none, none, some (.return_, 45, 0, 0, 0, 0)]]
def zt36 : ZT := [[some (.iconst (-1), 1, 0, 0, 0, 0), some (.istore_n 1, 2, 1, 0, 0, 0), some (.aload_n 0, 3, 0, 0, 0, 0), some (.invokevirtual 105, 6, 37, 1, 0, 0), none, none, some (.iconst 0, 7, 0, 0, 0, 0), some (.istore_n 2, 8, 2, 0, 0, 0), some (.iload_n 2, 9, 2, 0, 0, 0), some (.sipush 400, 12, 0, 0, 0, 0), none, none, some (.if_icmp .ge 120, 15, 132, 0, 0, 0), none, none, some (.aload_n 0, 16, 0, 0, 0, 0)],
  [some (.getfield 14, 19, 0, 2, 8, 0), none, none, some (.getfield 55, 22, 0, 0, 4, 0), none, none, some (.iconst 3, 23, 0, 0, 0, 0), some (.if_icmp .ne 109, 26, 132, 0, 0, 0), none, none, some (.aload_n 0, 27, 0, 0, 0, 0), some (.getfield 14, 30, 0, 2, 8, 0), none, none, some (.getfield 99, 33, 1, 0, 4, 0), none],
  [none, some (.istore_n 3, 34, 3, 0, 0, 0), some (.iload_n 3, 35, 3, 0, 0, 0), some (.bipush 43, 37, 0, 0, 0, 0), none, some (.if_icmp .eq 9, 40, 46, 0, 0, 0), none, none, some (.iload_n 3, 41, 3, 0, 0, 0), some (.bipush 45, 43, 0, 0, 0, 0), none, some (.if_icmp .ne 7, 46, 50, 0, 0, 0), none, none, some (.iconst 1, 47, 0, 0, 0, 0), some (.goto 4, 51, 0, 0, 0, 0)],
  [none, none, some (.iconst 0, 51, 0, 0, 0, 0), some (.istore 4, 53, 4, 0, 0, 0), none, some (.iload 4, 55, 4, 0, 0, 0), none, some (.ifCond .ne 24, 58, 79, 0, 0, 0), none, none, some (.iload_n 3, 59, 3, 0, 0, 0), some (.bipush 42, 61, 0, 0, 0, 0), none, some (.if_icmp .eq 18, 64, 79, 0, 0, 0), none, none],
  [some (.iload_n 3, 65, 3, 0, 0, 0), some (.bipush 47, 67, 0, 0, 0, 0), none, some (.if_icmp .eq 12, 70, 79, 0, 0, 0), none, none, some (.iload_n 3, 71, 3, 0, 0, 0), some (.bipush 37, 73, 0, 0, 0, 0), none, some (.if_icmp .eq 6, 76, 79, 0, 0, 0), none, none, some (.goto 56, 132, 0, 0, 0, 0), none, none, some (.aload_n 0, 80, 0, 0, 0, 0)],
  [some (.getfield 14, 83, 0, 2, 8, 0), none, none, some (.invokevirtual 46, 86, 18, 1, 0, 0), none, none, some (.iload 4, 88, 4, 0, 0, 0), none, some (.ifCond .eq 13, 91, 101, 0, 0, 0), none, none, some (.iload_n 1, 92, 1, 0, 0, 0), some (.iconst (-1), 93, 0, 0, 0, 0), some (.if_icmp .eq 8, 96, 101, 0, 0, 0), none, none],
  [some (.aload_n 0, 97, 0, 0, 0, 0), some (.iload_n 1, 98, 1, 0, 0, 0), some (.invokevirtual 52, 101, 40, 2, 0, 0), none, none, some (.iload 4, 103, 4, 0, 0, 0), none, some (.ifCond .eq 7, 106, 110, 0, 0, 0), none, none, some (.iload_n 3, 107, 3, 0, 0, 0), some (.goto 4, 111, 0, 0, 0, 0), none, none, some (.iload_n 1, 111, 1, 0, 0, 0), some (.istore_n 1, 112, 1, 0, 0, 0)],
  [some (.aload_n 0, 113, 0, 0, 0, 0), some (.invokevirtual 105, 116, 37, 1, 0, 0), none, none, some (.iload 4, 118, 4, 0, 0, 0), none, some (.ifCond .ne 8, 121, 126, 0, 0, 0), none, none, some (.aload_n 0, 122, 0, 0, 0, 0), some (.iload_n 3, 123, 3, 0, 0, 0), some (.invokevirtual 52, 126, 40, 2, 0, 0), none, none, some (.iinc 2 1, 129, 2, 0, 0, 0), none],
  [none, some (.goto (-121), 8, 0, 0, 0, 0), none, none, some (.iload_n 1, 133, 1, 0, 0, 0), some (.iconst (-1), 134, 0, 0, 0, 0), some (.if_icmp .eq 8, 137, 142, 0, 0, 0), none, none, some (.aload_n 0, 138, 0, 0, 0, 0), some (.iload_n 1, 139, 1, 0, 0, 0), some (.invokevirtual 52, 142, 40, 2, 0, 0), none, none, some (.return_, 143, 0, 0, 0, 0)]]
def zt37 : ZT := [[some (.aload_n 0, 1, 0, 0, 0, 0), some (.getfield 14, 4, 0, 2, 8, 0), none, none, some (.ldc 108, 6, 10000005, 2, 0, 0), none, some (.invokevirtual 42, 9, 21, 2, 0, 0), none, none, some (.istore_n 1, 10, 1, 0, 0, 0), some (.iload_n 1, 11, 1, 0, 0, 0), some (.iconst (-1), 12, 0, 0, 0, 0), some (.if_icmp .ne 23, 15, 35, 0, 0, 0), none, none, some (.aload_n 0, 16, 0, 0, 0, 0)],
  [some (.getfield 14, 19, 0, 2, 8, 0), none, none, some (.getfield 55, 22, 0, 0, 4, 0), none, none, some (.iconst 1, 23, 0, 0, 0, 0), some (.if_icmp .eq 12, 26, 35, 0, 0, 0), none, none, some (.aload_n 0, 27, 0, 0, 0, 0), some (.getfield 14, 30, 0, 2, 8, 0), none, none, some (.iconst 0, 31, 0, 0, 0, 0), some (.invokevirtual 79, 34, 22, 2, 0, 0)],
  [none, none, some (.return_, 35, 0, 0, 0, 0), some (.iload_n 1, 36, 1, 0, 0, 0), some (.iconst (-1), 37, 0, 0, 0, 0), some (.if_icmp .ne 22, 40, 59, 0, 0, 0), none, none, some (.aload_n 0, 41, 0, 0, 0, 0), some (.getfield 14, 44, 0, 2, 8, 0), none, none, some (.invokevirtual 110, 47, 24, 1, 0, 0), none, none, some (.ifCond .eq 12, 50, 59, 0, 0, 0)],
  [none, none, some (.aload_n 0, 51, 0, 0, 0, 0), some (.getfield 14, 54, 0, 2, 8, 0), none, none, some (.iconst 1, 55, 0, 0, 0, 0), some (.invokevirtual 79, 58, 22, 2, 0, 0), none, none, some (.return_, 59, 0, 0, 0, 0), some (.aload_n 0, 60, 0, 0, 0, 0), some (.invokevirtual 102, 63, 38, 1, 0, 0), none, none, some (.aload_n 0, 64, 0, 0, 0, 0)],
  [some (.iload_n 1, 65, 1, 0, 0, 0), some (.iconst (-1), 66, 0, 0, 0, 0), some (.if_icmp .ne 13, 69, 79, 0, 0, 0), none, none, some (.aload_n 0, 70, 0, 0, 0, 0), some (.getfield 14, 73, 0, 2, 8, 0), none, none, some (.getfield 99, 76, 1, 0, 4, 0), none, none, some (.goto 7, 83, 0, 0, 0, 0), none, none, some (.ldc 114, 81, 0, 0, 0, 100000)],
  [none, some (.iload_n 1, 82, 1, 0, 0, 0), some (.iadd, 83, 0, 0, 0, 0), some (.invokevirtual 76, 86, 39, 2, 0, 0), none, none, some (.aload_n 0, 87, 0, 0, 0, 0), some (.getfield 14, 90, 0, 2, 8, 0), none, none, some (.invokevirtual 46, 93, 18, 1, 0, 0), none, none, some (.return_, 94, 0, 0, 0, 0)]]
def zt38 : ZT := [[some (.aload_n 0, 1, 0, 0, 0, 0), some (.getfield 26, 4, 3, 0, 8, 0), none, none, some (.bipush 60, 6, 0, 0, 0, 0), none, some (.if_icmp .lt 11, 9, 17, 0, 0, 0), none, none, some (.aload_n 0, 10, 0, 0, 0, 0), some (.getfield 14, 13, 0, 2, 8, 0), none, none, some (.iconst 3, 14, 0, 0, 0, 0), some (.invokevirtual 79, 17, 22, 2, 0, 0), none],
  [none, some (.aload_n 0, 18, 0, 0, 0, 0), some (.dup, 19, 0, 0, 0, 0), some (.getfield 26, 22, 3, 0, 8, 0), none, none, some (.iconst 1, 23, 0, 0, 0, 0), some (.iadd, 24, 0, 0, 0, 0), some (.putfield 26, 27, 3, 0, 8, 0), none, none, some (.return_, 28, 0, 0, 0, 0)]]
def zt39 : ZT := [[some (.aload_n 0, 1, 0, 0, 0, 0), some (.getfield 22, 4, 2, 0, 8, 0), none, none, some (.aload_n 0, 5, 0, 0, 0, 0), some (.getfield 18, 8, 1, 2, 8, 0), none, none, some (.arraylength, 9, 0, 0, 0, 0), some (.if_icmp .ge 23, 12, 32, 0, 0, 0), none, none, some (.aload_n 0, 13, 0, 0, 0, 0), some (.getfield 18, 16, 1, 2, 8, 0), none, none],
  [some (.aload_n 0, 17, 0, 0, 0, 0), some (.getfield 22, 20, 2, 0, 8, 0), none, none, some (.iload_n 1, 21, 1, 0, 0, 0), some (.iastore, 22, 0, 0, 0, 0), some (.aload_n 0, 23, 0, 0, 0, 0), some (.dup, 24, 0, 0, 0, 0), some (.getfield 22, 27, 2, 0, 8, 0), none, none, some (.iconst 1, 28, 0, 0, 0, 0), some (.iadd, 29, 0, 0, 0, 0), some (.putfield 22, 32, 2, 0, 8, 0), none, none],
  [some (.return_, 33, 0, 0, 0, 0)]]
def zt40 : ZT := [[some (.aload_n 0, 1, 0, 0, 0, 0), some (.ldc 75, 3, 0, 0, 0, 100010), none, some (.iload_n 1, 4, 1, 0, 0, 0), some (.iadd, 5, 0, 0, 0, 0), some (.invokevirtual 76, 8, 39, 2, 0, 0), none, none, some (.return_, 9, 0, 0, 0, 0)]]
def zt41 : ZT := [[some (.iconst 0, 1, 0, 0, 0, 0), some (.istore_n 2, 2, 2, 0, 0, 0), some (.aload_n 0, 3, 0, 0, 0, 0), some (.iload_n 1, 4, 1, 0, 0, 0), some (.invokevirtual 84, 7, 42, 2, 0, 0), none, none, some (.iconst 0, 8, 0, 0, 0, 0), some (.istore_n 3, 9, 3, 0, 0, 0), some (.iload_n 3, 10, 3, 0, 0, 0), some (.sipush 400, 13, 0, 0, 0, 0), none, none, some (.if_icmp .ge 84, 16, 97, 0, 0, 0), none, none],
  [some (.aload_n 0, 17, 0, 0, 0, 0), some (.getfield 14, 20, 0, 2, 8, 0), none, none, some (.ldc 87, 22, 10000002, 2, 0, 0), none, some (.invokevirtual 42, 25, 21, 2, 0, 0), none, none, some (.istore 4, 27, 4, 0, 0, 0), none, some (.iload 4, 29, 4, 0, 0, 0), none, some (.iconst (-1), 30, 0, 0, 0, 0), some (.if_icmp .ne 6, 33, 36, 0, 0, 0), none],
  [none, some (.goto 64, 97, 0, 0, 0, 0), none, none, some (.aload_n 0, 37, 0, 0, 0, 0), some (.getfield 14, 40, 0, 2, 8, 0), none, none, some (.invokevirtual 46, 43, 18, 1, 0, 0), none, none, some (.iload 4, 45, 4, 0, 0, 0), none, some (.iconst 1, 46, 0, 0, 0, 0), some (.if_icmp .ne 13, 49, 59, 0, 0, 0), none],
  [none, some (.iload_n 2, 50, 2, 0, 0, 0), some (.ifCond .eq 9, 53, 59, 0, 0, 0), none, none, some (.aload_n 0, 54, 0, 0, 0, 0), some (.bipush 124, 56, 0, 0, 0, 0), none, some (.invokevirtual 52, 59, 40, 2, 0, 0), none, none, some (.iload_n 2, 60, 2, 0, 0, 0), some (.ifCond .ne 9, 63, 69, 0, 0, 0), none, none, some (.iload 4, 65, 4, 0, 0, 0)],
  [none, some (.iconst 1, 66, 0, 0, 0, 0), some (.if_icmp .ne 7, 69, 73, 0, 0, 0), none, none, some (.iconst 1, 70, 0, 0, 0, 0), some (.goto 4, 74, 0, 0, 0, 0), none, none, some (.iconst 0, 74, 0, 0, 0, 0), some (.istore_n 2, 75, 2, 0, 0, 0), some (.aload_n 0, 76, 0, 0, 0, 0), some (.iload_n 1, 77, 1, 0, 0, 0), some (.invokevirtual 84, 80, 42, 2, 0, 0), none, none],
  [some (.iload 4, 82, 4, 0, 0, 0), none, some (.ifCond .ne 9, 85, 91, 0, 0, 0), none, none, some (.aload_n 0, 86, 0, 0, 0, 0), some (.bipush 38, 88, 0, 0, 0, 0), none, some (.invokevirtual 52, 91, 40, 2, 0, 0), none, none, some (.iinc 3 1, 94, 3, 0, 0, 0), none, none, some (.goto (-85), 9, 0, 0, 0, 0), none],
  [none, some (.iload_n 2, 98, 2, 0, 0, 0), some (.ifCond .eq 9, 101, 107, 0, 0, 0), none, none, some (.aload_n 0, 102, 0, 0, 0, 0), some (.bipush 124, 104, 0, 0, 0, 0), none, some (.invokevirtual 52, 107, 40, 2, 0, 0), none, none, some (.return_, 108, 0, 0, 0, 0)]]
def zt42 : ZT := [[some (.aload_n 0, 1, 0, 0, 0, 0), some (.getfield 14, 4, 0, 2, 8, 0), none, none, some (.ldc 89, 6, 10000001, 2, 0, 0), none, some (.invokevirtual 42, 9, 21, 2, 0, 0), none, none, some (.ifCond .ne 7, 12, 16, 0, 0, 0), none, none, some (.iconst 1, 13, 0, 0, 0, 0), some (.goto 4, 17, 0, 0, 0, 0), none, none],
  [some (.iconst 0, 17, 0, 0, 0, 0), some (.istore_n 2, 18, 2, 0, 0, 0), some (.iload_n 2, 19, 2, 0, 0, 0), some (.ifCond .ne 15, 22, 34, 0, 0, 0), none, none, some (.aload_n 0, 23, 0, 0, 0, 0), some (.getfield 14, 26, 0, 2, 8, 0), none, none, some (.bipush 91, 28, 0, 0, 0, 0), none, some (.invokevirtual 91, 31, 31, 2, 0, 0), none, none, some (.ifCond .eq 10, 34, 41, 0, 0, 0)],
  [none, none, some (.aload_n 0, 35, 0, 0, 0, 0), some (.iload_n 1, 36, 1, 0, 0, 0), some (.iload_n 2, 37, 2, 0, 0, 0), some (.invokevirtual 95, 40, 43, 3, 0, 0), none, none, some (.return_, 41, 0, 0, 0, 0), some (.aload_n 0, 42, 0, 0, 0, 0), some (.invokevirtual 37, 45, 36, 1, 0, 0), none, none, some (.aload_n 0, 46, 0, 0, 0, 0), some (.getfield 14, 49, 0, 2, 8, 0), none],
  [none, some (.getfield 99, 52, 1, 0, 4, 0), none, none, some (.istore_n 3, 53, 3, 0, 0, 0), some (.iload_n 3, 54, 3, 0, 0, 0), some (.bipush 60, 56, 0, 0, 0, 0), none, some (.if_icmp .eq 29, 59, 85, 0, 0, 0), none, none, some (.iload_n 3, 60, 3, 0, 0, 0), some (.bipush 61, 62, 0, 0, 0, 0), none, some (.if_icmp .eq 23, 65, 85, 0, 0, 0), none],
  [none, some (.iload_n 3, 66, 3, 0, 0, 0), some (.bipush 62, 68, 0, 0, 0, 0), none, some (.if_icmp .eq 17, 71, 85, 0, 0, 0), none, none, some (.iload_n 3, 72, 3, 0, 0, 0), some (.sipush 316, 75, 0, 0, 0, 0), none, none, some (.if_icmp .eq 10, 78, 85, 0, 0, 0), none, none, some (.iload_n 3, 79, 3, 0, 0, 0), some (.sipush 318, 82, 0, 0, 0, 0)],
  [none, none, some (.if_icmp .ne 7, 85, 89, 0, 0, 0), none, none, some (.iconst 1, 86, 0, 0, 0, 0), some (.goto 4, 90, 0, 0, 0, 0), none, none, some (.iconst 0, 90, 0, 0, 0, 0), some (.istore 4, 92, 4, 0, 0, 0), none, some (.aload_n 0, 93, 0, 0, 0, 0), some (.getfield 14, 96, 0, 2, 8, 0), none, none],
  [some (.getfield 55, 99, 0, 0, 4, 0), none, none, some (.iconst 3, 100, 0, 0, 0, 0), some (.if_icmp .ne 8, 103, 108, 0, 0, 0), none, none, some (.iload 4, 105, 4, 0, 0, 0), none, some (.ifCond .ne 12, 108, 117, 0, 0, 0), none, none, some (.aload_n 0, 109, 0, 0, 0, 0), some (.getfield 14, 112, 0, 2, 8, 0), none, none],
  [some (.iconst 0, 113, 0, 0, 0, 0), some (.invokevirtual 79, 116, 22, 2, 0, 0), none, none, some (.return_, 117, 0, 0, 0, 0), some (.aload_n 0, 118, 0, 0, 0, 0), some (.invokevirtual 102, 121, 38, 1, 0, 0), none, none, some (.aload_n 0, 122, 0, 0, 0, 0), some (.getfield 14, 125, 0, 2, 8, 0), none, none, some (.invokevirtual 46, 128, 18, 1, 0, 0), none, none],
  [some (.aload_n 0, 129, 0, 0, 0, 0), some (.invokevirtual 37, 132, 36, 1, 0, 0), none, none, some (.aload_n 0, 133, 0, 0, 0, 0), some (.iload_n 3, 134, 3, 0, 0, 0), some (.invokevirtual 52, 137, 40, 2, 0, 0), none, none, some (.return_, 138, 0, 0, 0, 0)]]
def zt43 : ZT := [[some (.iload_n 1, 1, 1, 0, 0, 0), some (.bipush 10, 3, 0, 0, 0, 0), none, some (.if_icmp .lt 12, 6, 15, 0, 0, 0), none, none, some (.aload_n 0, 7, 0, 0, 0, 0), some (.getfield 14, 10, 0, 2, 8, 0), none, none, some (.iconst 2, 11, 0, 0, 0, 0), some (.invokevirtual 79, 14, 22, 2, 0, 0), none, none, some (.return_, 15, 0, 0, 0, 0), some (.aload_n 0, 16, 0, 0, 0, 0)],
  [some (.getfield 14, 19, 0, 2, 8, 0), none, none, some (.invokevirtual 46, 22, 18, 1, 0, 0), none, none, some (.iload_n 2, 23, 2, 0, 0, 0), some (.ifCond .eq 19, 26, 42, 0, 0, 0), none, none, some (.aload_n 0, 27, 0, 0, 0, 0), some (.iload_n 1, 28, 1, 0, 0, 0), some (.iconst 1, 29, 0, 0, 0, 0), some (.iadd, 30, 0, 0, 0, 0), some (.invokevirtual 84, 33, 42, 2, 0, 0), none],
  [none, some (.aload_n 0, 34, 0, 0, 0, 0), some (.bipush 33, 36, 0, 0, 0, 0), none, some (.invokevirtual 52, 39, 40, 2, 0, 0), none, none, some (.goto 19, 58, 0, 0, 0, 0), none, none, some (.aload_n 0, 43, 0, 0, 0, 0), some (.iload_n 1, 44, 1, 0, 0, 0), some (.iconst 1, 45, 0, 0, 0, 0), some (.iadd, 46, 0, 0, 0, 0), some (.invokevirtual 49, 49, 41, 2, 0, 0), none],
  [none, some (.aload_n 0, 50, 0, 0, 0, 0), some (.getfield 14, 53, 0, 2, 8, 0), none, none, some (.bipush 93, 55, 0, 0, 0, 0), none, some (.invokevirtual 69, 58, 30, 2, 0, 0), none, none, some (.return_, 59, 0, 0, 0, 0)]]
def zt44 : ZT := [[some (.iload_n 1, 1, 1, 0, 0, 0), some (.aload_n 0, 2, 0, 0, 0, 0), some (.arraylength, 3, 0, 0, 0, 0), some (.if_icmp .ne 11, 6, 14, 0, 0, 0), none, none, some (.aload_n 0, 7, 0, 0, 0, 0), some (.invokevirtual 316, 10, 1004, 0, 0, 0), none, none, some (.checkcast 317, 13, 0, 0, 0, 0), none, none, some (.areturn, 14, 0, 0, 4, 0), some (.iload_n 1, 15, 1, 0, 0, 0), some (.newarray .int, 17, 100, 0, 0, 0)],
  [none, some (.astore_n 2, 18, 2, 0, 0, 0), some (.aload_n 0, 19, 0, 0, 0, 0), some (.iconst 0, 20, 0, 0, 0, 0), some (.aload_n 2, 21, 2, 0, 0, 0), some (.iconst 0, 22, 0, 0, 0, 0), some (.aload_n 0, 23, 0, 0, 0, 0), some (.arraylength, 24, 0, 0, 0, 0), some (.iload_n 1, 25, 1, 0, 0, 0), some (.invokestatic 304, 28, 16, 2, 0, 0), none, none, some (.invokestatic 150, 31, 1003, 0, 0, 0), none, none, some (.aload_n 2, 32, 2, 0, 0, 0)],
  [some (.areturn, 33, 0, 0, 4, 0)]]
def zt45 : ZT := [[some (.aload_n 0, 1, 0, 0, 0, 0), some (.invokespecial 1, 4, 1000, 0, 0, 0), none, none, some (.aload_n 0, 5, 0, 0, 0, 0), some (.aload_n 1, 6, 1, 0, 0, 0), some (.putfield 7, 9, 0, 2, 7, 0), none, none, some (.return_, 10, 0, 0, 0, 0)]]
def zt46 : ZT := [[some (.iload_n 1, 1, 1, 0, 0, 0), some (.iconst (-1), 2, 0, 0, 0, 0), some (.if_icmp .lt 11, 5, 13, 0, 0, 0), none, none, some (.iload_n 1, 6, 1, 0, 0, 0), some (.aload_n 0, 7, 0, 0, 0, 0), some (.getfield 23, 10, 3, 0, 10, 0), none, none, some (.if_icmp .lt 6, 13, 16, 0, 0, 0), none, none, some (.bipush (-2), 15, 0, 0, 0, 0), none, some (.ireturn, 16, 0, 0, 1, 0)],
  [some (.aload_n 0, 17, 0, 0, 0, 0), some (.getfield 37, 20, 6, 0, 10, 0), none, none, some (.istore_n 2, 21, 2, 0, 0, 0), some (.aload_n 0, 22, 0, 0, 0, 0), some (.iload_n 1, 23, 1, 0, 0, 0), some (.putfield 37, 26, 6, 0, 10, 0), none, none, some (.iload_n 2, 27, 2, 0, 0, 0), some (.ireturn, 28, 0, 0, 1, 0)]]
def zt47 : ZT := [[some (.aload_n 0, 1, 0, 0, 0, 0), some (.getfield 26, 4, 4, 2, 10, 0), none, none, some (.ifnull 10, 7, 14, 0, 0, 0), none, none, some (.iload_n 1, 8, 1, 0, 0, 0), some (.invokestatic 142, 11, 48, 1, 0, 0), none, none, some (.ifCond .ne 6, 14, 17, 0, 0, 0), none, none, some (.bipush (-2), 16, 0, 0, 0, 0), none],
  [some (.ireturn, 17, 0, 0, 1, 0), some (.iload_n 2, 18, 2, 0, 0, 0), some (.tableswitch 70 0 3 #[30, 40, 50, 60], 48, 0, 0, 0, 0), none, none, none, none, none, none, none, none, none, none, none, none, none],
  [none, none, none, none, none, none, none, none, none, none, none, none, none, none, none, none],
  [some (.aload_n 0, 49, 0, 0, 0, 0), some (.getfield 33, 52, 5, 2, 10, 0), none, none, some (.getfield 146, 55, 0, 2, 5, 0), none, none, some (.iload_n 1, 56, 1, 0, 0, 0), some (.iaload, 57, 0, 0, 0, 0), some (.ireturn, 58, 0, 0, 1, 0), some (.aload_n 0, 59, 0, 0, 0, 0), some (.getfield 33, 62, 5, 2, 10, 0), none, none, some (.getfield 149, 65, 1, 2, 5, 0), none],
  [none, some (.iload_n 1, 66, 1, 0, 0, 0), some (.iaload, 67, 0, 0, 0, 0), some (.ireturn, 68, 0, 0, 1, 0), some (.aload_n 0, 69, 0, 0, 0, 0), some (.getfield 33, 72, 5, 2, 10, 0), none, none, some (.getfield 152, 75, 2, 2, 5, 0), none, none, some (.iload_n 1, 76, 1, 0, 0, 0), some (.iaload, 77, 0, 0, 0, 0), some (.ireturn, 78, 0, 0, 1, 0), some (.aload_n 0, 79, 0, 0, 0, 0), some (.getfield 33, 82, 5, 2, 10, 0)],
  [none, none, some (.getfield 155, 85, 3, 2, 5, 0), none, none, some (.iload_n 1, 86, 1, 0, 0, 0), some (.iaload, 87, 0, 0, 0, 0), some (.ireturn, 88, 0, 0, 1, 0), some (.bipush (-2), 90, 0, 0, 0, 0), none, some (.ireturn, 91, 0, 0, 1, 0)]]
def zt48 : ZT := [[some (.iload_n 0, 1, 0, 0, 0, 0), some (.ifCond .lt 13, 4, 14, 0, 0, 0), none, none, some (.iload_n 0, 5, 0, 0, 0, 0), some (.bipush 6, 7, 0, 0, 0, 0), none, some (.if_icmp .ge 7, 10, 14, 0, 0, 0), none, none, some (.iconst 1, 11, 0, 0, 0, 0), some (.goto 4, 15, 0, 0, 0, 0), none, none, some (.iconst 0, 15, 0, 0, 0, 0), some (.ireturn, 16, 0, 0, 2, 0)]]
def zt49 : ZT := [[some (.aload_n 0, 1, 0, 0, 0, 0), some (.getfield 26, 4, 4, 2, 10, 0), none, none, some (.ifnull 11, 7, 15, 0, 0, 0), none, none, some (.aload_n 0, 8, 0, 0, 0, 0), some (.iload_n 1, 9, 1, 0, 0, 0), some (.invokevirtual 158, 12, 50, 2, 0, 0), none, none, some (.ifCond .ne 5, 15, 17, 0, 0, 0), none, none, some (.iconst (-1), 16, 0, 0, 0, 0)],
  [some (.ireturn, 17, 0, 0, 1, 0), some (.iload_n 2, 18, 2, 0, 0, 0), some (.tableswitch 56 0 2 #[26, 36, 46], 44, 0, 0, 0, 0), none, none, none, none, none, none, none, none, none, none, none, none, none],
  [none, none, none, none, none, none, none, none, none, none, none, none, some (.aload_n 0, 45, 0, 0, 0, 0), some (.getfield 26, 48, 4, 2, 10, 0), none, none],
  [some (.getfield 161, 51, 3, 2, 3, 0), none, none, some (.iload_n 1, 52, 1, 0, 0, 0), some (.iaload, 53, 0, 0, 0, 0), some (.ireturn, 54, 0, 0, 1, 0), some (.aload_n 0, 55, 0, 0, 0, 0), some (.getfield 26, 58, 4, 2, 10, 0), none, none, some (.getfield 164, 61, 4, 2, 3, 0), none, none, some (.iload_n 1, 62, 1, 0, 0, 0), some (.iaload, 63, 0, 0, 0, 0), some (.ireturn, 64, 0, 0, 1, 0)],
  [some (.aload_n 0, 65, 0, 0, 0, 0), some (.getfield 33, 68, 5, 2, 10, 0), none, none, some (.getfield 167, 71, 4, 2, 5, 0), none, none, some (.iload_n 1, 72, 1, 0, 0, 0), some (.iaload, 73, 0, 0, 0, 0), some (.ireturn, 74, 0, 0, 1, 0), some (.iconst (-1), 75, 0, 0, 0, 0), some (.ireturn, 76, 0, 0, 1, 0)]]
def zt50 : ZT := [[some (.aload_n 0, 1, 0, 0, 0, 0), some (.getfield 26, 4, 4, 2, 10, 0), none, none, some (.ifnull 22, 7, 26, 0, 0, 0), none, none, some (.iload_n 1, 8, 1, 0, 0, 0), some (.ifCond .lt 18, 11, 26, 0, 0, 0), none, none, some (.iload_n 1, 12, 1, 0, 0, 0), some (.aload_n 0, 13, 0, 0, 0, 0), some (.getfield 26, 16, 4, 2, 10, 0), none, none],
  [some (.getfield 179, 19, 1, 0, 3, 0), none, none, some (.if_icmp .ge 7, 22, 26, 0, 0, 0), none, none, some (.iconst 1, 23, 0, 0, 0, 0), some (.goto 4, 27, 0, 0, 0, 0), none, none, some (.iconst 0, 27, 0, 0, 0, 0), some (.ireturn, 28, 0, 0, 2, 0)]]
def zt51 : ZT := [[some (.aload_n 0, 1, 0, 0, 0, 0), some (.iload_n 1, 2, 1, 0, 0, 0), some (.invokevirtual 170, 5, 52, 2, 0, 0), none, none, some (.ifCond .ne 5, 8, 10, 0, 0, 0), none, none, some (.iconst (-1), 9, 0, 0, 0, 0), some (.ireturn, 10, 0, 0, 1, 0), some (.aload_n 0, 11, 0, 0, 0, 0), some (.getfield 33, 14, 5, 2, 10, 0), none, none, some (.iload_n 1, 15, 1, 0, 0, 0), some (.invokevirtual 173, 18, 53, 2, 0, 0)],
  [none, none, some (.ifCond .eq 7, 21, 25, 0, 0, 0), none, none, some (.iconst 1, 22, 0, 0, 0, 0), some (.goto 4, 26, 0, 0, 0, 0), none, none, some (.iconst 0, 26, 0, 0, 0, 0), some (.ireturn, 27, 0, 0, 1, 0)]]
def zt52 : ZT := [[some (.aload_n 0, 1, 0, 0, 0, 0), some (.getfield 26, 4, 4, 2, 10, 0), none, none, some (.ifnull 22, 7, 26, 0, 0, 0), none, none, some (.iload_n 1, 8, 1, 0, 0, 0), some (.ifCond .lt 18, 11, 26, 0, 0, 0), none, none, some (.iload_n 1, 12, 1, 0, 0, 0), some (.aload_n 0, 13, 0, 0, 0, 0), some (.getfield 26, 16, 4, 2, 10, 0), none, none],
  [some (.getfield 176, 19, 0, 0, 3, 0), none, none, some (.if_icmp .ge 7, 22, 26, 0, 0, 0), none, none, some (.iconst 1, 23, 0, 0, 0, 0), some (.goto 4, 27, 0, 0, 0, 0), none, none, some (.iconst 0, 27, 0, 0, 0, 0), some (.ireturn, 28, 0, 0, 2, 0)]]
def zt53 : ZT := [[some (.aload_n 0, 1, 0, 0, 0, 0), some (.getfield 31, 4, 6, 0, 5, 0), none, none, some (.iload_n 1, 5, 1, 0, 0, 0), some (.ishr, 6, 0, 0, 0, 0), some (.iconst 1, 7, 0, 0, 0, 0), some (.iand, 8, 0, 0, 0, 0), some (.iconst 1, 9, 0, 0, 0, 0), some (.if_icmp .ne 7, 12, 16, 0, 0, 0), none, none, some (.iconst 1, 13, 0, 0, 0, 0), some (.goto 4, 17, 0, 0, 0, 0), none, none],
  [some (.iconst 0, 17, 0, 0, 0, 0), some (.ireturn, 18, 0, 0, 2, 0)]]
def zt54 : ZT := [[some (.iload_n 1, 1, 1, 0, 0, 0), some (.tableswitch 204 0 13 #[71, 90, 109, 128, 133, 138, 146, 154, 162, 173, 181, 189, 194, 199], 72, 0, 0, 0, 0), none, none, none, none, none, none, none, none, none, none, none, none, none, none],
  [none, none, none, none, none, none, none, none, none, none, none, none, none, none, none, none],
  [none, none, none, none, none, none, none, none, none, none, none, none, none, none, none, none],
  [none, none, none, none, none, none, none, none, none, none, none, none, none, none, none, none],
  [none, none, none, none, none, none, none, none, some (.aload_n 0, 73, 0, 0, 0, 0), some (.getfield 26, 76, 4, 2, 10, 0), none, none, some (.ifnonnull 7, 79, 83, 0, 0, 0), none, none, some (.iconst 0, 80, 0, 0, 0, 0)],
  [some (.goto 10, 90, 0, 0, 0, 0), none, none, some (.aload_n 0, 84, 0, 0, 0, 0), some (.getfield 26, 87, 4, 2, 10, 0), none, none, some (.getfield 176, 90, 0, 0, 3, 0), none, none, some (.ireturn, 91, 0, 0, 1, 0), some (.aload_n 0, 92, 0, 0, 0, 0), some (.getfield 26, 95, 4, 2, 10, 0), none, none, some (.ifnonnull 7, 98, 102, 0, 0, 0)],
  [none, none, some (.iconst 0, 99, 0, 0, 0, 0), some (.goto 10, 109, 0, 0, 0, 0), none, none, some (.aload_n 0, 103, 0, 0, 0, 0), some (.getfield 26, 106, 4, 2, 10, 0), none, none, some (.getfield 179, 109, 1, 0, 3, 0), none, none, some (.ireturn, 110, 0, 0, 1, 0), some (.aload_n 0, 111, 0, 0, 0, 0), some (.getfield 26, 114, 4, 2, 10, 0)],
  [none, none, some (.ifnonnull 7, 117, 121, 0, 0, 0), none, none, some (.iconst 0, 118, 0, 0, 0, 0), some (.goto 10, 128, 0, 0, 0, 0), none, none, some (.aload_n 0, 122, 0, 0, 0, 0), some (.getfield 26, 125, 4, 2, 10, 0), none, none, some (.getfield 135, 128, 2, 0, 3, 0), none, none],
  [some (.ireturn, 129, 0, 0, 1, 0), some (.aload_n 0, 130, 0, 0, 0, 0), some (.getfield 23, 133, 3, 0, 10, 0), none, none, some (.ireturn, 134, 0, 0, 1, 0), some (.aload_n 0, 135, 0, 0, 0, 0), some (.getfield 37, 138, 6, 0, 10, 0), none, none, some (.ireturn, 139, 0, 0, 1, 0), some (.aload_n 0, 140, 0, 0, 0, 0), some (.getfield 33, 143, 5, 2, 10, 0), none, none, some (.getfield 182, 146, 7, 0, 5, 0)],
  [none, none, some (.ireturn, 147, 0, 0, 1, 0), some (.aload_n 0, 148, 0, 0, 0, 0), some (.getfield 33, 151, 5, 2, 10, 0), none, none, some (.invokevirtual 185, 154, 55, 1, 0, 0), none, none, some (.ireturn, 155, 0, 0, 1, 0), some (.aload_n 0, 156, 0, 0, 0, 0), some (.getfield 33, 159, 5, 2, 10, 0), none, none, some (.getfield 189, 162, 8, 0, 5, 0)],
  [none, none, some (.ireturn, 163, 0, 0, 1, 0), some (.aload_n 0, 164, 0, 0, 0, 0), some (.getfield 33, 167, 5, 2, 10, 0), none, none, some (.getfield 192, 170, 6, 0, 5, 0), none, none, some (.invokestatic 195, 173, 56, 1, 0, 0), none, none, some (.ireturn, 174, 0, 0, 1, 0), some (.aload_n 0, 175, 0, 0, 0, 0), some (.getfield 33, 178, 5, 2, 10, 0)],
  [none, none, some (.invokevirtual 201, 181, 57, 1, 0, 0), none, none, some (.ireturn, 182, 0, 0, 1, 0), some (.aload_n 0, 183, 0, 0, 0, 0), some (.getfield 46, 186, 8, 2, 10, 0), none, none, some (.getfield 132, 189, 0, 0, 2, 0), none, none, some (.ireturn, 190, 0, 0, 1, 0), some (.aload_n 0, 191, 0, 0, 0, 0), some (.getfield 60, 194, 11, 0, 10, 0)],
  [none, none, some (.ireturn, 195, 0, 0, 1, 0), some (.aload_n 0, 196, 0, 0, 0, 0), some (.getfield 40, 199, 7, 0, 10, 0), none, none, some (.ireturn, 200, 0, 0, 1, 0), some (.aload_n 0, 201, 0, 0, 0, 0), some (.getfield 13, 204, 1, 0, 10, 0), none, none, some (.ireturn, 205, 0, 0, 1, 0), some (.iconst (-1), 206, 0, 0, 0, 0), some (.ireturn, 207, 0, 0, 1, 0)]]
def zt55 : ZT := [[some (.iconst 0, 1, 0, 0, 0, 0), some (.istore_n 1, 2, 1, 0, 0, 0), some (.iconst 0, 3, 0, 0, 0, 0), some (.istore_n 2, 4, 2, 0, 0, 0), some (.iload_n 2, 5, 2, 0, 0, 0), some (.bipush 6, 7, 0, 0, 0, 0), none, some (.if_icmp .ge 25, 10, 32, 0, 0, 0), none, none, some (.aload_n 0, 11, 0, 0, 0, 0), some (.getfield 9, 14, 0, 2, 5, 0), none, none, some (.iload_n 2, 15, 2, 0, 0, 0), some (.iaload, 16, 0, 0, 0, 0)],
  [some (.iconst (-1), 17, 0, 0, 0, 0), some (.if_icmp .eq 9, 20, 26, 0, 0, 0), none, none, some (.iload_n 1, 21, 1, 0, 0, 0), some (.iconst 1, 22, 0, 0, 0, 0), some (.iload_n 2, 23, 2, 0, 0, 0), some (.ishl, 24, 0, 0, 0, 0), some (.ior, 25, 0, 0, 0, 0), some (.istore_n 1, 26, 1, 0, 0, 0), some (.iinc 2 1, 29, 2, 0, 0, 0), none, none, some (.goto (-25), 4, 0, 0, 0, 0), none, none],
  [some (.iload_n 1, 33, 1, 0, 0, 0), some (.ireturn, 34, 0, 0, 1, 0)]]
def zt56 : ZT := [[some (.iload_n 0, 1, 0, 0, 0, 0), some (.iload_n 0, 2, 0, 0, 0, 0), some (.iconst 1, 3, 0, 0, 0, 0), some (.iushr, 4, 0, 0, 0, 0), some (.ldc_w 265, 7, 0, 0, 0, 1431655765), none, none, some (.iand, 8, 0, 0, 0, 0), some (.isub, 9, 0, 0, 0, 0), some (.istore_n 0, 10, 0, 0, 0, 0), some (.iload_n 0, 11, 0, 0, 0, 0), some (.ldc_w 266, 14, 0, 0, 0, 858993459), none, none, some (.iand, 15, 0, 0, 0, 0), some (.iload_n 0, 16, 0, 0, 0, 0)],
  [some (.iconst 2, 17, 0, 0, 0, 0), some (.iushr, 18, 0, 0, 0, 0), some (.ldc_w 266, 21, 0, 0, 0, 858993459), none, none, some (.iand, 22, 0, 0, 0, 0), some (.iadd, 23, 0, 0, 0, 0), some (.istore_n 0, 24, 0, 0, 0, 0), some (.iload_n 0, 25, 0, 0, 0, 0), some (.iload_n 0, 26, 0, 0, 0, 0), some (.iconst 4, 27, 0, 0, 0, 0), some (.iushr, 28, 0, 0, 0, 0), some (.iadd, 29, 0, 0, 0, 0), some (.ldc_w 267, 32, 0, 0, 0, 252645135), none, none],
  [some (.iand, 33, 0, 0, 0, 0), some (.istore_n 0, 34, 0, 0, 0, 0), some (.iload_n 0, 35, 0, 0, 0, 0), some (.iload_n 0, 36, 0, 0, 0, 0), some (.bipush 8, 38, 0, 0, 0, 0), none, some (.iushr, 39, 0, 0, 0, 0), some (.iadd, 40, 0, 0, 0, 0), some (.istore_n 0, 41, 0, 0, 0, 0), some (.iload_n 0, 42, 0, 0, 0, 0), some (.iload_n 0, 43, 0, 0, 0, 0), some (.bipush 16, 45, 0, 0, 0, 0), none, some (.iushr, 46, 0, 0, 0, 0), some (.iadd, 47, 0, 0, 0, 0), some (.istore_n 0, 48, 0, 0, 0, 0)],
  [some (.iload_n 0, 49, 0, 0, 0, 0), some (.bipush 63, 51, 0, 0, 0, 0), none, some (.iand, 52, 0, 0, 0, 0), some (.ireturn, 53, 0, 0, 1, 0)]]
def zt57 : ZT := [[some (.iconst 0, 1, 0, 0, 0, 0), some (.istore_n 1, 2, 1, 0, 0, 0), some (.iconst 0, 3, 0, 0, 0, 0), some (.istore_n 2, 4, 2, 0, 0, 0), some (.iload_n 2, 5, 2, 0, 0, 0), some (.iconst 5, 6, 0, 0, 0, 0), some (.if_icmp .ge 18, 9, 24, 0, 0, 0), none, none, some (.iload_n 1, 10, 1, 0, 0, 0), some (.aload_n 0, 11, 0, 0, 0, 0), some (.getfield 24, 14, 4, 2, 5, 0), none, none, some (.iload_n 2, 15, 2, 0, 0, 0), some (.iaload, 16, 0, 0, 0, 0)],
  [some (.iadd, 17, 0, 0, 0, 0), some (.istore_n 1, 18, 1, 0, 0, 0), some (.iinc 2 1, 21, 2, 0, 0, 0), none, none, some (.goto (-17), 4, 0, 0, 0, 0), none, none, some (.iload_n 1, 25, 1, 0, 0, 0), some (.ireturn, 26, 0, 0, 1, 0)]]
def zt58 : ZT := [[some (.aload_n 0, 1, 0, 0, 0, 0), some (.getfield 26, 4, 4, 2, 10, 0), none, none, some (.ifnull 16, 7, 20, 0, 0, 0), none, none, some (.aload_n 0, 8, 0, 0, 0, 0), some (.getfield 33, 11, 5, 2, 10, 0), none, none, some (.getfield 182, 14, 7, 0, 5, 0), none, none, some (.sipush 999, 17, 0, 0, 0, 0), none],
  [none, some (.if_icmp .lt 5, 20, 22, 0, 0, 0), none, none, some (.iconst (-1), 21, 0, 0, 0, 0), some (.ireturn, 22, 0, 0, 1, 0), some (.aload_n 0, 23, 0, 0, 0, 0), some (.invokevirtual 204, 26, 59, 1, 0, 0), none, none, some (.aload_n 0, 27, 0, 0, 0, 0), some (.aload_n 0, 28, 0, 0, 0, 0), some (.getfield 37, 31, 6, 0, 10, 0), none, none, some (.invokevirtual 207, 34, 60, 2, 0, 0)],
  [none, none, some (.aload_n 0, 35, 0, 0, 0, 0), some (.getfield 83, 38, 15, 2, 10, 0), none, none, some (.aload_n 0, 39, 0, 0, 0, 0), some (.getfield 33, 42, 5, 2, 10, 0), none, none, some (.invokevirtual 210, 45, 61, 2, 0, 0), none, none, some (.ireturn, 46, 0, 0, 1, 0)]]
def zt59 : ZT := [[some (.aload_n 0, 1, 0, 0, 0, 0), some (.getfield 56, 4, 10, 2, 10, 0), none, none, some (.aload_n 0, 5, 0, 0, 0, 0), some (.getfield 63, 8, 12, 0, 10, 0), none, none, some (.aaload, 9, 115, 0, 0, 0), some (.aload_n 0, 10, 0, 0, 0, 0), some (.getfield 33, 13, 5, 2, 10, 0), none, none, some (.invokevirtual 128, 16, 32, 2, 0, 0), none, none],
  [some (.aload_n 0, 17, 0, 0, 0, 0), some (.aload_n 0, 18, 0, 0, 0, 0), some (.getfield 63, 21, 12, 0, 10, 0), none, none, some (.iconst 1, 22, 0, 0, 0, 0), some (.iadd, 23, 0, 0, 0, 0), some (.bipush 20, 25, 0, 0, 0, 0), none, some (.irem, 26, 0, 0, 0, 0), some (.putfield 63, 29, 12, 0, 10, 0), none, none, some (.aload_n 0, 30, 0, 0, 0, 0), some (.bipush 20, 32, 0, 0, 0, 0), none],
  [some (.aload_n 0, 33, 0, 0, 0, 0), some (.getfield 60, 36, 11, 0, 10, 0), none, none, some (.iconst 1, 37, 0, 0, 0, 0), some (.iadd, 38, 0, 0, 0, 0), some (.invokestatic 221, 41, 16, 2, 0, 0), none, none, some (.putfield 60, 44, 11, 0, 10, 0), none, none, some (.return_, 45, 0, 0, 0, 0)]]
def zt60 : ZT := [[some (.aload_n 0, 1, 0, 0, 0, 0), some (.getfield 83, 4, 15, 2, 10, 0), none, none, some (.aload_n 0, 5, 0, 0, 0, 0), some (.getfield 26, 8, 4, 2, 10, 0), none, none, some (.putfield 236, 11, 0, 2, 0, 0), none, none, some (.aload_n 0, 12, 0, 0, 0, 0), some (.getfield 83, 15, 15, 2, 10, 0), none, none, some (.iload_n 1, 16, 1, 0, 0, 0)],
  [some (.ifCond .lt 20, 19, 36, 0, 0, 0), none, none, some (.iload_n 1, 20, 1, 0, 0, 0), some (.aload_n 0, 21, 0, 0, 0, 0), some (.getfield 23, 24, 3, 0, 10, 0), none, none, some (.if_icmp .ge 12, 27, 36, 0, 0, 0), none, none, some (.aload_n 0, 28, 0, 0, 0, 0), some (.getfield 19, 31, 2, 2, 10, 0), none, none, some (.iload_n 1, 32, 1, 0, 0, 0)],
  [some (.aaload, 33, 117, 0, 0, 0), some (.goto 4, 37, 0, 0, 0, 0), none, none, some (.aconst_null, 37, 0, 0, 0, 0), some (.putfield 237, 40, 1, 2, 0, 0), none, none, some (.aload_n 0, 41, 0, 0, 0, 0), some (.getfield 83, 44, 15, 2, 10, 0), none, none, some (.iconst (-1), 45, 0, 0, 0, 0), some (.putfield 241, 48, 2, 0, 0, 0), none, none],
  [some (.aload_n 0, 49, 0, 0, 0, 0), some (.getfield 83, 52, 15, 2, 10, 0), none, none, some (.iconst (-1), 53, 0, 0, 0, 0), some (.putfield 244, 56, 3, 0, 0, 0), none, none, some (.return_, 57, 0, 0, 0, 0)]]
def zt61 : ZT := [[some (.iconst 0, 1, 0, 0, 0, 0), some (.istore_n 2, 2, 2, 0, 0, 0), some (.aload_n 0, 3, 0, 0, 0, 0), some (.iconst 0, 4, 0, 0, 0, 0), some (.putfield 26, 7, 4, 3, 0, 0), none, none, some (.aload_n 0, 8, 0, 0, 0, 0), some (.getfield 9, 11, 0, 2, 0, 0), none, none, some (.ifnonnull 5, 14, 16, 0, 0, 0), none, none, some (.iconst 0, 15, 0, 0, 0, 0), some (.ireturn, 16, 0, 0, 1, 0)],
  [some (.iconst 0, 17, 0, 0, 0, 0), some (.istore_n 3, 18, 3, 0, 0, 0), some (.iload_n 3, 19, 3, 0, 0, 0), some (.bipush 6, 21, 0, 0, 0, 0), none, some (.if_icmp .ge 75, 24, 96, 0, 0, 0), none, none, some (.aload_n 1, 25, 1, 0, 0, 0), some (.getfield 39, 28, 0, 2, 5, 0), none, none, some (.iload_n 3, 29, 3, 0, 0, 0), some (.iaload, 30, 0, 0, 0, 0), some (.iconst (-1), 31, 0, 0, 0, 0), some (.if_icmp .ne 6, 34, 37, 0, 0, 0)],
  [none, none, some (.goto 56, 90, 0, 0, 0, 0), none, none, some (.aload_n 1, 38, 1, 0, 0, 0), some (.getfield 45, 41, 2, 2, 5, 0), none, none, some (.iload_n 3, 42, 3, 0, 0, 0), some (.iaload, 43, 0, 0, 0, 0), some (.ifCond .le 31, 46, 74, 0, 0, 0), none, none, some (.aload_n 0, 47, 0, 0, 0, 0), some (.aload_n 1, 48, 1, 0, 0, 0)],
  [some (.iload_n 3, 49, 3, 0, 0, 0), some (.invokevirtual 48, 52, 62, 3, 0, 0), none, none, some (.ifCond .eq 22, 55, 74, 0, 0, 0), none, none, some (.aload_n 1, 56, 1, 0, 0, 0), some (.iload_n 3, 57, 3, 0, 0, 0), some (.invokevirtual 52, 60, 70, 2, 0, 0), none, none, some (.aload_n 0, 61, 0, 0, 0, 0), some (.iconst 1, 62, 0, 0, 0, 0), some (.putfield 26, 65, 4, 3, 0, 0), none],
  [none, some (.iload_n 2, 66, 2, 0, 0, 0), some (.iconst 1, 67, 0, 0, 0, 0), some (.iload_n 3, 68, 3, 0, 0, 0), some (.ishl, 69, 0, 0, 0, 0), some (.ior, 70, 0, 0, 0, 0), some (.istore_n 2, 71, 2, 0, 0, 0), some (.goto 19, 90, 0, 0, 0, 0), none, none, some (.aload_n 0, 75, 0, 0, 0, 0), some (.aload_n 1, 76, 1, 0, 0, 0), some (.iload_n 3, 77, 3, 0, 0, 0), some (.invokevirtual 56, 80, 71, 3, 0, 0), none, none],
  [some (.aload_n 1, 81, 1, 0, 0, 0), some (.getfield 60, 84, 3, 2, 5, 0), none, none, some (.iload_n 3, 85, 3, 0, 0, 0), some (.dup2, 86, 0, 0, 0, 0), some (.iaload, 87, 0, 0, 0, 0), some (.iconst 1, 88, 0, 0, 0, 0), some (.iadd, 89, 0, 0, 0, 0), some (.iastore, 90, 0, 0, 0, 0), some (.iinc 3 1, 93, 3, 0, 0, 0), none, none, some (.goto (-75), 18, 0, 0, 0, 0), none, none],
  [some (.iconst 0, 97, 0, 0, 0, 0), some (.istore_n 3, 98, 3, 0, 0, 0), some (.iload_n 3, 99, 3, 0, 0, 0), some (.aload_n 0, 100, 0, 0, 0, 0), some (.getfield 9, 103, 0, 2, 0, 0), none, none, some (.getfield 63, 106, 1, 0, 3, 0), none, none, some (.if_icmp .ge 23, 109, 129, 0, 0, 0), none, none, some (.iload_n 3, 110, 3, 0, 0, 0), some (.aload_n 0, 111, 0, 0, 0, 0), some (.getfield 19, 114, 2, 0, 0, 0)],
  [none, none, some (.if_icmp .eq 9, 117, 123, 0, 0, 0), none, none, some (.aload_n 0, 118, 0, 0, 0, 0), some (.aload_n 1, 119, 1, 0, 0, 0), some (.iload_n 3, 120, 3, 0, 0, 0), some (.invokevirtual 68, 123, 74, 3, 0, 0), none, none, some (.iinc 3 1, 126, 3, 0, 0, 0), none, none, some (.goto (-28), 98, 0, 0, 0, 0), none],
  [none, some (.aload_n 1, 130, 1, 0, 0, 0), some (.dup, 131, 0, 0, 0, 0), some (.getfield 71, 134, 7, 0, 5, 0), none, none, some (.iconst 1, 135, 0, 0, 0, 0), some (.iadd, 136, 0, 0, 0, 0), some (.putfield 71, 139, 7, 0, 5, 0), none, none, some (.iload_n 2, 140, 2, 0, 0, 0), some (.ireturn, 141, 0, 0, 1, 0)]]
def zt62 : ZT := [[some (.aload_n 0, 1, 0, 0, 0, 0), some (.aload_n 1, 2, 1, 0, 0, 0), some (.iload_n 2, 3, 2, 0, 0, 0), some (.invokevirtual 85, 6, 63, 3, 0, 0), none, none, some (.ifCond .ne 5, 9, 11, 0, 0, 0), none, none, some (.iconst 0, 10, 0, 0, 0, 0), some (.ireturn, 11, 0, 0, 2, 0), some (.aload_n 0, 12, 0, 0, 0, 0), some (.getfield 23, 15, 3, 0, 0, 0), none, none, some (.iconst (-1), 16, 0, 0, 0, 0)],
  [some (.if_icmp .eq 21, 19, 37, 0, 0, 0), none, none, some (.aload_n 0, 20, 0, 0, 0, 0), some (.getfield 23, 23, 3, 0, 0, 0), none, none, some (.iload_n 2, 24, 2, 0, 0, 0), some (.ishr, 25, 0, 0, 0, 0), some (.iconst 1, 26, 0, 0, 0, 0), some (.iand, 27, 0, 0, 0, 0), some (.iconst 1, 28, 0, 0, 0, 0), some (.if_icmp .ne 7, 31, 35, 0, 0, 0), none, none, some (.iconst 1, 32, 0, 0, 0, 0)],
  [some (.goto 4, 36, 0, 0, 0, 0), none, none, some (.iconst 0, 36, 0, 0, 0, 0), some (.ireturn, 37, 0, 0, 2, 0), some (.aload_n 0, 38, 0, 0, 0, 0), some (.getfield 15, 41, 1, 2, 0, 0), none, none, some (.ifnonnull 23, 44, 64, 0, 0, 0), none, none, some (.aload_n 1, 45, 1, 0, 0, 0), some (.getfield 94, 48, 4, 2, 5, 0), none, none],
  [some (.aload_n 1, 49, 1, 0, 0, 0), some (.getfield 88, 52, 1, 2, 5, 0), none, none, some (.iload_n 2, 53, 2, 0, 0, 0), some (.iaload, 54, 0, 0, 0, 0), some (.iaload, 55, 0, 0, 0, 0), some (.ifCond .ne 7, 58, 62, 0, 0, 0), none, none, some (.iconst 1, 59, 0, 0, 0, 0), some (.goto 4, 63, 0, 0, 0, 0), none, none, some (.iconst 0, 63, 0, 0, 0, 0), some (.ireturn, 64, 0, 0, 2, 0)],
  [some (.aload_n 0, 65, 0, 0, 0, 0), some (.aload_n 1, 66, 1, 0, 0, 0), some (.iload_n 2, 67, 2, 0, 0, 0), some (.invokevirtual 97, 70, 64, 3, 0, 0), none, none, some (.aload_n 0, 71, 0, 0, 0, 0), some (.getfield 15, 74, 1, 2, 0, 0), none, none, some (.aload_n 0, 75, 0, 0, 0, 0), some (.getfield 32, 78, 5, 2, 0, 0), none, none, some (.aload_n 0, 79, 0, 0, 0, 0), some (.getfield 36, 82, 6, 2, 0, 0)],
  [none, none, some (.invokevirtual 100, 85, 66, 3, 0, 0), none, none, some (.ireturn, 86, 0, 0, 2, 0)]]
def zt63 : ZT := [[some (.aload_n 1, 1, 1, 0, 0, 0), some (.getfield 88, 4, 1, 2, 5, 0), none, none, some (.iload_n 2, 5, 2, 0, 0, 0), some (.iaload, 6, 0, 0, 0, 0), some (.istore_n 3, 7, 3, 0, 0, 0), some (.aload_n 0, 8, 0, 0, 0, 0), some (.getfield 9, 11, 0, 2, 0, 0), none, none, some (.ifnull 40, 14, 51, 0, 0, 0), none, none, some (.iload_n 3, 15, 3, 0, 0, 0), some (.ifCond .lt 36, 18, 51, 0, 0, 0)],
  [none, none, some (.iload_n 3, 19, 3, 0, 0, 0), some (.aload_n 0, 20, 0, 0, 0, 0), some (.getfield 9, 23, 0, 2, 0, 0), none, none, some (.getfield 63, 26, 1, 0, 3, 0), none, none, some (.if_icmp .ge 25, 29, 51, 0, 0, 0), none, none, some (.aload_n 0, 30, 0, 0, 0, 0), some (.getfield 9, 33, 0, 2, 0, 0), none],
  [none, some (.getfield 91, 36, 3, 2, 3, 0), none, none, some (.iload_n 3, 37, 3, 0, 0, 0), some (.iaload, 38, 0, 0, 0, 0), some (.aload_n 1, 39, 1, 0, 0, 0), some (.getfield 39, 42, 0, 2, 5, 0), none, none, some (.iload_n 2, 43, 2, 0, 0, 0), some (.iaload, 44, 0, 0, 0, 0), some (.if_icmp .ne 7, 47, 51, 0, 0, 0), none, none, some (.iconst 1, 48, 0, 0, 0, 0)],
  [some (.goto 4, 52, 0, 0, 0, 0), none, none, some (.iconst 0, 52, 0, 0, 0, 0), some (.ireturn, 53, 0, 0, 2, 0)]]
def zt64 : ZT := [[some (.aload_n 1, 1, 1, 0, 0, 0), some (.getfield 88, 4, 1, 2, 5, 0), none, none, some (.iload_n 2, 5, 2, 0, 0, 0), some (.iaload, 6, 0, 0, 0, 0), some (.istore_n 3, 7, 3, 0, 0, 0), some (.aload_n 0, 8, 0, 0, 0, 0), some (.getfield 32, 11, 5, 2, 0, 0), none, none, some (.iconst 0, 12, 0, 0, 0, 0), some (.iload_n 2, 13, 2, 0, 0, 0), some (.i2l, 14, 0, 0, 0, 0), some (.lastore, 15, 0, 0, 0, 0), some (.aload_n 0, 16, 0, 0, 0, 0)],
  [some (.getfield 32, 19, 5, 2, 0, 0), none, none, some (.iconst 1, 20, 0, 0, 0, 0), some (.iload_n 3, 21, 3, 0, 0, 0), some (.i2l, 22, 0, 0, 0, 0), some (.lastore, 23, 0, 0, 0, 0), some (.aload_n 0, 24, 0, 0, 0, 0), some (.getfield 32, 27, 5, 2, 0, 0), none, none, some (.iconst 2, 28, 0, 0, 0, 0), some (.aload_n 1, 29, 1, 0, 0, 0), some (.getfield 45, 32, 2, 2, 5, 0), none, none],
  [some (.iload_n 2, 33, 2, 0, 0, 0), some (.iaload, 34, 0, 0, 0, 0), some (.i2l, 35, 0, 0, 0, 0), some (.lastore, 36, 0, 0, 0, 0), some (.aload_n 0, 37, 0, 0, 0, 0), some (.getfield 32, 40, 5, 2, 0, 0), none, none, some (.iconst 3, 41, 0, 0, 0, 0), some (.aload_n 1, 42, 1, 0, 0, 0), some (.getfield 94, 45, 4, 2, 5, 0), none, none, some (.iload_n 3, 46, 3, 0, 0, 0), some (.iaload, 47, 0, 0, 0, 0), some (.i2l, 48, 0, 0, 0, 0)],
  [some (.lastore, 49, 0, 0, 0, 0), some (.aload_n 0, 50, 0, 0, 0, 0), some (.getfield 32, 53, 5, 2, 0, 0), none, none, some (.iconst 4, 54, 0, 0, 0, 0), some (.aload_n 0, 55, 0, 0, 0, 0), some (.aload_n 1, 56, 1, 0, 0, 0), some (.aload_n 1, 57, 1, 0, 0, 0), some (.getfield 39, 60, 0, 2, 5, 0), none, none, some (.iload_n 2, 61, 2, 0, 0, 0), some (.iaload, 62, 0, 0, 0, 0), some (.invokevirtual 106, 65, 65, 3, 0, 0), none],
  [none, some (.i2l, 66, 0, 0, 0, 0), some (.lastore, 67, 0, 0, 0, 0), some (.aload_n 0, 68, 0, 0, 0, 0), some (.getfield 32, 71, 5, 2, 0, 0), none, none, some (.iconst 5, 72, 0, 0, 0, 0), some (.aload_n 1, 73, 1, 0, 0, 0), some (.getfield 110, 76, 5, 0, 5, 0), none, none, some (.invokestatic 113, 79, 56, 1, 0, 0), none, none, some (.i2l, 80, 0, 0, 0, 0)],
  [some (.lastore, 81, 0, 0, 0, 0), some (.aload_n 0, 82, 0, 0, 0, 0), some (.getfield 32, 85, 5, 2, 0, 0), none, none, some (.bipush 6, 87, 0, 0, 0, 0), none, some (.aload_n 1, 88, 1, 0, 0, 0), some (.getfield 119, 91, 8, 0, 5, 0), none, none, some (.i2l, 92, 0, 0, 0, 0), some (.lastore, 93, 0, 0, 0, 0), some (.aload_n 0, 94, 0, 0, 0, 0), some (.getfield 32, 97, 5, 2, 0, 0), none],
  [none, some (.bipush 7, 99, 0, 0, 0, 0), none, some (.aload_n 0, 100, 0, 0, 0, 0), some (.getfield 9, 103, 0, 2, 0, 0), none, none, some (.getfield 74, 106, 0, 0, 3, 0), none, none, some (.ifCond .le 21, 109, 127, 0, 0, 0), none, none, some (.aload_n 1, 110, 1, 0, 0, 0), some (.getfield 60, 113, 3, 2, 5, 0), none],
  [none, some (.iload_n 2, 114, 2, 0, 0, 0), some (.iaload, 115, 0, 0, 0, 0), some (.aload_n 0, 116, 0, 0, 0, 0), some (.getfield 9, 119, 0, 2, 0, 0), none, none, some (.getfield 74, 122, 0, 0, 3, 0), none, none, some (.idiv, 123, 0, 0, 0, 0), some (.i2l, 124, 0, 0, 0, 0), some (.goto 4, 128, 0, 0, 0, 0), none, none, some (.lconst 0, 128, 0, 0, 0, 0)],
  [some (.lastore, 129, 0, 0, 0, 0), some (.aload_n 0, 130, 0, 0, 0, 0), some (.getfield 32, 133, 5, 2, 0, 0), none, none, some (.bipush 8, 135, 0, 0, 0, 0), none, some (.aload_n 0, 136, 0, 0, 0, 0), some (.getfield 9, 139, 0, 2, 0, 0), none, none, some (.getfield 122, 142, 4, 2, 3, 0), none, none, some (.iload_n 3, 143, 3, 0, 0, 0), some (.iaload, 144, 0, 0, 0, 0)],
  [some (.i2l, 145, 0, 0, 0, 0), some (.lastore, 146, 0, 0, 0, 0), some (.aload_n 0, 147, 0, 0, 0, 0), some (.getfield 32, 150, 5, 2, 0, 0), none, none, some (.bipush 9, 152, 0, 0, 0, 0), none, some (.aload_n 1, 153, 1, 0, 0, 0), some (.getfield 71, 156, 7, 0, 5, 0), none, none, some (.i2l, 157, 0, 0, 0, 0), some (.lastore, 158, 0, 0, 0, 0), some (.return_, 159, 0, 0, 0, 0)]]
def zt65 : ZT := [[some (.iconst 1, 1, 0, 0, 0, 0), some (.istore_n 3, 2, 3, 0, 0, 0), some (.iload_n 3, 3, 3, 0, 0, 0), some (.aload_n 0, 4, 0, 0, 0, 0), some (.getfield 9, 7, 0, 2, 0, 0), none, none, some (.getfield 74, 10, 0, 0, 3, 0), none, none, some (.if_icmp .ge 49, 13, 59, 0, 0, 0), none, none, some (.iload_n 2, 14, 2, 0, 0, 0), some (.iload_n 3, 15, 3, 0, 0, 0), some (.isub, 16, 0, 0, 0, 0)],
  [some (.ifCond .ge 17, 19, 33, 0, 0, 0), none, none, some (.iload_n 2, 20, 2, 0, 0, 0), some (.iload_n 3, 21, 3, 0, 0, 0), some (.isub, 22, 0, 0, 0, 0), some (.aload_n 0, 23, 0, 0, 0, 0), some (.getfield 9, 26, 0, 2, 0, 0), none, none, some (.getfield 74, 29, 0, 0, 3, 0), none, none, some (.iadd, 30, 0, 0, 0, 0), some (.goto 6, 36, 0, 0, 0, 0), none],
  [none, some (.iload_n 2, 34, 2, 0, 0, 0), some (.iload_n 3, 35, 3, 0, 0, 0), some (.isub, 36, 0, 0, 0, 0), some (.istore 4, 38, 4, 0, 0, 0), none, some (.aload_n 1, 39, 1, 0, 0, 0), some (.getfield 110, 42, 5, 0, 5, 0), none, none, some (.iload 4, 44, 4, 0, 0, 0), none, some (.ishr, 45, 0, 0, 0, 0), some (.iconst 1, 46, 0, 0, 0, 0), some (.iand, 47, 0, 0, 0, 0), some (.iconst 1, 48, 0, 0, 0, 0)],
  [some (.if_icmp .ne 5, 51, 53, 0, 0, 0), none, none, some (.iload_n 3, 52, 3, 0, 0, 0), some (.ireturn, 53, 0, 0, 1, 0), some (.iinc 3 1, 56, 3, 0, 0, 0), none, none, some (.goto (-54), 2, 0, 0, 0, 0), none, none, some (.aload_n 0, 60, 0, 0, 0, 0), some (.getfield 9, 63, 0, 2, 0, 0), none, none, some (.getfield 74, 66, 0, 0, 3, 0)],
  [none, none, some (.ireturn, 67, 0, 0, 1, 0)]]
def zt66 : ZT := [[some (.iconst 0, 1, 0, 0, 0, 0), some (.istore_n 3, 2, 3, 0, 0, 0), some (.iconst 0, 3, 0, 0, 0, 0), some (.istore 4, 5, 4, 0, 0, 0), none, some (.iload 4, 7, 4, 0, 0, 0), none, some (.aload_n 0, 8, 0, 0, 0, 0), some (.getfield 7, 11, 0, 2, 7, 0), none, none, some (.arraylength, 12, 0, 0, 0, 0), some (.if_icmp .ge 189, 15, 201, 0, 0, 0), none, none, some (.aload_n 0, 16, 0, 0, 0, 0)],
  [some (.getfield 7, 19, 0, 2, 7, 0), none, none, some (.iload 4, 21, 4, 0, 0, 0), none, some (.iaload, 22, 0, 0, 0, 0), some (.istore 5, 24, 5, 0, 0, 0), none, some (.iload 5, 26, 5, 0, 0, 0), none, some (.ldc 15, 28, 0, 0, 0, 100010), none, some (.isub, 29, 0, 0, 0, 0), some (.istore 6, 31, 6, 0, 0, 0), none, some (.iload 6, 33, 6, 0, 0, 0)],
  [none, some (.ifCond .ge 40, 36, 73, 0, 0, 0), none, none, some (.iload_n 3, 37, 3, 0, 0, 0), some (.aload_n 2, 38, 2, 0, 0, 0), some (.arraylength, 39, 0, 0, 0, 0), some (.if_icmp .lt 5, 42, 44, 0, 0, 0), none, none, some (.iconst 0, 43, 0, 0, 0, 0), some (.ireturn, 44, 0, 0, 2, 0), some (.aload_n 2, 45, 2, 0, 0, 0), some (.iload_n 3, 46, 3, 0, 0, 0), some (.iload 5, 48, 5, 0, 0, 0), none],
  [some (.ldc 16, 50, 0, 0, 0, 100000), none, some (.if_icmp .ge 9, 53, 59, 0, 0, 0), none, none, some (.iload 5, 55, 5, 0, 0, 0), none, some (.i2l, 56, 0, 0, 0, 0), some (.goto 10, 66, 0, 0, 0, 0), none, none, some (.aload_n 1, 60, 1, 0, 0, 0), some (.iload 5, 62, 5, 0, 0, 0), none, some (.ldc 16, 64, 0, 0, 0, 100000), none],
  [some (.isub, 65, 0, 0, 0, 0), some (.laload, 66, 0, 0, 0, 0), some (.lastore, 67, 0, 0, 0, 0), some (.iinc 3 1, 70, 3, 0, 0, 0), none, none, some (.goto 125, 195, 0, 0, 0, 0), none, none, some (.iload_n 3, 74, 3, 0, 0, 0), some (.iconst 1, 75, 0, 0, 0, 0), some (.if_icmp .lt 16, 78, 91, 0, 0, 0), none, none, some (.iload_n 3, 79, 3, 0, 0, 0), some (.iconst 2, 80, 0, 0, 0, 0)],
  [some (.if_icmp .ge 13, 83, 93, 0, 0, 0), none, none, some (.iload 6, 85, 6, 0, 0, 0), none, some (.invokestatic 17, 88, 67, 1, 0, 0), none, none, some (.ifCond .eq 5, 91, 93, 0, 0, 0), none, none, some (.iconst 0, 92, 0, 0, 0, 0), some (.ireturn, 93, 0, 0, 2, 0), some (.aload_n 2, 94, 2, 0, 0, 0), some (.iload_n 3, 95, 3, 0, 0, 0), some (.iconst 1, 96, 0, 0, 0, 0)],
  [some (.isub, 97, 0, 0, 0, 0), some (.laload, 98, 0, 0, 0, 0), some (.lstore 7, 100, 7, 0, 0, 0), none, some (.iload 6, 102, 6, 0, 0, 0), none, some (.bipush 59, 104, 0, 0, 0, 0), none, some (.if_icmp .ne 16, 107, 120, 0, 0, 0), none, none, some (.lload 7, 109, 7, 0, 0, 0), none, some (.lconst 0, 110, 0, 0, 0, 0), some (.lcmp, 111, 0, 0, 0, 0), some (.ifCond .le 7, 114, 118, 0, 0, 0)],
  [none, none, some (.iconst 1, 115, 0, 0, 0, 0), some (.goto 4, 119, 0, 0, 0, 0), none, none, some (.iconst 0, 119, 0, 0, 0, 0), some (.ireturn, 120, 0, 0, 2, 0), some (.iload 6, 122, 6, 0, 0, 0), none, some (.bipush 33, 124, 0, 0, 0, 0), none, some (.if_icmp .ne 15, 127, 139, 0, 0, 0), none, none, some (.aload_n 2, 128, 2, 0, 0, 0)],
  [some (.iload_n 3, 129, 3, 0, 0, 0), some (.iconst 1, 130, 0, 0, 0, 0), some (.isub, 131, 0, 0, 0, 0), some (.lconst 1, 132, 0, 0, 0, 1), some (.lload 7, 134, 7, 0, 0, 0), none, some (.lsub, 135, 0, 0, 0, 0), some (.lastore, 136, 0, 0, 0, 0), some (.goto 59, 195, 0, 0, 0, 0), none, none, some (.iload 6, 141, 6, 0, 0, 0), none, some (.bipush 63, 143, 0, 0, 0, 0), none, some (.if_icmp .eq 26, 146, 169, 0, 0, 0)],
  [none, none, some (.aload_n 2, 147, 2, 0, 0, 0), some (.iload_n 3, 148, 3, 0, 0, 0), some (.iconst 2, 149, 0, 0, 0, 0), some (.isub, 150, 0, 0, 0, 0), some (.iload 6, 152, 6, 0, 0, 0), none, some (.aload_n 2, 153, 2, 0, 0, 0), some (.iload_n 3, 154, 3, 0, 0, 0), some (.iconst 2, 155, 0, 0, 0, 0), some (.isub, 156, 0, 0, 0, 0), some (.laload, 157, 0, 0, 0, 0), some (.lload 7, 159, 7, 0, 0, 0), none, some (.invokestatic 21, 162, 68, 3, 0, 0)],
  [none, none, some (.lastore, 163, 0, 0, 0, 0), some (.iinc 3 (-1), 166, 3, 0, 0, 0), none, none, some (.goto 29, 195, 0, 0, 0, 0), none, none, some (.lload 7, 171, 7, 0, 0, 0), none, some (.lconst 0, 172, 0, 0, 0, 0), some (.lcmp, 173, 0, 0, 0, 0), some (.ifCond .eq 19, 176, 192, 0, 0, 0), none, none],
  [some (.aload_n 2, 177, 2, 0, 0, 0), some (.iload_n 3, 178, 3, 0, 0, 0), some (.iconst 2, 179, 0, 0, 0, 0), some (.isub, 180, 0, 0, 0, 0), some (.laload, 181, 0, 0, 0, 0), some (.lconst 0, 182, 0, 0, 0, 0), some (.lcmp, 183, 0, 0, 0, 0), some (.ifCond .le 7, 186, 190, 0, 0, 0), none, none, some (.iconst 1, 187, 0, 0, 0, 0), some (.goto 4, 191, 0, 0, 0, 0), none, none, some (.iconst 0, 191, 0, 0, 0, 0), some (.ireturn, 192, 0, 0, 2, 0)],
  [some (.iinc 3 (-2), 195, 3, 0, 0, 0), none, none, some (.iinc 4 1, 198, 4, 0, 0, 0), none, none, some (.goto (-193), 5, 0, 0, 0, 0), none, none, some (.iconst 0, 202, 0, 0, 0, 0), some (.ireturn, 203, 0, 0, 2, 0)]]
def zt67 : ZT := [[some (.iload_n 0, 1, 0, 0, 0, 0), some (.bipush 59, 3, 0, 0, 0, 0), none, some (.if_icmp .eq 13, 6, 16, 0, 0, 0), none, none, some (.iload_n 0, 7, 0, 0, 0, 0), some (.bipush 33, 9, 0, 0, 0, 0), none, some (.if_icmp .eq 7, 12, 16, 0, 0, 0), none, none, some (.iconst 1, 13, 0, 0, 0, 0), some (.goto 4, 17, 0, 0, 0, 0), none, none],
  [some (.iconst 0, 17, 0, 0, 0, 0), some (.ireturn, 18, 0, 0, 2, 0)]]
def zt68 : ZT := [[some (.iload_n 0, 1, 0, 0, 0, 0), some (.lookupswitch 115 #[(37, 93), (38, 107), (42, 75), (43, 67), (45, 71), (47, 79), (124, 111)], 68, 0, 0, 0, 0), none, none, none, none, none, none, none, none, none, none, none, none, none, none],
  [none, none, none, none, none, none, none, none, none, none, none, none, none, none, none, none],
  [none, none, none, none, none, none, none, none, none, none, none, none, none, none, none, none],
  [none, none, none, none, none, none, none, none, none, none, none, none, none, none, none, none],
  [none, none, none, none, some (.lload_n 1, 69, 1, 0, 0, 0), some (.lload_n 3, 70, 3, 0, 0, 0), some (.ladd, 71, 0, 0, 0, 0), some (.lreturn, 72, 0, 0, 3, 0), some (.lload_n 1, 73, 1, 0, 0, 0), some (.lload_n 3, 74, 3, 0, 0, 0), some (.lsub, 75, 0, 0, 0, 0), some (.lreturn, 76, 0, 0, 3, 0), some (.lload_n 1, 77, 1, 0, 0, 0), some (.lload_n 3, 78, 3, 0, 0, 0), some (.lmul, 79, 0, 0, 0, 0), some (.lreturn, 80, 0, 0, 3, 0)],
  [some (.lload_n 3, 81, 3, 0, 0, 0), some (.lconst 0, 82, 0, 0, 0, 0), some (.lcmp, 83, 0, 0, 0, 0), some (.ifCond .ne 7, 86, 90, 0, 0, 0), none, none, some (.lconst 0, 87, 0, 0, 0, 0), some (.goto 6, 93, 0, 0, 0, 0), none, none, some (.lload_n 1, 91, 1, 0, 0, 0), some (.lload_n 3, 92, 3, 0, 0, 0), some (.ldiv, 93, 0, 0, 0, 0), some (.lreturn, 94, 0, 0, 3, 0), some (.lload_n 3, 95, 3, 0, 0, 0), some (.lconst 0, 96, 0, 0, 0, 0)],
  [some (.lcmp, 97, 0, 0, 0, 0), some (.ifCond .ne 7, 100, 104, 0, 0, 0), none, none, some (.lconst 0, 101, 0, 0, 0, 0), some (.goto 6, 107, 0, 0, 0, 0), none, none, some (.lload_n 1, 105, 1, 0, 0, 0), some (.lload_n 3, 106, 3, 0, 0, 0), some (.lrem, 107, 0, 0, 0, 0), some (.lreturn, 108, 0, 0, 3, 0), some (.lload_n 1, 109, 1, 0, 0, 0), some (.lload_n 3, 110, 3, 0, 0, 0), some (.land, 111, 0, 0, 0, 0), some (.lreturn, 112, 0, 0, 3, 0)],
  [some (.lload_n 1, 113, 1, 0, 0, 0), some (.lload_n 3, 114, 3, 0, 0, 0), some (.lor, 115, 0, 0, 0, 0), some (.lreturn, 116, 0, 0, 3, 0), some (.iload_n 0, 117, 0, 0, 0, 0), some (.lload_n 1, 118, 1, 0, 0, 0), some (.lload_n 3, 119, 3, 0, 0, 0), some (.invokestatic 25, 122, 69, 3, 0, 0), none, none, some (.ifCond .eq 7, 125, 129, 0, 0, 0), none, none, some (.lconst 1, 126, 0, 0, 0, 1), some (.goto 4, 130, 0, 0, 0, 0), none],
  [none, some (.lconst 0, 130, 0, 0, 0, 0), some (.lreturn, 131, 0, 0, 3, 0)]]
def zt69 : ZT := [[some (.iload_n 0, 1, 0, 0, 0, 0), some (.lookupswitch 91 #[(60, 43), (61, 67), (316, 55), (318, 79)], 44, 0, 0, 0, 0), none, none, none, none, none, none, none, none, none, none, none, none, none, none],
  [none, none, none, none, none, none, none, none, none, none, none, none, none, none, none, none],
  [none, none, none, none, none, none, none, none, none, none, none, none, some (.lload_n 1, 45, 1, 0, 0, 0), some (.lload_n 3, 46, 3, 0, 0, 0), some (.lcmp, 47, 0, 0, 0, 0), some (.ifCond .ge 7, 50, 54, 0, 0, 0)],
  [none, none, some (.iconst 1, 51, 0, 0, 0, 0), some (.goto 4, 55, 0, 0, 0, 0), none, none, some (.iconst 0, 55, 0, 0, 0, 0), some (.ireturn, 56, 0, 0, 2, 0), some (.lload_n 1, 57, 1, 0, 0, 0), some (.lload_n 3, 58, 3, 0, 0, 0), some (.lcmp, 59, 0, 0, 0, 0), some (.ifCond .gt 7, 62, 66, 0, 0, 0), none, none, some (.iconst 1, 63, 0, 0, 0, 0), some (.goto 4, 67, 0, 0, 0, 0)],
  [none, none, some (.iconst 0, 67, 0, 0, 0, 0), some (.ireturn, 68, 0, 0, 2, 0), some (.lload_n 1, 69, 1, 0, 0, 0), some (.lload_n 3, 70, 3, 0, 0, 0), some (.lcmp, 71, 0, 0, 0, 0), some (.ifCond .ne 7, 74, 78, 0, 0, 0), none, none, some (.iconst 1, 75, 0, 0, 0, 0), some (.goto 4, 79, 0, 0, 0, 0), none, none, some (.iconst 0, 79, 0, 0, 0, 0), some (.ireturn, 80, 0, 0, 2, 0)],
  [some (.lload_n 1, 81, 1, 0, 0, 0), some (.lload_n 3, 82, 3, 0, 0, 0), some (.lcmp, 83, 0, 0, 0, 0), some (.ifCond .lt 7, 86, 90, 0, 0, 0), none, none, some (.iconst 1, 87, 0, 0, 0, 0), some (.goto 4, 91, 0, 0, 0, 0), none, none, some (.iconst 0, 91, 0, 0, 0, 0), some (.ireturn, 92, 0, 0, 2, 0), some (.lload_n 1, 93, 1, 0, 0, 0), some (.lload_n 3, 94, 3, 0, 0, 0), some (.lcmp, 95, 0, 0, 0, 0), some (.ifCond .le 7, 98, 102, 0, 0, 0)],
  [none, none, some (.iconst 1, 99, 0, 0, 0, 0), some (.goto 4, 103, 0, 0, 0, 0), none, none, some (.iconst 0, 103, 0, 0, 0, 0), some (.ireturn, 104, 0, 0, 2, 0)]]
def zt70 : ZT := [[some (.aload_n 0, 1, 0, 0, 0, 0), some (.dup, 2, 0, 0, 0, 0), some (.getfield 27, 5, 5, 0, 5, 0), none, none, some (.iconst 1, 6, 0, 0, 0, 0), some (.aload_n 0, 7, 0, 0, 0, 0), some (.getfield 9, 10, 0, 2, 5, 0), none, none, some (.iload_n 1, 11, 1, 0, 0, 0), some (.iaload, 12, 0, 0, 0, 0), some (.ishl, 13, 0, 0, 0, 0), some (.iconst (-1), 14, 0, 0, 0, 0), some (.ixor, 15, 0, 0, 0, 0), some (.iand, 16, 0, 0, 0, 0)],
  [some (.putfield 27, 19, 5, 0, 5, 0), none, none, some (.aload_n 0, 20, 0, 0, 0, 0), some (.getfield 9, 23, 0, 2, 5, 0), none, none, some (.iload_n 1, 24, 1, 0, 0, 0), some (.iconst (-1), 25, 0, 0, 0, 0), some (.iastore, 26, 0, 0, 0, 0), some (.aload_n 0, 27, 0, 0, 0, 0), some (.getfield 15, 30, 1, 2, 5, 0), none, none, some (.iload_n 1, 31, 1, 0, 0, 0), some (.iconst (-1), 32, 0, 0, 0, 0)],
  [some (.iastore, 33, 0, 0, 0, 0), some (.aload_n 0, 34, 0, 0, 0, 0), some (.getfield 18, 37, 2, 2, 5, 0), none, none, some (.iload_n 1, 38, 1, 0, 0, 0), some (.iconst 0, 39, 0, 0, 0, 0), some (.iastore, 40, 0, 0, 0, 0), some (.aload_n 0, 41, 0, 0, 0, 0), some (.getfield 21, 44, 3, 2, 5, 0), none, none, some (.iload_n 1, 45, 1, 0, 0, 0), some (.iconst 0, 46, 0, 0, 0, 0), some (.iastore, 47, 0, 0, 0, 0), some (.aload_n 0, 48, 0, 0, 0, 0)],
  [some (.dup, 49, 0, 0, 0, 0), some (.getfield 37, 52, 8, 0, 5, 0), none, none, some (.iconst 1, 53, 0, 0, 0, 0), some (.iadd, 54, 0, 0, 0, 0), some (.putfield 37, 57, 8, 0, 5, 0), none, none, some (.return_, 58, 0, 0, 0, 0)]]
def zt71 : ZT := [[some (.aload_n 1, 1, 1, 0, 0, 0), some (.getfield 39, 4, 0, 2, 5, 0), none, none, some (.iload_n 2, 5, 2, 0, 0, 0), some (.iaload, 6, 0, 0, 0, 0), some (.iconst 1, 7, 0, 0, 0, 0), some (.iadd, 8, 0, 0, 0, 0), some (.aload_n 0, 9, 0, 0, 0, 0), some (.getfield 9, 12, 0, 2, 0, 0), none, none, some (.getfield 74, 15, 0, 0, 3, 0), none, none, some (.if_icmp .lt 7, 18, 22, 0, 0, 0)],
  [none, none, some (.iconst 0, 19, 0, 0, 0, 0), some (.goto 11, 30, 0, 0, 0, 0), none, none, some (.aload_n 1, 23, 1, 0, 0, 0), some (.getfield 39, 26, 0, 2, 5, 0), none, none, some (.iload_n 2, 27, 2, 0, 0, 0), some (.iaload, 28, 0, 0, 0, 0), some (.iconst 1, 29, 0, 0, 0, 0), some (.iadd, 30, 0, 0, 0, 0), some (.istore_n 3, 31, 3, 0, 0, 0), some (.aload_n 1, 32, 1, 0, 0, 0)],
  [some (.getfield 45, 35, 2, 2, 5, 0), none, none, some (.iload_n 2, 36, 2, 0, 0, 0), some (.iaload, 37, 0, 0, 0, 0), some (.ifCond .le 22, 40, 59, 0, 0, 0), none, none, some (.aload_n 1, 41, 1, 0, 0, 0), some (.iload_n 3, 42, 3, 0, 0, 0), some (.invokevirtual 77, 45, 72, 2, 0, 0), none, none, some (.ifCond .eq 14, 48, 59, 0, 0, 0), none, none],
  [some (.aload_n 1, 49, 1, 0, 0, 0), some (.iload_n 2, 50, 2, 0, 0, 0), some (.iload_n 3, 51, 3, 0, 0, 0), some (.invokevirtual 81, 54, 73, 3, 0, 0), none, none, some (.aload_n 0, 55, 0, 0, 0, 0), some (.iconst 1, 56, 0, 0, 0, 0), some (.putfield 26, 59, 4, 3, 0, 0), none, none, some (.return_, 60, 0, 0, 0, 0)]]
def zt72 : ZT := [[some (.aload_n 0, 1, 0, 0, 0, 0), some (.getfield 27, 4, 5, 0, 5, 0), none, none, some (.aload_n 0, 5, 0, 0, 0, 0), some (.getfield 31, 8, 6, 0, 5, 0), none, none, some (.ior, 9, 0, 0, 0, 0), some (.iload_n 1, 10, 1, 0, 0, 0), some (.ishr, 11, 0, 0, 0, 0), some (.iconst 1, 12, 0, 0, 0, 0), some (.iand, 13, 0, 0, 0, 0), some (.ifCond .ne 7, 16, 20, 0, 0, 0), none, none],
  [some (.iconst 1, 17, 0, 0, 0, 0), some (.goto 4, 21, 0, 0, 0, 0), none, none, some (.iconst 0, 21, 0, 0, 0, 0), some (.ireturn, 22, 0, 0, 2, 0)]]
def zt73 : ZT := [[some (.aload_n 0, 1, 0, 0, 0, 0), some (.aload_n 0, 2, 0, 0, 0, 0), some (.getfield 27, 5, 5, 0, 5, 0), none, none, some (.iconst 1, 6, 0, 0, 0, 0), some (.aload_n 0, 7, 0, 0, 0, 0), some (.getfield 9, 10, 0, 2, 5, 0), none, none, some (.iload_n 1, 11, 1, 0, 0, 0), some (.iaload, 12, 0, 0, 0, 0), some (.ishl, 13, 0, 0, 0, 0), some (.iconst (-1), 14, 0, 0, 0, 0), some (.ixor, 15, 0, 0, 0, 0), some (.iand, 16, 0, 0, 0, 0)],
  [some (.iconst 1, 17, 0, 0, 0, 0), some (.iload_n 2, 18, 2, 0, 0, 0), some (.ishl, 19, 0, 0, 0, 0), some (.ior, 20, 0, 0, 0, 0), some (.putfield 27, 23, 5, 0, 5, 0), none, none, some (.aload_n 0, 24, 0, 0, 0, 0), some (.getfield 9, 27, 0, 2, 5, 0), none, none, some (.iload_n 1, 28, 1, 0, 0, 0), some (.iload_n 2, 29, 2, 0, 0, 0), some (.iastore, 30, 0, 0, 0, 0), some (.aload_n 0, 31, 0, 0, 0, 0), some (.getfield 18, 34, 2, 2, 5, 0)],
  [none, none, some (.iload_n 1, 35, 1, 0, 0, 0), some (.dup2, 36, 0, 0, 0, 0), some (.iaload, 37, 0, 0, 0, 0), some (.iconst 1, 38, 0, 0, 0, 0), some (.isub, 39, 0, 0, 0, 0), some (.iastore, 40, 0, 0, 0, 0), some (.return_, 41, 0, 0, 0, 0)]]
def zt74 : ZT := [[some (.aload_n 0, 1, 0, 0, 0, 0), some (.getfield 9, 4, 0, 2, 0, 0), none, none, some (.getfield 122, 7, 4, 2, 3, 0), none, none, some (.iload_n 2, 8, 2, 0, 0, 0), some (.iaload, 9, 0, 0, 0, 0), some (.istore_n 3, 10, 3, 0, 0, 0), some (.iload_n 3, 11, 3, 0, 0, 0), some (.ifCond .le 33, 14, 44, 0, 0, 0), none, none, some (.aload_n 1, 15, 1, 0, 0, 0), some (.getfield 71, 18, 7, 0, 5, 0)],
  [none, none, some (.iload_n 3, 19, 3, 0, 0, 0), some (.irem, 20, 0, 0, 0, 0), some (.ifCond .ne 24, 23, 44, 0, 0, 0), none, none, some (.aload_n 1, 24, 1, 0, 0, 0), some (.getfield 94, 27, 4, 2, 5, 0), none, none, some (.iload_n 2, 28, 2, 0, 0, 0), some (.iaload, 29, 0, 0, 0, 0), some (.bipush 99, 31, 0, 0, 0, 0), none, some (.if_icmp .ge 13, 34, 44, 0, 0, 0)],
  [none, none, some (.aload_n 1, 35, 1, 0, 0, 0), some (.getfield 94, 38, 4, 2, 5, 0), none, none, some (.iload_n 2, 39, 2, 0, 0, 0), some (.dup2, 40, 0, 0, 0, 0), some (.iaload, 41, 0, 0, 0, 0), some (.iconst 1, 42, 0, 0, 0, 0), some (.iadd, 43, 0, 0, 0, 0), some (.iastore, 44, 0, 0, 0, 0), some (.aload_n 1, 45, 1, 0, 0, 0), some (.invokevirtual 125, 48, 75, 1, 0, 0), none, none],
  [some (.istore 4, 50, 4, 0, 0, 0), none, some (.aload_n 1, 51, 1, 0, 0, 0), some (.getfield 94, 54, 4, 2, 5, 0), none, none, some (.iload_n 2, 55, 2, 0, 0, 0), some (.iaload, 56, 0, 0, 0, 0), some (.ifCond .le 81, 59, 137, 0, 0, 0), none, none, some (.aload_n 1, 60, 1, 0, 0, 0), some (.aload_n 0, 61, 0, 0, 0, 0), some (.getfield 9, 64, 0, 2, 0, 0), none, none],
  [some (.getfield 91, 67, 3, 2, 3, 0), none, none, some (.iload_n 2, 68, 2, 0, 0, 0), some (.iaload, 69, 0, 0, 0, 0), some (.invokevirtual 77, 72, 72, 2, 0, 0), none, none, some (.ifCond .eq 65, 75, 137, 0, 0, 0), none, none, some (.iload 4, 77, 4, 0, 0, 0), none, some (.iconst (-1), 78, 0, 0, 0, 0), some (.if_icmp .eq 59, 81, 137, 0, 0, 0), none],
  [none, some (.iload_n 2, 82, 2, 0, 0, 0), some (.iconst 1, 83, 0, 0, 0, 0), some (.iadd, 84, 0, 0, 0, 0), some (.aload_n 0, 85, 0, 0, 0, 0), some (.getfield 9, 88, 0, 2, 0, 0), none, none, some (.getfield 63, 91, 1, 0, 3, 0), none, none, some (.if_icmp .lt 7, 94, 98, 0, 0, 0), none, none, some (.iconst 0, 95, 0, 0, 0, 0), some (.goto 6, 101, 0, 0, 0, 0)],
  [none, none, some (.iload_n 2, 99, 2, 0, 0, 0), some (.iconst 1, 100, 0, 0, 0, 0), some (.iadd, 101, 0, 0, 0, 0), some (.istore 5, 103, 5, 0, 0, 0), none, some (.aload_n 1, 104, 1, 0, 0, 0), some (.iload 4, 106, 4, 0, 0, 0), none, some (.aload_n 0, 107, 0, 0, 0, 0), some (.getfield 9, 110, 0, 2, 0, 0), none, none, some (.getfield 91, 113, 3, 2, 3, 0), none],
  [none, some (.iload_n 2, 114, 2, 0, 0, 0), some (.iaload, 115, 0, 0, 0, 0), some (.iload 5, 117, 5, 0, 0, 0), none, some (.bipush 20, 119, 0, 0, 0, 0), none, some (.invokevirtual 129, 122, 28, 5, 0, 0), none, none, some (.aload_n 1, 123, 1, 0, 0, 0), some (.getfield 94, 126, 4, 2, 5, 0), none, none, some (.iload_n 2, 127, 2, 0, 0, 0), some (.dup2, 128, 0, 0, 0, 0)],
  [some (.iaload, 129, 0, 0, 0, 0), some (.iconst 1, 130, 0, 0, 0, 0), some (.isub, 131, 0, 0, 0, 0), some (.iastore, 132, 0, 0, 0, 0), some (.aload_n 0, 133, 0, 0, 0, 0), some (.iconst 1, 134, 0, 0, 0, 0), some (.putfield 26, 137, 4, 3, 0, 0), none, none, some (.return_, 138, 0, 0, 0, 0)]]
def zt75 : ZT := [[some (.iconst 0, 1, 0, 0, 0, 0), some (.istore_n 1, 2, 1, 0, 0, 0), some (.iload_n 1, 3, 1, 0, 0, 0), some (.bipush 6, 5, 0, 0, 0, 0), none, some (.if_icmp .ge 21, 8, 26, 0, 0, 0), none, none, some (.aload_n 0, 9, 0, 0, 0, 0), some (.getfield 9, 12, 0, 2, 5, 0), none, none, some (.iload_n 1, 13, 1, 0, 0, 0), some (.iaload, 14, 0, 0, 0, 0), some (.iconst (-1), 15, 0, 0, 0, 0), some (.if_icmp .ne 5, 18, 20, 0, 0, 0)],
  [none, none, some (.iload_n 1, 19, 1, 0, 0, 0), some (.ireturn, 20, 0, 0, 1, 0), some (.iinc 1 1, 23, 1, 0, 0, 0), none, none, some (.goto (-21), 2, 0, 0, 0, 0), none, none, some (.iconst (-1), 27, 0, 0, 0, 0), some (.ireturn, 28, 0, 0, 1, 0)]]
def zt76 : ZT := [[some (.aload_n 0, 1, 0, 0, 0, 0), some (.iload_n 1, 2, 1, 0, 0, 0), some (.invokevirtual 214, 5, 77, 2, 0, 0), none, none, some (.ifCond .eq 13, 8, 18, 0, 0, 0), none, none, some (.iload_n 2, 9, 2, 0, 0, 0), some (.iconst 1, 10, 0, 0, 0, 0), some (.bipush 20, 12, 0, 0, 0, 0), none, some (.invokestatic 217, 15, 78, 3, 0, 0), none, none, some (.ifCond .ne 5, 18, 20, 0, 0, 0)],
  [none, none, some (.iconst (-1), 19, 0, 0, 0, 0), some (.ireturn, 20, 0, 0, 1, 0), some (.aload_n 0, 21, 0, 0, 0, 0), some (.invokevirtual 204, 24, 59, 1, 0, 0), none, none, some (.aload_n 0, 25, 0, 0, 0, 0), some (.getfield 33, 28, 5, 2, 10, 0), none, none, some (.getfield 152, 31, 2, 2, 5, 0), none, none, some (.iload_n 1, 32, 1, 0, 0, 0)],
  [some (.bipush 99, 34, 0, 0, 0, 0), none, some (.aload_n 0, 35, 0, 0, 0, 0), some (.getfield 33, 38, 5, 2, 10, 0), none, none, some (.getfield 152, 41, 2, 2, 5, 0), none, none, some (.iload_n 1, 42, 1, 0, 0, 0), some (.iaload, 43, 0, 0, 0, 0), some (.iload_n 2, 44, 2, 0, 0, 0), some (.iadd, 45, 0, 0, 0, 0), some (.invokestatic 221, 48, 16, 2, 0, 0), none, none],
  [some (.iastore, 49, 0, 0, 0, 0), some (.aload_n 0, 50, 0, 0, 0, 0), some (.getfield 33, 53, 5, 2, 10, 0), none, none, some (.getfield 152, 56, 2, 2, 5, 0), none, none, some (.iload_n 1, 57, 1, 0, 0, 0), some (.iaload, 58, 0, 0, 0, 0), some (.ireturn, 59, 0, 0, 1, 0)]]
def zt77 : ZT := [[some (.iload_n 1, 1, 1, 0, 0, 0), some (.invokestatic 142, 4, 48, 1, 0, 0), none, none, some (.ifCond .eq 20, 7, 24, 0, 0, 0), none, none, some (.aload_n 0, 8, 0, 0, 0, 0), some (.getfield 33, 11, 5, 2, 10, 0), none, none, some (.getfield 146, 14, 0, 2, 5, 0), none, none, some (.iload_n 1, 15, 1, 0, 0, 0), some (.iaload, 16, 0, 0, 0, 0)],
  [some (.iconst (-1), 17, 0, 0, 0, 0), some (.if_icmp .eq 7, 20, 24, 0, 0, 0), none, none, some (.iconst 1, 21, 0, 0, 0, 0), some (.goto 4, 25, 0, 0, 0, 0), none, none, some (.iconst 0, 25, 0, 0, 0, 0), some (.ireturn, 26, 0, 0, 2, 0)]]
def zt78 : ZT := [[some (.iload_n 0, 1, 0, 0, 0, 0), some (.iload_n 1, 2, 1, 0, 0, 0), some (.if_icmp .lt 12, 5, 14, 0, 0, 0), none, none, some (.iload_n 0, 6, 0, 0, 0, 0), some (.iload_n 2, 7, 2, 0, 0, 0), some (.if_icmp .gt 7, 10, 14, 0, 0, 0), none, none, some (.iconst 1, 11, 0, 0, 0, 0), some (.goto 4, 15, 0, 0, 0, 0), none, none, some (.iconst 0, 15, 0, 0, 0, 0), some (.ireturn, 16, 0, 0, 2, 0)]]
def zt79 : ZT := [[some (.aload_n 0, 1, 0, 0, 0, 0), some (.iload_n 1, 2, 1, 0, 0, 0), some (.invokevirtual 214, 5, 77, 2, 0, 0), none, none, some (.ifCond .ne 5, 8, 10, 0, 0, 0), none, none, some (.iconst (-1), 9, 0, 0, 0, 0), some (.ireturn, 10, 0, 0, 1, 0), some (.aload_n 0, 11, 0, 0, 0, 0), some (.invokevirtual 204, 14, 59, 1, 0, 0), none, none, some (.aload_n 0, 15, 0, 0, 0, 0), some (.getfield 33, 18, 5, 2, 10, 0)],
  [none, none, some (.getfield 146, 21, 0, 2, 5, 0), none, none, some (.iload_n 1, 22, 1, 0, 0, 0), some (.iaload, 23, 0, 0, 0, 0), some (.istore_n 2, 24, 2, 0, 0, 0), some (.aload_n 0, 25, 0, 0, 0, 0), some (.getfield 33, 28, 5, 2, 10, 0), none, none, some (.iload_n 1, 29, 1, 0, 0, 0), some (.invokevirtual 227, 32, 80, 2, 0, 0), none, none],
  [some (.iload_n 2, 33, 2, 0, 0, 0), some (.ireturn, 34, 0, 0, 1, 0)]]
def zt80 : ZT := [[some (.aload_n 0, 1, 0, 0, 0, 0), some (.dup, 2, 0, 0, 0, 0), some (.getfield 31, 5, 6, 0, 5, 0), none, none, some (.iconst 1, 6, 0, 0, 0, 0), some (.aload_n 0, 7, 0, 0, 0, 0), some (.getfield 9, 10, 0, 2, 5, 0), none, none, some (.iload_n 1, 11, 1, 0, 0, 0), some (.iaload, 12, 0, 0, 0, 0), some (.ishl, 13, 0, 0, 0, 0), some (.ior, 14, 0, 0, 0, 0), some (.putfield 31, 17, 6, 0, 5, 0), none],
  [none, some (.aload_n 0, 18, 0, 0, 0, 0), some (.iload_n 1, 19, 1, 0, 0, 0), some (.invokevirtual 40, 22, 70, 2, 0, 0), none, none, some (.return_, 23, 0, 0, 0, 0)]]
def zt81 : ZT := [[some (.aload_n 0, 1, 0, 0, 0, 0), some (.iload_n 1, 2, 1, 0, 0, 0), some (.invokevirtual 170, 5, 52, 2, 0, 0), none, none, some (.ifCond .eq 14, 8, 19, 0, 0, 0), none, none, some (.aload_n 0, 9, 0, 0, 0, 0), some (.getfield 33, 12, 5, 2, 10, 0), none, none, some (.iload_n 1, 13, 1, 0, 0, 0), some (.invokevirtual 173, 16, 53, 2, 0, 0), none, none],
  [some (.ifCond .ne 5, 19, 21, 0, 0, 0), none, none, some (.iconst (-1), 20, 0, 0, 0, 0), some (.ireturn, 21, 0, 0, 1, 0), some (.aload_n 0, 22, 0, 0, 0, 0), some (.invokevirtual 204, 25, 59, 1, 0, 0), none, none, some (.aload_n 0, 26, 0, 0, 0, 0), some (.getfield 33, 29, 5, 2, 10, 0), none, none, some (.iload_n 1, 30, 1, 0, 0, 0), some (.invokevirtual 230, 33, 82, 2, 0, 0), none],
  [none, some (.aload_n 0, 34, 0, 0, 0, 0), some (.getfield 33, 37, 5, 2, 10, 0), none, none, some (.getfield 192, 40, 6, 0, 5, 0), none, none, some (.invokestatic 195, 43, 56, 1, 0, 0), none, none, some (.ireturn, 44, 0, 0, 1, 0)]]
def zt82 : ZT := [[some (.aload_n 0, 1, 0, 0, 0, 0), some (.dup, 2, 0, 0, 0, 0), some (.getfield 31, 5, 6, 0, 5, 0), none, none, some (.iconst 1, 6, 0, 0, 0, 0), some (.iload_n 1, 7, 1, 0, 0, 0), some (.ishl, 8, 0, 0, 0, 0), some (.iconst (-1), 9, 0, 0, 0, 0), some (.ixor, 10, 0, 0, 0, 0), some (.iand, 11, 0, 0, 0, 0), some (.putfield 31, 14, 6, 0, 5, 0), none, none, some (.return_, 15, 0, 0, 0, 0)]]
def zt83 : ZT := [[some (.aload_n 0, 1, 0, 0, 0, 0), some (.iload_n 1, 2, 1, 0, 0, 0), some (.invokevirtual 214, 5, 77, 2, 0, 0), none, none, some (.ifCond .eq 24, 8, 29, 0, 0, 0), none, none, some (.aload_n 0, 9, 0, 0, 0, 0), some (.iload_n 2, 10, 2, 0, 0, 0), some (.invokevirtual 158, 13, 50, 2, 0, 0), none, none, some (.ifCond .eq 16, 16, 29, 0, 0, 0), none, none],
  [some (.aload_n 0, 17, 0, 0, 0, 0), some (.getfield 33, 20, 5, 2, 10, 0), none, none, some (.getfield 149, 23, 1, 2, 5, 0), none, none, some (.iload_n 1, 24, 1, 0, 0, 0), some (.iaload, 25, 0, 0, 0, 0), some (.iload_n 2, 26, 2, 0, 0, 0), some (.if_icmp .ne 5, 29, 31, 0, 0, 0), none, none, some (.iconst (-1), 30, 0, 0, 0, 0), some (.ireturn, 31, 0, 0, 1, 0), some (.aload_n 0, 32, 0, 0, 0, 0)],
  [some (.invokevirtual 204, 35, 59, 1, 0, 0), none, none, some (.aload_n 0, 36, 0, 0, 0, 0), some (.getfield 33, 39, 5, 2, 10, 0), none, none, some (.getfield 149, 42, 1, 2, 5, 0), none, none, some (.iload_n 1, 43, 1, 0, 0, 0), some (.iaload, 44, 0, 0, 0, 0), some (.istore_n 3, 45, 3, 0, 0, 0), some (.aload_n 0, 46, 0, 0, 0, 0), some (.getfield 33, 49, 5, 2, 10, 0), none],
  [none, some (.getfield 149, 52, 1, 2, 5, 0), none, none, some (.iload_n 1, 53, 1, 0, 0, 0), some (.iload_n 2, 54, 2, 0, 0, 0), some (.iastore, 55, 0, 0, 0, 0), some (.iload_n 3, 56, 3, 0, 0, 0), some (.ireturn, 57, 0, 0, 1, 0)]]
def zt84 : ZT := [[some (.aload_n 0, 1, 0, 0, 0, 0), some (.getfield 60, 4, 11, 0, 10, 0), none, none, some (.ifCond .ne 5, 7, 9, 0, 0, 0), none, none, some (.iconst (-1), 8, 0, 0, 0, 0), some (.ireturn, 9, 0, 0, 1, 0), some (.aload_n 0, 10, 0, 0, 0, 0), some (.dup, 11, 0, 0, 0, 0), some (.getfield 60, 14, 11, 0, 10, 0), none, none, some (.iconst 1, 15, 0, 0, 0, 0), some (.isub, 16, 0, 0, 0, 0)],
  [some (.putfield 60, 19, 11, 0, 10, 0), none, none, some (.aload_n 0, 20, 0, 0, 0, 0), some (.aload_n 0, 21, 0, 0, 0, 0), some (.getfield 63, 24, 12, 0, 10, 0), none, none, some (.iconst 1, 25, 0, 0, 0, 0), some (.isub, 26, 0, 0, 0, 0), some (.bipush 20, 28, 0, 0, 0, 0), none, some (.invokestatic 233, 31, 85, 2, 0, 0), none, none, some (.putfield 63, 34, 12, 0, 10, 0)],
  [none, none, some (.aload_n 0, 35, 0, 0, 0, 0), some (.getfield 33, 38, 5, 2, 10, 0), none, none, some (.aload_n 0, 39, 0, 0, 0, 0), some (.getfield 56, 42, 10, 2, 10, 0), none, none, some (.aload_n 0, 43, 0, 0, 0, 0), some (.getfield 63, 46, 12, 0, 10, 0), none, none, some (.aaload, 47, 115, 0, 0, 0), some (.invokevirtual 128, 50, 32, 2, 0, 0)],
  [none, none, some (.aload_n 0, 51, 0, 0, 0, 0), some (.getfield 60, 54, 11, 0, 10, 0), none, none, some (.ireturn, 55, 0, 0, 1, 0)]]
def zt85 : ZT := [[some (.iload_n 0, 1, 0, 0, 0, 0), some (.iload_n 1, 2, 1, 0, 0, 0), some (.irem, 3, 0, 0, 0, 0), some (.istore_n 2, 4, 2, 0, 0, 0), some (.iload_n 0, 5, 0, 0, 0, 0), some (.iload_n 1, 6, 1, 0, 0, 0), some (.ixor, 7, 0, 0, 0, 0), some (.ifCond .ge 11, 10, 18, 0, 0, 0), none, none, some (.iload_n 2, 11, 2, 0, 0, 0), some (.ifCond .eq 7, 14, 18, 0, 0, 0), none, none, some (.iload_n 2, 15, 2, 0, 0, 0), some (.iload_n 1, 16, 1, 0, 0, 0)],
  [some (.iadd, 17, 0, 0, 0, 0), some (.ireturn, 18, 0, 0, 1, 0), some (.iload_n 2, 19, 2, 0, 0, 0), some (.ireturn, 20, 0, 0, 1, 0)]]
def zt86 : ZT := [[some (.aload_n 0, 1, 0, 0, 0, 0), some (.getfield 26, 4, 4, 2, 10, 0), none, none, some (.ifnull 22, 7, 26, 0, 0, 0), none, none, some (.iload_n 2, 8, 2, 0, 0, 0), some (.iconst 0, 9, 0, 0, 0, 0), some (.bipush 100, 11, 0, 0, 0, 0), none, some (.invokestatic 217, 14, 78, 3, 0, 0), none, none, some (.ifCond .eq 12, 17, 26, 0, 0, 0), none],
  [none, some (.iload_n 3, 18, 3, 0, 0, 0), some (.iconst 0, 19, 0, 0, 0, 0), some (.iconst 2, 20, 0, 0, 0, 0), some (.invokestatic 217, 23, 78, 3, 0, 0), none, none, some (.ifCond .ne 6, 26, 29, 0, 0, 0), none, none, some (.bipush (-2), 28, 0, 0, 0, 0), none, some (.ireturn, 29, 0, 0, 1, 0), some (.iload_n 3, 30, 3, 0, 0, 0), some (.iconst 2, 31, 0, 0, 0, 0), some (.if_icmp .eq 13, 34, 44, 0, 0, 0)],
  [none, none, some (.iload_n 1, 35, 1, 0, 0, 0), some (.invokestatic 142, 38, 48, 1, 0, 0), none, none, some (.ifCond .ne 6, 41, 44, 0, 0, 0), none, none, some (.bipush (-2), 43, 0, 0, 0, 0), none, some (.ireturn, 44, 0, 0, 1, 0), some (.aload_n 0, 45, 0, 0, 0, 0), some (.invokevirtual 247, 48, 87, 1, 0, 0), none, none],
  [some (.astore 4, 50, 4, 0, 0, 0), none, some (.aload_n 0, 51, 0, 0, 0, 0), some (.aload 4, 53, 4, 0, 0, 0), none, some (.iload_n 2, 54, 2, 0, 0, 0), some (.invokevirtual 251, 57, 88, 3, 0, 0), none, none, some (.pop, 58, 0, 0, 0, 0), some (.iload_n 3, 59, 3, 0, 0, 0), some (.iconst 2, 60, 0, 0, 0, 0), some (.if_icmp .ne 9, 63, 69, 0, 0, 0), none, none, some (.aload 4, 65, 4, 0, 0, 0)],
  [none, some (.getfield 189, 68, 8, 0, 5, 0), none, none, some (.ireturn, 69, 0, 0, 1, 0), some (.iload_n 3, 70, 3, 0, 0, 0), some (.ifCond .ne 13, 73, 83, 0, 0, 0), none, none, some (.aload 4, 75, 4, 0, 0, 0), none, some (.getfield 146, 78, 0, 2, 5, 0), none, none, some (.iload_n 1, 79, 1, 0, 0, 0), some (.iaload, 80, 0, 0, 0, 0)],
  [some (.goto 10, 90, 0, 0, 0, 0), none, none, some (.aload 4, 85, 4, 0, 0, 0), none, some (.getfield 152, 88, 2, 2, 5, 0), none, none, some (.iload_n 1, 89, 1, 0, 0, 0), some (.iaload, 90, 0, 0, 0, 0), some (.ireturn, 91, 0, 0, 1, 0)]]
def zt87 : ZT := [[some (.aload_n 0, 1, 0, 0, 0, 0), some (.aload_n 0, 2, 0, 0, 0, 0), some (.getfield 37, 5, 6, 0, 10, 0), none, none, some (.invokevirtual 207, 8, 60, 2, 0, 0), none, none, some (.aload_n 0, 9, 0, 0, 0, 0), some (.getfield 94, 12, 17, 2, 10, 0), none, none, some (.aload_n 0, 13, 0, 0, 0, 0), some (.getfield 33, 16, 5, 2, 10, 0), none, none],
  [some (.invokevirtual 128, 19, 32, 2, 0, 0), none, none, some (.aload_n 0, 20, 0, 0, 0, 0), some (.getfield 94, 23, 17, 2, 10, 0), none, none, some (.areturn, 24, 0, 0, 4, 0)]]
def zt88 : ZT := [[some (.aload_n 1, 1, 1, 0, 0, 0), some (.getfield 189, 4, 8, 0, 5, 0), none, none, some (.istore_n 3, 5, 3, 0, 0, 0), some (.iconst 0, 6, 0, 0, 0, 0), some (.istore 4, 8, 4, 0, 0, 0), none, some (.iload 4, 10, 4, 0, 0, 0), none, some (.iload_n 2, 11, 2, 0, 0, 0), some (.if_icmp .ge 18, 14, 29, 0, 0, 0), none, none, some (.aload_n 0, 15, 0, 0, 0, 0), some (.getfield 83, 18, 15, 2, 10, 0)],
  [none, none, some (.aload_n 1, 19, 1, 0, 0, 0), some (.invokevirtual 210, 22, 61, 2, 0, 0), none, none, some (.pop, 23, 0, 0, 0, 0), some (.iinc 4 1, 26, 4, 0, 0, 0), none, none, some (.goto (-18), 8, 0, 0, 0, 0), none, none, some (.aload_n 1, 30, 1, 0, 0, 0), some (.getfield 189, 33, 8, 0, 5, 0), none],
  [none, some (.iload_n 3, 34, 3, 0, 0, 0), some (.isub, 35, 0, 0, 0, 0), some (.ireturn, 36, 0, 0, 1, 0)]]
def zt89 : ZT := [[some (.aload_n 0, 1, 0, 0, 0, 0), some (.iload_n 1, 2, 1, 0, 0, 0), some (.invokevirtual 214, 5, 77, 2, 0, 0), none, none, some (.ifCond .ne 5, 8, 10, 0, 0, 0), none, none, some (.iconst (-1), 9, 0, 0, 0, 0), some (.ireturn, 10, 0, 0, 1, 0), some (.aload_n 0, 11, 0, 0, 0, 0), some (.aload_n 0, 12, 0, 0, 0, 0), some (.invokevirtual 247, 15, 87, 1, 0, 0), none, none, some (.iload_n 1, 16, 1, 0, 0, 0)],
  [some (.sipush 200, 19, 0, 0, 0, 0), none, none, some (.invokevirtual 255, 22, 90, 4, 0, 0), none, none, some (.istore_n 2, 23, 2, 0, 0, 0), some (.iload_n 2, 24, 2, 0, 0, 0), some (.ifCond .ne 8, 27, 32, 0, 0, 0), none, none, some (.bipush (-2), 29, 0, 0, 0, 0), none, some (.goto 14, 43, 0, 0, 0, 0), none, none],
  [some (.aload_n 0, 33, 0, 0, 0, 0), some (.getfield 33, 36, 5, 2, 10, 0), none, none, some (.getfield 182, 39, 7, 0, 5, 0), none, none, some (.iload_n 2, 40, 2, 0, 0, 0), some (.iadd, 41, 0, 0, 0, 0), some (.iconst 1, 42, 0, 0, 0, 0), some (.isub, 43, 0, 0, 0, 0), some (.ireturn, 44, 0, 0, 1, 0)]]
def zt90 : ZT := [[some (.iconst 1, 1, 0, 0, 0, 0), some (.istore 4, 3, 4, 0, 0, 0), none, some (.iload 4, 5, 4, 0, 0, 0), none, some (.iload_n 3, 6, 3, 0, 0, 0), some (.if_icmp .gt 40, 9, 46, 0, 0, 0), none, none, some (.aload_n 0, 10, 0, 0, 0, 0), some (.getfield 83, 13, 15, 2, 10, 0), none, none, some (.aload_n 1, 14, 1, 0, 0, 0), some (.invokevirtual 210, 17, 61, 2, 0, 0), none],
  [none, some (.iload_n 2, 18, 2, 0, 0, 0), some (.ishr, 19, 0, 0, 0, 0), some (.iconst 1, 20, 0, 0, 0, 0), some (.iand, 21, 0, 0, 0, 0), some (.iconst 1, 22, 0, 0, 0, 0), some (.if_icmp .ne 6, 25, 28, 0, 0, 0), none, none, some (.iload 4, 27, 4, 0, 0, 0), none, some (.ireturn, 28, 0, 0, 1, 0), some (.aload_n 1, 29, 1, 0, 0, 0), some (.getfield 152, 32, 2, 2, 5, 0), none, none],
  [some (.iload_n 2, 33, 2, 0, 0, 0), some (.iaload, 34, 0, 0, 0, 0), some (.ifCond .ne 6, 37, 40, 0, 0, 0), none, none, some (.goto 9, 46, 0, 0, 0, 0), none, none, some (.iinc 4 1, 43, 4, 0, 0, 0), none, none, some (.goto (-40), 3, 0, 0, 0, 0), none, none, some (.iconst 0, 47, 0, 0, 0, 0), some (.ireturn, 48, 0, 0, 1, 0)]]
def zt91 : ZT := [[some (.aload_n 0, 1, 0, 0, 0, 0), some (.getfield 26, 4, 4, 2, 10, 0), none, none, some (.ifnonnull 5, 7, 9, 0, 0, 0), none, none, some (.iconst (-1), 8, 0, 0, 0, 0), some (.ireturn, 9, 0, 0, 1, 0), some (.aload_n 0, 10, 0, 0, 0, 0), some (.invokevirtual 247, 13, 87, 1, 0, 0), none, none, some (.astore_n 1, 14, 1, 0, 0, 0), some (.iconst 0, 15, 0, 0, 0, 0), some (.istore_n 2, 16, 2, 0, 0, 0)],
  [some (.iload_n 2, 17, 2, 0, 0, 0), some (.sipush 200, 20, 0, 0, 0, 0), none, none, some (.if_icmp .ge 38, 23, 58, 0, 0, 0), none, none, some (.aload_n 0, 24, 0, 0, 0, 0), some (.getfield 83, 27, 15, 2, 10, 0), none, none, some (.aload_n 1, 28, 1, 0, 0, 0), some (.invokevirtual 210, 31, 61, 2, 0, 0), none, none, some (.pop, 32, 0, 0, 0, 0)],
  [some (.aload_n 0, 33, 0, 0, 0, 0), some (.getfield 83, 36, 15, 2, 10, 0), none, none, some (.getfield 259, 39, 4, 3, 0, 0), none, none, some (.ifCond .ne 13, 42, 52, 0, 0, 0), none, none, some (.aload_n 0, 43, 0, 0, 0, 0), some (.getfield 33, 46, 5, 2, 10, 0), none, none, some (.getfield 182, 49, 7, 0, 5, 0), none],
  [none, some (.iload_n 2, 50, 2, 0, 0, 0), some (.iadd, 51, 0, 0, 0, 0), some (.ireturn, 52, 0, 0, 1, 0), some (.iinc 2 1, 55, 2, 0, 0, 0), none, none, some (.goto (-39), 16, 0, 0, 0, 0), none, none, some (.bipush (-2), 60, 0, 0, 0, 0), none, some (.ireturn, 61, 0, 0, 1, 0)]]
def zt92 : ZT := [[some (.aload_n 0, 1, 0, 0, 0, 0), some (.iload_n 1, 2, 1, 0, 0, 0), some (.invokevirtual 214, 5, 77, 2, 0, 0), none, none, some (.ifCond .eq 13, 8, 18, 0, 0, 0), none, none, some (.iload_n 2, 9, 2, 0, 0, 0), some (.iconst 1, 10, 0, 0, 0, 0), some (.bipush 100, 12, 0, 0, 0, 0), none, some (.invokestatic 217, 15, 78, 3, 0, 0), none, none, some (.ifCond .ne 5, 18, 20, 0, 0, 0)],
  [none, none, some (.iconst (-1), 19, 0, 0, 0, 0), some (.ireturn, 20, 0, 0, 1, 0), some (.iconst 0, 21, 0, 0, 0, 0), some (.istore_n 3, 22, 3, 0, 0, 0), some (.iload_n 3, 23, 3, 0, 0, 0), some (.bipush 60, 25, 0, 0, 0, 0), none, some (.if_icmp .gt 36, 28, 61, 0, 0, 0), none, none, some (.aload_n 0, 29, 0, 0, 0, 0), some (.invokevirtual 247, 32, 87, 1, 0, 0), none, none],
  [some (.astore 4, 34, 4, 0, 0, 0), none, some (.aload 4, 36, 4, 0, 0, 0), none, some (.getfield 152, 39, 2, 2, 5, 0), none, none, some (.iload_n 1, 40, 1, 0, 0, 0), some (.iload_n 3, 41, 3, 0, 0, 0), some (.iastore, 42, 0, 0, 0, 0), some (.aload_n 0, 43, 0, 0, 0, 0), some (.aload 4, 45, 4, 0, 0, 0), none, some (.iload_n 1, 46, 1, 0, 0, 0), some (.iload_n 2, 47, 2, 0, 0, 0), some (.invokevirtual 255, 50, 90, 4, 0, 0)],
  [none, none, some (.ifCond .eq 5, 53, 55, 0, 0, 0), none, none, some (.iload_n 3, 54, 3, 0, 0, 0), some (.ireturn, 55, 0, 0, 1, 0), some (.iinc 3 1, 58, 3, 0, 0, 0), none, none, some (.goto (-36), 22, 0, 0, 0, 0), none, none, some (.bipush (-2), 63, 0, 0, 0, 0), none, some (.ireturn, 64, 0, 0, 1, 0)]]
def zt93 : ZT := [[some (.aload_n 0, 1, 0, 0, 0, 0), some (.iconst 0, 2, 0, 0, 0, 0), some (.iload_n 1, 3, 1, 0, 0, 0), some (.iload_n 2, 4, 2, 0, 0, 0), some (.invokevirtual 263, 7, 94, 4, 0, 0), none, none, some (.ireturn, 8, 0, 0, 1, 0)]]
def zt94 : ZT := [[some (.aload_n 0, 1, 0, 0, 0, 0), some (.getfield 26, 4, 4, 2, 10, 0), none, none, some (.ifnull 22, 7, 26, 0, 0, 0), none, none, some (.iload_n 2, 8, 2, 0, 0, 0), some (.iconst 1, 9, 0, 0, 0, 0), some (.bipush 40, 11, 0, 0, 0, 0), none, some (.invokestatic 217, 14, 78, 3, 0, 0), none, none, some (.ifCond .eq 12, 17, 26, 0, 0, 0), none],
  [none, some (.iload_n 3, 18, 3, 0, 0, 0), some (.iconst 0, 19, 0, 0, 0, 0), some (.iconst 1, 20, 0, 0, 0, 0), some (.invokestatic 217, 23, 78, 3, 0, 0), none, none, some (.ifCond .ne 6, 26, 29, 0, 0, 0), none, none, some (.bipush (-2), 28, 0, 0, 0, 0), none, some (.ireturn, 29, 0, 0, 1, 0), some (.iconst (-1), 30, 0, 0, 0, 0), some (.istore 4, 32, 4, 0, 0, 0), none],
  [some (.aload_n 0, 33, 0, 0, 0, 0), some (.aload_n 0, 34, 0, 0, 0, 0), some (.invokevirtual 247, 37, 87, 1, 0, 0), none, none, some (.iload_n 2, 38, 2, 0, 0, 0), some (.invokevirtual 251, 41, 88, 3, 0, 0), none, none, some (.istore 5, 43, 5, 0, 0, 0), none, some (.iconst 0, 44, 0, 0, 0, 0), some (.istore 6, 46, 6, 0, 0, 0), none, some (.iload 6, 48, 6, 0, 0, 0), none],
  [some (.bipush 20, 50, 0, 0, 0, 0), none, some (.if_icmp .ge 54, 53, 104, 0, 0, 0), none, none, some (.aload_n 0, 54, 0, 0, 0, 0), some (.invokevirtual 247, 57, 87, 1, 0, 0), none, none, some (.astore 7, 59, 7, 0, 0, 0), none, some (.aload_n 0, 60, 0, 0, 0, 0), some (.aload 7, 62, 7, 0, 0, 0), none, some (.iload_n 1, 63, 1, 0, 0, 0), some (.iload 6, 65, 6, 0, 0, 0)],
  [none, some (.invokevirtual 267, 68, 95, 4, 0, 0), none, none, some (.ifCond .ne 6, 71, 74, 0, 0, 0), none, none, some (.goto 27, 98, 0, 0, 0, 0), none, none, some (.aload_n 0, 75, 0, 0, 0, 0), some (.aload 7, 77, 7, 0, 0, 0), none, some (.iload_n 2, 78, 2, 0, 0, 0), some (.invokevirtual 251, 81, 88, 3, 0, 0), none],
  [none, some (.istore 8, 83, 8, 0, 0, 0), none, some (.iload 8, 85, 8, 0, 0, 0), none, some (.iload 5, 87, 5, 0, 0, 0), none, some (.if_icmp .le 11, 90, 98, 0, 0, 0), none, none, some (.iload 8, 92, 8, 0, 0, 0), none, some (.istore 5, 94, 5, 0, 0, 0), none, some (.iload 6, 96, 6, 0, 0, 0), none],
  [some (.istore 4, 98, 4, 0, 0, 0), none, some (.iinc 6 1, 101, 6, 0, 0, 0), none, none, some (.goto (-55), 46, 0, 0, 0, 0), none, none, some (.iload_n 3, 105, 3, 0, 0, 0), some (.ifCond .ne 8, 108, 113, 0, 0, 0), none, none, some (.iload 4, 110, 4, 0, 0, 0), none, some (.goto 5, 115, 0, 0, 0, 0), none],
  [none, some (.iload 5, 115, 5, 0, 0, 0), none, some (.ireturn, 116, 0, 0, 1, 0)]]
def zt95 : ZT := [[some (.iload_n 2, 1, 2, 0, 0, 0), some (.lookupswitch 69 #[(0, 27), (1, 44)], 28, 0, 0, 0, 0), none, none, none, none, none, none, none, none, none, none, none, none, none, none],
  [none, none, none, none, none, none, none, none, none, none, none, none, some (.aload_n 0, 29, 0, 0, 0, 0), some (.iload_n 3, 30, 3, 0, 0, 0), some (.invokevirtual 214, 33, 77, 2, 0, 0), none],
  [none, some (.ifCond .ne 5, 36, 38, 0, 0, 0), none, none, some (.iconst 0, 37, 0, 0, 0, 0), some (.ireturn, 38, 0, 0, 2, 0), some (.aload_n 1, 39, 1, 0, 0, 0), some (.iload_n 3, 40, 3, 0, 0, 0), some (.invokevirtual 227, 43, 80, 2, 0, 0), none, none, some (.iconst 1, 44, 0, 0, 0, 0), some (.ireturn, 45, 0, 0, 2, 0), some (.aload_n 0, 46, 0, 0, 0, 0), some (.iload_n 3, 47, 3, 0, 0, 0), some (.invokevirtual 170, 50, 52, 2, 0, 0)],
  [none, none, some (.ifCond .eq 11, 53, 61, 0, 0, 0), none, none, some (.aload_n 1, 54, 1, 0, 0, 0), some (.iload_n 3, 55, 3, 0, 0, 0), some (.invokevirtual 173, 58, 53, 2, 0, 0), none, none, some (.ifCond .ne 5, 61, 63, 0, 0, 0), none, none, some (.iconst 0, 62, 0, 0, 0, 0), some (.ireturn, 63, 0, 0, 2, 0), some (.aload_n 1, 64, 1, 0, 0, 0)],
  [some (.iload_n 3, 65, 3, 0, 0, 0), some (.invokevirtual 230, 68, 82, 2, 0, 0), none, none, some (.iconst 1, 69, 0, 0, 0, 0), some (.ireturn, 70, 0, 0, 2, 0), some (.aload_n 0, 71, 0, 0, 0, 0), some (.iload_n 3, 72, 3, 0, 0, 0), some (.invokevirtual 158, 75, 50, 2, 0, 0), none, none, some (.ifCond .ne 5, 78, 80, 0, 0, 0), none, none, some (.iconst 0, 79, 0, 0, 0, 0), some (.ireturn, 80, 0, 0, 2, 0)],
  [some (.aload_n 1, 81, 1, 0, 0, 0), some (.getfield 167, 84, 4, 2, 5, 0), none, none, some (.iload_n 3, 85, 3, 0, 0, 0), some (.iconst 0, 86, 0, 0, 0, 0), some (.iastore, 87, 0, 0, 0, 0), some (.aload_n 0, 88, 0, 0, 0, 0), some (.getfield 83, 91, 15, 2, 10, 0), none, none, some (.iload_n 3, 92, 3, 0, 0, 0), some (.putfield 241, 95, 2, 0, 0, 0), none, none, some (.iconst 1, 96, 0, 0, 0, 0)],
  [some (.ireturn, 97, 0, 0, 2, 0)]]
def zt96 : ZT := [[some (.aload_n 0, 1, 0, 0, 0, 0), some (.iconst 1, 2, 0, 0, 0, 0), some (.iload_n 1, 3, 1, 0, 0, 0), some (.iload_n 2, 4, 2, 0, 0, 0), some (.invokevirtual 263, 7, 94, 4, 0, 0), none, none, some (.ireturn, 8, 0, 0, 1, 0)]]
def zt97 : ZT := [[some (.aload_n 0, 1, 0, 0, 0, 0), some (.iconst 2, 2, 0, 0, 0, 0), some (.iload_n 1, 3, 1, 0, 0, 0), some (.iload_n 2, 4, 2, 0, 0, 0), some (.invokevirtual 263, 7, 94, 4, 0, 0), none, none, some (.ireturn, 8, 0, 0, 1, 0)]]
def zt98 : ZT := [[some (.aload_n 0, 1, 0, 0, 0, 0), some (.getfield 26, 4, 4, 2, 10, 0), none, none, some (.ifnull 21, 7, 25, 0, 0, 0), none, none, some (.iload_n 1, 8, 1, 0, 0, 0), some (.iconst 1, 9, 0, 0, 0, 0), some (.iconst 3, 10, 0, 0, 0, 0), some (.invokestatic 217, 13, 78, 3, 0, 0), none, none, some (.ifCond .eq 12, 16, 25, 0, 0, 0), none, none],
  [some (.iload_n 2, 17, 2, 0, 0, 0), some (.iconst 0, 18, 0, 0, 0, 0), some (.iconst 3, 19, 0, 0, 0, 0), some (.invokestatic 217, 22, 78, 3, 0, 0), none, none, some (.ifCond .ne 5, 25, 27, 0, 0, 0), none, none, some (.iconst (-1), 26, 0, 0, 0, 0), some (.ireturn, 27, 0, 0, 1, 0), some (.iload_n 2, 28, 2, 0, 0, 0), some (.iload_n 1, 29, 1, 0, 0, 0), some (.if_icmp .le 6, 32, 35, 0, 0, 0), none, none],
  [some (.bipush (-2), 34, 0, 0, 0, 0), none, some (.ireturn, 35, 0, 0, 1, 0), some (.aload_n 0, 36, 0, 0, 0, 0), some (.aload_n 0, 37, 0, 0, 0, 0), some (.getfield 37, 40, 6, 0, 10, 0), none, none, some (.invokevirtual 207, 43, 60, 2, 0, 0), none, none, some (.aload_n 0, 44, 0, 0, 0, 0), some (.getfield 90, 47, 16, 2, 10, 0), none, none, some (.aload_n 0, 48, 0, 0, 0, 0)],
  [some (.getfield 83, 51, 15, 2, 10, 0), none, none, some (.aload_n 0, 52, 0, 0, 0, 0), some (.getfield 33, 55, 5, 2, 10, 0), none, none, some (.iload_n 1, 56, 1, 0, 0, 0), some (.invokevirtual 271, 59, 99, 4, 0, 0), none, none, some (.iload_n 2, 60, 2, 0, 0, 0), some (.ifCond .ne 21, 63, 81, 0, 0, 0), none, none, some (.aload_n 0, 64, 0, 0, 0, 0)],
  [some (.getfield 33, 67, 5, 2, 10, 0), none, none, some (.getfield 189, 70, 8, 0, 5, 0), none, none, some (.aload_n 0, 71, 0, 0, 0, 0), some (.getfield 90, 74, 16, 2, 10, 0), none, none, some (.getfield 275, 77, 0, 0, 6, 0), none, none, some (.iadd, 78, 0, 0, 0, 0), some (.goto 14, 92, 0, 0, 0, 0), none],
  [none, some (.aload_n 0, 82, 0, 0, 0, 0), some (.getfield 90, 85, 16, 2, 10, 0), none, none, some (.getfield 278, 88, 1, 2, 6, 0), none, none, some (.iload_n 2, 89, 2, 0, 0, 0), some (.iconst 1, 90, 0, 0, 0, 0), some (.isub, 91, 0, 0, 0, 0), some (.iaload, 92, 0, 0, 0, 0), some (.ireturn, 93, 0, 0, 1, 0)]]
def zt99 : ZT := [[some (.aload_n 0, 1, 0, 0, 0, 0), some (.iconst (-1), 2, 0, 0, 0, 0), some (.putfield 9, 5, 0, 0, 6, 0), none, none, some (.aload_n 0, 6, 0, 0, 0, 0), some (.getfield 24, 9, 3, 2, 6, 0), none, none, some (.iconst 0, 10, 0, 0, 0, 0), some (.aaload, 11, 115, 0, 0, 0), some (.aload_n 2, 12, 2, 0, 0, 0), some (.invokevirtual 29, 15, 32, 2, 0, 0), none, none, some (.aload_n 0, 16, 0, 0, 0, 0)],
  [some (.aload_n 1, 17, 1, 0, 0, 0), some (.iconst 0, 18, 0, 0, 0, 0), some (.iload_n 3, 19, 3, 0, 0, 0), some (.iconst 3, 20, 0, 0, 0, 0), some (.invokestatic 33, 23, 16, 2, 0, 0), none, none, some (.iconst 0, 24, 0, 0, 0, 0), some (.invokevirtual 39, 27, 100, 5, 0, 0), none, none, some (.return_, 28, 0, 0, 0, 0)]]
def zt100 : ZT := [[some (.iload_n 2, 1, 2, 0, 0, 0), some (.iload_n 3, 2, 3, 0, 0, 0), some (.if_icmp .ge 8, 5, 10, 0, 0, 0), none, none, some (.iload_n 2, 6, 2, 0, 0, 0), some (.iconst 3, 7, 0, 0, 0, 0), some (.if_icmp .lt 4, 10, 11, 0, 0, 0), none, none, some (.return_, 11, 0, 0, 0, 0), some (.aload_n 1, 12, 1, 0, 0, 0), some (.aload_n 0, 13, 0, 0, 0, 0), some (.getfield 24, 16, 3, 2, 6, 0), none, none],
  [some (.iload_n 2, 17, 2, 0, 0, 0), some (.aaload, 18, 115, 0, 0, 0), some (.invokevirtual 43, 21, 101, 2, 0, 0), none, none, some (.istore 5, 23, 5, 0, 0, 0), none, some (.iload_n 2, 24, 2, 0, 0, 0), some (.iload_n 3, 25, 3, 0, 0, 0), some (.iconst 1, 26, 0, 0, 0, 0), some (.isub, 27, 0, 0, 0, 0), some (.if_icmp .ne 24, 30, 51, 0, 0, 0), none, none, some (.aload_n 0, 31, 0, 0, 0, 0), some (.getfield 19, 34, 2, 2, 6, 0)],
  [none, none, some (.iload_n 2, 35, 2, 0, 0, 0), some (.iload 5, 37, 5, 0, 0, 0), none, some (.iastore, 38, 0, 0, 0, 0), some (.aload_n 0, 39, 0, 0, 0, 0), some (.iload 4, 41, 4, 0, 0, 0), none, some (.iload 5, 43, 5, 0, 0, 0), none, some (.invokestatic 49, 46, 56, 1, 0, 0), none, none, some (.iadd, 47, 0, 0, 0, 0), some (.invokevirtual 55, 50, 102, 2, 0, 0)],
  [none, none, some (.return_, 51, 0, 0, 0, 0), some (.iconst 0, 52, 0, 0, 0, 0), some (.istore 6, 54, 6, 0, 0, 0), none, some (.iload 6, 56, 6, 0, 0, 0), none, some (.bipush 64, 58, 0, 0, 0, 0), none, some (.if_icmp .ge 81, 61, 139, 0, 0, 0), none, none, some (.iload 6, 63, 6, 0, 0, 0), none, some (.iload 5, 65, 5, 0, 0, 0)],
  [none, some (.iconst (-1), 66, 0, 0, 0, 0), some (.ixor, 67, 0, 0, 0, 0), some (.iand, 68, 0, 0, 0, 0), some (.ifCond .ne 65, 71, 133, 0, 0, 0), none, none, some (.aload_n 0, 72, 0, 0, 0, 0), some (.getfield 24, 75, 3, 2, 6, 0), none, none, some (.iload_n 2, 76, 2, 0, 0, 0), some (.iconst 1, 77, 0, 0, 0, 0), some (.iadd, 78, 0, 0, 0, 0), some (.aaload, 79, 115, 0, 0, 0), some (.aload_n 0, 80, 0, 0, 0, 0)],
  [some (.getfield 24, 83, 3, 2, 6, 0), none, none, some (.iload_n 2, 84, 2, 0, 0, 0), some (.aaload, 85, 115, 0, 0, 0), some (.invokevirtual 29, 88, 32, 2, 0, 0), none, none, some (.aload_n 1, 89, 1, 0, 0, 0), some (.iload 6, 91, 6, 0, 0, 0), none, some (.putfield 59, 94, 3, 0, 0, 0), none, none, some (.aload_n 0, 95, 0, 0, 0, 0), some (.getfield 19, 98, 2, 2, 6, 0)],
  [none, none, some (.iload_n 2, 99, 2, 0, 0, 0), some (.iload 6, 101, 6, 0, 0, 0), none, some (.iastore, 102, 0, 0, 0, 0), some (.aload_n 1, 103, 1, 0, 0, 0), some (.aload_n 0, 104, 0, 0, 0, 0), some (.getfield 24, 107, 3, 2, 6, 0), none, none, some (.iload_n 2, 108, 2, 0, 0, 0), some (.iconst 1, 109, 0, 0, 0, 0), some (.iadd, 110, 0, 0, 0, 0), some (.aaload, 111, 115, 0, 0, 0), some (.invokevirtual 62, 114, 61, 2, 0, 0)],
  [none, none, some (.istore 7, 116, 7, 0, 0, 0), none, some (.aload_n 0, 117, 0, 0, 0, 0), some (.aload_n 1, 118, 1, 0, 0, 0), some (.iload_n 2, 119, 2, 0, 0, 0), some (.iconst 1, 120, 0, 0, 0, 0), some (.iadd, 121, 0, 0, 0, 0), some (.iload_n 3, 122, 3, 0, 0, 0), some (.iload 4, 124, 4, 0, 0, 0), none, some (.iload 7, 126, 7, 0, 0, 0), none, some (.invokestatic 49, 129, 56, 1, 0, 0), none],
  [none, some (.iadd, 130, 0, 0, 0, 0), some (.invokevirtual 39, 133, 100, 5, 0, 0), none, none, some (.iinc 6 1, 136, 6, 0, 0, 0), none, none, some (.goto (-82), 54, 0, 0, 0, 0), none, none, some (.return_, 140, 0, 0, 0, 0)]]
def zt101 : ZT := [[some (.iconst 0, 1, 0, 0, 0, 0), some (.istore_n 2, 2, 2, 0, 0, 0), some (.iconst 0, 3, 0, 0, 0, 0), some (.istore_n 3, 4, 3, 0, 0, 0), some (.iload_n 3, 5, 3, 0, 0, 0), some (.bipush 6, 7, 0, 0, 0, 0), none, some (.if_icmp .ge 33, 10, 40, 0, 0, 0), none, none, some (.aload_n 1, 11, 1, 0, 0, 0), some (.getfield 45, 14, 2, 2, 5, 0), none, none, some (.iload_n 3, 15, 3, 0, 0, 0), some (.iaload, 16, 0, 0, 0, 0)],
  [some (.ifCond .le 18, 19, 34, 0, 0, 0), none, none, some (.aload_n 0, 20, 0, 0, 0, 0), some (.aload_n 1, 21, 1, 0, 0, 0), some (.iload_n 3, 22, 3, 0, 0, 0), some (.invokevirtual 85, 25, 63, 3, 0, 0), none, none, some (.ifCond .eq 9, 28, 34, 0, 0, 0), none, none, some (.iload_n 2, 29, 2, 0, 0, 0), some (.iconst 1, 30, 0, 0, 0, 0), some (.iload_n 3, 31, 3, 0, 0, 0), some (.ishl, 32, 0, 0, 0, 0)],
  [some (.ior, 33, 0, 0, 0, 0), some (.istore_n 2, 34, 2, 0, 0, 0), some (.iinc 3 1, 37, 3, 0, 0, 0), none, none, some (.goto (-33), 4, 0, 0, 0, 0), none, none, some (.iload_n 2, 41, 2, 0, 0, 0), some (.ireturn, 42, 0, 0, 1, 0)]]
def zt102 : ZT := [[some (.iload_n 1, 1, 1, 0, 0, 0), some (.aload_n 0, 2, 0, 0, 0, 0), some (.getfield 9, 5, 0, 0, 6, 0), none, none, some (.if_icmp .le 22, 8, 27, 0, 0, 0), none, none, some (.aload_n 0, 9, 0, 0, 0, 0), some (.iload_n 1, 10, 1, 0, 0, 0), some (.putfield 9, 13, 0, 0, 6, 0), none, none, some (.aload_n 0, 14, 0, 0, 0, 0), some (.getfield 19, 17, 2, 2, 6, 0), none],
  [none, some (.iconst 0, 18, 0, 0, 0, 0), some (.aload_n 0, 19, 0, 0, 0, 0), some (.getfield 15, 22, 1, 2, 6, 0), none, none, some (.iconst 0, 23, 0, 0, 0, 0), some (.iconst 3, 24, 0, 0, 0, 0), some (.invokestatic 65, 27, 1003, 0, 0, 0), none, none, some (.return_, 28, 0, 0, 0, 0)]]
def zt103 : ZT := [[some (.aload_n 0, 1, 0, 0, 0, 0), some (.getfield 26, 4, 4, 2, 10, 0), none, none, some (.ifnull 22, 7, 26, 0, 0, 0), none, none, some (.iload_n 1, 8, 1, 0, 0, 0), some (.iconst 1, 9, 0, 0, 0, 0), some (.bipush 100, 11, 0, 0, 0, 0), none, some (.invokestatic 217, 14, 78, 3, 0, 0), none, none, some (.ifCond .eq 12, 17, 26, 0, 0, 0), none],
  [none, some (.iload_n 2, 18, 2, 0, 0, 0), some (.iconst 0, 19, 0, 0, 0, 0), some (.iconst 2, 20, 0, 0, 0, 0), some (.invokestatic 217, 23, 78, 3, 0, 0), none, none, some (.ifCond .ne 5, 26, 28, 0, 0, 0), none, none, some (.iconst (-1), 27, 0, 0, 0, 0), some (.ireturn, 28, 0, 0, 1, 0), some (.aload_n 0, 29, 0, 0, 0, 0), some (.invokevirtual 247, 32, 87, 1, 0, 0), none, none],
  [some (.astore_n 3, 33, 3, 0, 0, 0), some (.iconst (-1), 34, 0, 0, 0, 0), some (.istore 4, 36, 4, 0, 0, 0), none, some (.bipush (-2), 38, 0, 0, 0, 0), none, some (.istore 5, 40, 5, 0, 0, 0), none, some (.bipush (-2), 42, 0, 0, 0, 0), none, some (.istore 6, 44, 6, 0, 0, 0), none, some (.iconst 0, 45, 0, 0, 0, 0), some (.istore 7, 47, 7, 0, 0, 0), none, some (.iload 7, 49, 7, 0, 0, 0)],
  [none, some (.iload_n 1, 50, 1, 0, 0, 0), some (.if_icmp .ge 76, 53, 126, 0, 0, 0), none, none, some (.aload_n 0, 54, 0, 0, 0, 0), some (.getfield 83, 57, 15, 2, 10, 0), none, none, some (.aload_n 3, 58, 3, 0, 0, 0), some (.invokevirtual 210, 61, 61, 2, 0, 0), none, none, some (.pop, 62, 0, 0, 0, 0), some (.iconst 0, 63, 0, 0, 0, 0), some (.istore 8, 65, 8, 0, 0, 0)],
  [none, some (.iload 8, 67, 8, 0, 0, 0), none, some (.aload_n 0, 68, 0, 0, 0, 0), some (.getfield 26, 71, 4, 2, 10, 0), none, none, some (.getfield 179, 74, 1, 0, 3, 0), none, none, some (.if_icmp .ge 46, 77, 120, 0, 0, 0), none, none, some (.aload_n 3, 78, 3, 0, 0, 0), some (.getfield 167, 81, 4, 2, 5, 0), none],
  [none, some (.iload 8, 83, 8, 0, 0, 0), none, some (.iaload, 84, 0, 0, 0, 0), some (.iload 4, 86, 4, 0, 0, 0), none, some (.if_icmp .le 28, 89, 114, 0, 0, 0), none, none, some (.aload_n 3, 90, 3, 0, 0, 0), some (.getfield 167, 93, 4, 2, 5, 0), none, none, some (.iload 8, 95, 8, 0, 0, 0), none, some (.iaload, 96, 0, 0, 0, 0)],
  [some (.istore 4, 98, 4, 0, 0, 0), none, some (.aload_n 0, 99, 0, 0, 0, 0), some (.getfield 33, 102, 5, 2, 10, 0), none, none, some (.getfield 182, 105, 7, 0, 5, 0), none, none, some (.iload 7, 107, 7, 0, 0, 0), none, some (.iadd, 108, 0, 0, 0, 0), some (.istore 5, 110, 5, 0, 0, 0), none, some (.iload 8, 112, 8, 0, 0, 0), none],
  [some (.istore 6, 114, 6, 0, 0, 0), none, some (.iinc 8 1, 117, 8, 0, 0, 0), none, none, some (.goto (-52), 65, 0, 0, 0, 0), none, none, some (.iinc 7 1, 123, 7, 0, 0, 0), none, none, some (.goto (-76), 47, 0, 0, 0, 0), none, none, some (.iload_n 2, 127, 2, 0, 0, 0), some (.ifCond .ne 10, 130, 137, 0, 0, 0)],
  [none, none, some (.iconst 0, 131, 0, 0, 0, 0), some (.iload 4, 133, 4, 0, 0, 0), none, some (.invokestatic 281, 136, 17, 2, 0, 0), none, none, some (.ireturn, 137, 0, 0, 1, 0), some (.iload_n 2, 138, 2, 0, 0, 0), some (.iconst 1, 139, 0, 0, 0, 0), some (.if_icmp .ne 8, 142, 147, 0, 0, 0), none, none, some (.iload 5, 144, 5, 0, 0, 0), none],
  [some (.goto 5, 149, 0, 0, 0, 0), none, none, some (.iload 6, 149, 6, 0, 0, 0), none, some (.ireturn, 150, 0, 0, 1, 0)]]
def zt104 : ZT := [[some (.aload_n 0, 1, 0, 0, 0, 0), some (.iload_n 1, 2, 1, 0, 0, 0), some (.invokevirtual 214, 5, 77, 2, 0, 0), none, none, some (.ifCond .eq 16, 8, 21, 0, 0, 0), none, none, some (.aload_n 0, 9, 0, 0, 0, 0), some (.iload_n 2, 10, 2, 0, 0, 0), some (.invokevirtual 214, 13, 77, 2, 0, 0), none, none, some (.ifCond .eq 8, 16, 21, 0, 0, 0), none, none],
  [some (.iload_n 1, 17, 1, 0, 0, 0), some (.iload_n 2, 18, 2, 0, 0, 0), some (.if_icmp .ne 5, 21, 23, 0, 0, 0), none, none, some (.iconst (-1), 22, 0, 0, 0, 0), some (.ireturn, 23, 0, 0, 1, 0), some (.aload_n 0, 24, 0, 0, 0, 0), some (.getfield 26, 27, 4, 2, 10, 0), none, none, some (.ifnull 23, 30, 50, 0, 0, 0), none, none, some (.iload_n 3, 31, 3, 0, 0, 0), some (.iconst 1, 32, 0, 0, 0, 0)],
  [some (.bipush 20, 34, 0, 0, 0, 0), none, some (.invokestatic 217, 37, 78, 3, 0, 0), none, none, some (.ifCond .eq 13, 40, 50, 0, 0, 0), none, none, some (.iload 4, 42, 4, 0, 0, 0), none, some (.iconst 0, 43, 0, 0, 0, 0), some (.iconst 2, 44, 0, 0, 0, 0), some (.invokestatic 217, 47, 78, 3, 0, 0), none, none, some (.ifCond .ne 5, 50, 52, 0, 0, 0)],
  [none, none, some (.iconst (-1), 51, 0, 0, 0, 0), some (.ireturn, 52, 0, 0, 1, 0), some (.aload_n 0, 53, 0, 0, 0, 0), some (.iload_n 1, 54, 1, 0, 0, 0), some (.iload_n 2, 55, 2, 0, 0, 0), some (.iload_n 3, 56, 3, 0, 0, 0), some (.invokevirtual 284, 59, 105, 4, 0, 0), none, none, some (.iconst 0, 60, 0, 0, 0, 0), some (.istore 5, 62, 5, 0, 0, 0), none, some (.iconst (-1), 63, 0, 0, 0, 0), some (.istore 6, 65, 6, 0, 0, 0)],
  [none, some (.iconst 0, 66, 0, 0, 0, 0), some (.istore 7, 68, 7, 0, 0, 0), none, some (.iload 7, 70, 7, 0, 0, 0), none, some (.aload_n 0, 71, 0, 0, 0, 0), some (.getfield 26, 74, 4, 2, 10, 0), none, none, some (.getfield 179, 77, 1, 0, 3, 0), none, none, some (.aload_n 0, 78, 0, 0, 0, 0), some (.getfield 26, 81, 4, 2, 10, 0), none],
  [none, some (.getfield 179, 84, 1, 0, 3, 0), none, none, some (.imul, 85, 0, 0, 0, 0), some (.if_icmp .ge 53, 88, 138, 0, 0, 0), none, none, some (.aload_n 0, 89, 0, 0, 0, 0), some (.iload 7, 91, 7, 0, 0, 0), none, some (.aload_n 0, 92, 0, 0, 0, 0), some (.getfield 26, 95, 4, 2, 10, 0), none, none, some (.getfield 179, 98, 1, 0, 3, 0)],
  [none, none, some (.idiv, 99, 0, 0, 0, 0), some (.iload 7, 101, 7, 0, 0, 0), none, some (.aload_n 0, 102, 0, 0, 0, 0), some (.getfield 26, 105, 4, 2, 10, 0), none, none, some (.getfield 179, 108, 1, 0, 3, 0), none, none, some (.irem, 109, 0, 0, 0, 0), some (.invokevirtual 288, 112, 108, 3, 0, 0), none, none],
  [some (.ifCond .eq 20, 115, 132, 0, 0, 0), none, none, some (.iload 5, 117, 5, 0, 0, 0), none, some (.ifCond .ne 8, 120, 125, 0, 0, 0), none, none, some (.iload 7, 122, 7, 0, 0, 0), none, some (.goto 5, 127, 0, 0, 0, 0), none, none, some (.iload 6, 127, 6, 0, 0, 0), none, some (.istore 6, 129, 6, 0, 0, 0)],
  [none, some (.iinc 5 1, 132, 5, 0, 0, 0), none, none, some (.iinc 7 1, 135, 7, 0, 0, 0), none, none, some (.goto (-67), 68, 0, 0, 0, 0), none, none, some (.iload 4, 140, 4, 0, 0, 0), none, some (.ifCond .ne 6, 143, 146, 0, 0, 0), none, none, some (.iload 5, 145, 5, 0, 0, 0)],
  [none, some (.ireturn, 146, 0, 0, 1, 0), some (.iload 6, 148, 6, 0, 0, 0), none, some (.iconst (-1), 149, 0, 0, 0, 0), some (.if_icmp .ne 6, 152, 155, 0, 0, 0), none, none, some (.bipush (-2), 154, 0, 0, 0, 0), none, some (.ireturn, 155, 0, 0, 1, 0), some (.iload 4, 157, 4, 0, 0, 0), none, some (.iconst 1, 158, 0, 0, 0, 0), some (.if_icmp .ne 16, 161, 174, 0, 0, 0), none],
  [none, some (.iload 6, 163, 6, 0, 0, 0), none, some (.aload_n 0, 164, 0, 0, 0, 0), some (.getfield 26, 167, 4, 2, 10, 0), none, none, some (.getfield 179, 170, 1, 0, 3, 0), none, none, some (.idiv, 171, 0, 0, 0, 0), some (.goto 13, 184, 0, 0, 0, 0), none, none, some (.iload 6, 176, 6, 0, 0, 0), none],
  [some (.aload_n 0, 177, 0, 0, 0, 0), some (.getfield 26, 180, 4, 2, 10, 0), none, none, some (.getfield 179, 183, 1, 0, 3, 0), none, none, some (.irem, 184, 0, 0, 0, 0), some (.ireturn, 185, 0, 0, 1, 0)]]
def zt105 : ZT := [[some (.iconst 0, 1, 0, 0, 0, 0), some (.istore 4, 3, 4, 0, 0, 0), none, some (.iload 4, 5, 4, 0, 0, 0), none, some (.aload_n 0, 6, 0, 0, 0, 0), some (.getfield 26, 9, 4, 2, 10, 0), none, none, some (.getfield 179, 12, 1, 0, 3, 0), none, none, some (.if_icmp .ge 155, 15, 167, 0, 0, 0), none, none, some (.iconst 0, 16, 0, 0, 0, 0)],
  [some (.istore 5, 18, 5, 0, 0, 0), none, some (.iload 5, 20, 5, 0, 0, 0), none, some (.aload_n 0, 21, 0, 0, 0, 0), some (.getfield 26, 24, 4, 2, 10, 0), none, none, some (.getfield 179, 27, 1, 0, 3, 0), none, none, some (.if_icmp .ge 134, 30, 161, 0, 0, 0), none, none, some (.aload_n 0, 31, 0, 0, 0, 0), some (.invokevirtual 247, 34, 87, 1, 0, 0)],
  [none, none, some (.astore 6, 36, 6, 0, 0, 0), none, some (.aload 6, 38, 6, 0, 0, 0), none, some (.getfield 149, 41, 1, 2, 5, 0), none, none, some (.iload_n 1, 42, 1, 0, 0, 0), some (.iload 4, 44, 4, 0, 0, 0), none, some (.iastore, 45, 0, 0, 0, 0), some (.aload 6, 47, 6, 0, 0, 0), none, some (.getfield 149, 50, 1, 2, 5, 0)],
  [none, none, some (.iload_n 2, 51, 2, 0, 0, 0), some (.iload 5, 53, 5, 0, 0, 0), none, some (.iastore, 54, 0, 0, 0, 0), some (.iload 4, 56, 4, 0, 0, 0), none, some (.iload 5, 58, 5, 0, 0, 0), none, some (.invokestatic 292, 61, 106, 2, 0, 0), none, none, some (.istore 7, 63, 7, 0, 0, 0), none, some (.aload_n 0, 64, 0, 0, 0, 0)],
  [some (.getfield 97, 67, 18, 2, 10, 0), none, none, some (.iload 7, 69, 7, 0, 0, 0), none, some (.iconst 0, 70, 0, 0, 0, 0), some (.iastore, 71, 0, 0, 0, 0), some (.aload_n 0, 72, 0, 0, 0, 0), some (.getfield 97, 75, 18, 2, 10, 0), none, none, some (.iload 7, 77, 7, 0, 0, 0), none, some (.iconst 1, 78, 0, 0, 0, 0), some (.iadd, 79, 0, 0, 0, 0), some (.iconst 0, 80, 0, 0, 0, 0)],
  [some (.iastore, 81, 0, 0, 0, 0), some (.iconst 1, 82, 0, 0, 0, 0), some (.istore 8, 84, 8, 0, 0, 0), none, some (.iload 8, 86, 8, 0, 0, 0), none, some (.iload_n 3, 87, 3, 0, 0, 0), some (.if_icmp .gt 68, 90, 155, 0, 0, 0), none, none, some (.aload_n 0, 91, 0, 0, 0, 0), some (.getfield 83, 94, 15, 2, 10, 0), none, none, some (.aload 6, 96, 6, 0, 0, 0), none],
  [some (.invokevirtual 210, 99, 61, 2, 0, 0), none, none, some (.istore 9, 101, 9, 0, 0, 0), none, some (.aload_n 0, 102, 0, 0, 0, 0), some (.getfield 97, 105, 18, 2, 10, 0), none, none, some (.iload 7, 107, 7, 0, 0, 0), none, some (.iload 9, 109, 9, 0, 0, 0), none, some (.iload_n 1, 110, 1, 0, 0, 0), some (.aload_n 0, 111, 0, 0, 0, 0), some (.getfield 97, 114, 18, 2, 10, 0)],
  [none, none, some (.iload 7, 116, 7, 0, 0, 0), none, some (.iaload, 117, 0, 0, 0, 0), some (.iload 8, 119, 8, 0, 0, 0), none, some (.invokestatic 295, 122, 107, 4, 0, 0), none, none, some (.iastore, 123, 0, 0, 0, 0), some (.aload_n 0, 124, 0, 0, 0, 0), some (.getfield 97, 127, 18, 2, 10, 0), none, none, some (.iload 7, 129, 7, 0, 0, 0)],
  [none, some (.iconst 1, 130, 0, 0, 0, 0), some (.iadd, 131, 0, 0, 0, 0), some (.iload 9, 133, 9, 0, 0, 0), none, some (.iload_n 2, 134, 2, 0, 0, 0), some (.aload_n 0, 135, 0, 0, 0, 0), some (.getfield 97, 138, 18, 2, 10, 0), none, none, some (.iload 7, 140, 7, 0, 0, 0), none, some (.iconst 1, 141, 0, 0, 0, 0), some (.iadd, 142, 0, 0, 0, 0), some (.iaload, 143, 0, 0, 0, 0), some (.iload 8, 145, 8, 0, 0, 0)],
  [none, some (.invokestatic 295, 148, 107, 4, 0, 0), none, none, some (.iastore, 149, 0, 0, 0, 0), some (.iinc 8 1, 152, 8, 0, 0, 0), none, none, some (.goto (-68), 84, 0, 0, 0, 0), none, none, some (.iinc 5 1, 158, 5, 0, 0, 0), none, none, some (.goto (-140), 18, 0, 0, 0, 0), none],
  [none, some (.iinc 4 1, 164, 4, 0, 0, 0), none, none, some (.goto (-161), 3, 0, 0, 0, 0), none, none, some (.return_, 168, 0, 0, 0, 0)]]
def zt106 : ZT := [[some (.iconst 2, 1, 0, 0, 0, 0), some (.iload_n 0, 2, 0, 0, 0, 0), some (.iconst 5, 3, 0, 0, 0, 0), some (.imul, 4, 0, 0, 0, 0), some (.iload_n 1, 5, 1, 0, 0, 0), some (.iadd, 6, 0, 0, 0, 0), some (.imul, 7, 0, 0, 0, 0), some (.ireturn, 8, 0, 0, 1, 0)]]
def zt107 : ZT := [[some (.iload_n 2, 1, 2, 0, 0, 0), some (.ifCond .ne 19, 4, 20, 0, 0, 0), none, none, some (.iload_n 0, 5, 0, 0, 0, 0), some (.iload_n 1, 6, 1, 0, 0, 0), some (.ishr, 7, 0, 0, 0, 0), some (.iconst 1, 8, 0, 0, 0, 0), some (.iand, 9, 0, 0, 0, 0), some (.iconst 1, 10, 0, 0, 0, 0), some (.if_icmp .ne 10, 13, 20, 0, 0, 0), none, none, some (.bipush 100, 15, 0, 0, 0, 0), none, some (.iload_n 3, 16, 3, 0, 0, 0)],
  [some (.isub, 17, 0, 0, 0, 0), some (.goto 4, 21, 0, 0, 0, 0), none, none, some (.iload_n 2, 21, 2, 0, 0, 0), some (.ireturn, 22, 0, 0, 1, 0)]]
def zt108 : ZT := [[some (.iload_n 1, 1, 1, 0, 0, 0), some (.iload_n 2, 2, 2, 0, 0, 0), some (.invokestatic 292, 5, 106, 2, 0, 0), none, none, some (.istore_n 3, 6, 3, 0, 0, 0), some (.iconst 0, 7, 0, 0, 0, 0), some (.istore 4, 9, 4, 0, 0, 0), none, some (.iload 4, 11, 4, 0, 0, 0), none, some (.aload_n 0, 12, 0, 0, 0, 0), some (.getfield 26, 15, 4, 2, 10, 0), none, none, some (.getfield 179, 18, 1, 0, 3, 0)],
  [none, none, some (.if_icmp .ge 57, 21, 75, 0, 0, 0), none, none, some (.aload_n 0, 22, 0, 0, 0, 0), some (.getfield 97, 25, 18, 2, 10, 0), none, none, some (.iload 4, 27, 4, 0, 0, 0), none, some (.iload_n 2, 28, 2, 0, 0, 0), some (.invokestatic 292, 31, 106, 2, 0, 0), none, none, some (.iaload, 32, 0, 0, 0, 0)],
  [some (.aload_n 0, 33, 0, 0, 0, 0), some (.getfield 97, 36, 18, 2, 10, 0), none, none, some (.iload_n 3, 37, 3, 0, 0, 0), some (.iaload, 38, 0, 0, 0, 0), some (.if_icmp .le 5, 41, 43, 0, 0, 0), none, none, some (.iconst 0, 42, 0, 0, 0, 0), some (.ireturn, 43, 0, 0, 2, 0), some (.aload_n 0, 44, 0, 0, 0, 0), some (.getfield 97, 47, 18, 2, 10, 0), none, none, some (.iload_n 1, 48, 1, 0, 0, 0)],
  [some (.iload 4, 50, 4, 0, 0, 0), none, some (.invokestatic 292, 53, 106, 2, 0, 0), none, none, some (.iconst 1, 54, 0, 0, 0, 0), some (.iadd, 55, 0, 0, 0, 0), some (.iaload, 56, 0, 0, 0, 0), some (.aload_n 0, 57, 0, 0, 0, 0), some (.getfield 97, 60, 18, 2, 10, 0), none, none, some (.iload_n 3, 61, 3, 0, 0, 0), some (.iconst 1, 62, 0, 0, 0, 0), some (.iadd, 63, 0, 0, 0, 0), some (.iaload, 64, 0, 0, 0, 0)],
  [some (.if_icmp .le 5, 67, 69, 0, 0, 0), none, none, some (.iconst 0, 68, 0, 0, 0, 0), some (.ireturn, 69, 0, 0, 2, 0), some (.iinc 4 1, 72, 4, 0, 0, 0), none, none, some (.goto (-63), 9, 0, 0, 0, 0), none, none, some (.iconst 1, 76, 0, 0, 0, 0), some (.ireturn, 77, 0, 0, 2, 0)]]
def zt109 : ZT := [[some (.aload_n 0, 1, 0, 0, 0, 0), some (.getfield 26, 4, 4, 2, 10, 0), none, none, some (.ifnull 12, 7, 16, 0, 0, 0), none, none, some (.iload_n 1, 8, 1, 0, 0, 0), some (.iconst 0, 9, 0, 0, 0, 0), some (.iconst 1, 10, 0, 0, 0, 0), some (.invokestatic 217, 13, 78, 3, 0, 0), none, none, some (.ifCond .ne 5, 16, 18, 0, 0, 0), none, none],
  [some (.iconst (-1), 17, 0, 0, 0, 0), some (.ireturn, 18, 0, 0, 1, 0), some (.aload_n 0, 19, 0, 0, 0, 0), some (.invokevirtual 247, 22, 87, 1, 0, 0), none, none, some (.astore_n 2, 23, 2, 0, 0, 0), some (.aload_n 0, 24, 0, 0, 0, 0), some (.getfield 101, 27, 19, 2, 10, 0), none, none, some (.iconst 0, 28, 0, 0, 0, 0), some (.aload_n 2, 29, 2, 0, 0, 0), some (.invokevirtual 299, 32, 110, 1, 0, 0), none, none],
  [some (.lastore, 33, 0, 0, 0, 0), some (.iconst 1, 34, 0, 0, 0, 0), some (.istore_n 3, 35, 3, 0, 0, 0), some (.iload_n 3, 36, 3, 0, 0, 0), some (.bipush 60, 38, 0, 0, 0, 0), none, some (.if_icmp .gt 28, 41, 66, 0, 0, 0), none, none, some (.aload_n 0, 42, 0, 0, 0, 0), some (.getfield 83, 45, 15, 2, 10, 0), none, none, some (.aload_n 2, 46, 2, 0, 0, 0), some (.invokevirtual 210, 49, 61, 2, 0, 0), none],
  [none, some (.pop, 50, 0, 0, 0, 0), some (.aload_n 0, 51, 0, 0, 0, 0), some (.getfield 101, 54, 19, 2, 10, 0), none, none, some (.iload_n 3, 55, 3, 0, 0, 0), some (.aload_n 2, 56, 2, 0, 0, 0), some (.invokevirtual 299, 59, 110, 1, 0, 0), none, none, some (.lastore, 60, 0, 0, 0, 0), some (.iinc 3 1, 63, 3, 0, 0, 0), none, none, some (.goto (-28), 35, 0, 0, 0, 0)],
  [none, none, some (.iconst 0, 67, 0, 0, 0, 0), some (.istore_n 3, 68, 3, 0, 0, 0), some (.iload_n 3, 69, 3, 0, 0, 0), some (.bipush 60, 71, 0, 0, 0, 0), none, some (.if_icmp .ge 65, 74, 136, 0, 0, 0), none, none, some (.iload_n 3, 75, 3, 0, 0, 0), some (.iconst 1, 76, 0, 0, 0, 0), some (.iadd, 77, 0, 0, 0, 0), some (.istore 4, 79, 4, 0, 0, 0), none, some (.iload 4, 81, 4, 0, 0, 0)],
  [none, some (.bipush 60, 83, 0, 0, 0, 0), none, some (.if_icmp .gt 47, 86, 130, 0, 0, 0), none, none, some (.aload_n 0, 87, 0, 0, 0, 0), some (.getfield 101, 90, 19, 2, 10, 0), none, none, some (.iload_n 3, 91, 3, 0, 0, 0), some (.laload, 92, 0, 0, 0, 0), some (.aload_n 0, 93, 0, 0, 0, 0), some (.getfield 101, 96, 19, 2, 10, 0), none, none],
  [some (.iload 4, 98, 4, 0, 0, 0), none, some (.laload, 99, 0, 0, 0, 0), some (.lcmp, 100, 0, 0, 0, 0), some (.ifCond .ne 24, 103, 124, 0, 0, 0), none, none, some (.iload_n 1, 104, 1, 0, 0, 0), some (.ifCond .ne 15, 107, 119, 0, 0, 0), none, none, some (.aload_n 0, 108, 0, 0, 0, 0), some (.getfield 33, 111, 5, 2, 10, 0), none, none, some (.getfield 182, 114, 7, 0, 5, 0)],
  [none, none, some (.iload_n 3, 115, 3, 0, 0, 0), some (.iadd, 116, 0, 0, 0, 0), some (.goto 7, 123, 0, 0, 0, 0), none, none, some (.iload 4, 121, 4, 0, 0, 0), none, some (.iload_n 3, 122, 3, 0, 0, 0), some (.isub, 123, 0, 0, 0, 0), some (.ireturn, 124, 0, 0, 1, 0), some (.iinc 4 1, 127, 4, 0, 0, 0), none, none, some (.goto (-48), 79, 0, 0, 0, 0)],
  [none, none, some (.iinc 3 1, 133, 3, 0, 0, 0), none, none, some (.goto (-65), 68, 0, 0, 0, 0), none, none, some (.bipush (-2), 138, 0, 0, 0, 0), none, some (.ireturn, 139, 0, 0, 1, 0)]]
def zt110 : ZT := [[some (.lconst 0, 1, 0, 0, 0, 0), some (.lstore_n 1, 2, 1, 0, 0, 0), some (.iconst 0, 3, 0, 0, 0, 0), some (.istore_n 3, 4, 3, 0, 0, 0), some (.iload_n 3, 5, 3, 0, 0, 0), some (.bipush 6, 7, 0, 0, 0, 0), none, some (.if_icmp .ge 36, 10, 43, 0, 0, 0), none, none, some (.lload_n 1, 11, 1, 0, 0, 0), some (.bipush 8, 13, 0, 0, 0, 0), none, some (.lshl, 14, 0, 0, 0, 0), some (.aload_n 0, 15, 0, 0, 0, 0), some (.getfield 9, 18, 0, 2, 5, 0)],
  [none, none, some (.iload_n 3, 19, 3, 0, 0, 0), some (.iaload, 20, 0, 0, 0, 0), some (.iconst 1, 21, 0, 0, 0, 0), some (.iadd, 22, 0, 0, 0, 0), some (.iconst 3, 23, 0, 0, 0, 0), some (.ishl, 24, 0, 0, 0, 0), some (.i2l, 25, 0, 0, 0, 0), some (.lor, 26, 0, 0, 0, 0), some (.aload_n 0, 27, 0, 0, 0, 0), some (.getfield 15, 30, 1, 2, 5, 0), none, none, some (.iload_n 3, 31, 3, 0, 0, 0), some (.iaload, 32, 0, 0, 0, 0)],
  [some (.iconst 1, 33, 0, 0, 0, 0), some (.iadd, 34, 0, 0, 0, 0), some (.i2l, 35, 0, 0, 0, 0), some (.lor, 36, 0, 0, 0, 0), some (.lstore_n 1, 37, 1, 0, 0, 0), some (.iinc 3 1, 40, 3, 0, 0, 0), none, none, some (.goto (-36), 4, 0, 0, 0, 0), none, none, some (.lload_n 1, 44, 1, 0, 0, 0), some (.lreturn, 45, 0, 0, 3, 0)]]
def zt111 : ZT := [[some (.aload_n 0, 1, 0, 0, 0, 0), some (.getfield 26, 4, 4, 2, 10, 0), none, none, some (.ifnull 21, 7, 25, 0, 0, 0), none, none, some (.iload_n 1, 8, 1, 0, 0, 0), some (.iconst 0, 9, 0, 0, 0, 0), some (.sipush 9999, 12, 0, 0, 0, 0), none, none, some (.invokestatic 217, 15, 78, 3, 0, 0), none, none, some (.ifCond .eq 10, 18, 25, 0, 0, 0)],
  [none, none, some (.iload_n 2, 19, 2, 0, 0, 0), some (.invokestatic 142, 22, 48, 1, 0, 0), none, none, some (.ifCond .ne 5, 25, 27, 0, 0, 0), none, none, some (.iconst (-1), 26, 0, 0, 0, 0), some (.ireturn, 27, 0, 0, 1, 0), some (.iconst 0, 28, 0, 0, 0, 0), some (.istore_n 3, 29, 3, 0, 0, 0), some (.iconst 0, 30, 0, 0, 0, 0), some (.istore 4, 32, 4, 0, 0, 0), none],
  [some (.iload 4, 34, 4, 0, 0, 0), none, some (.bipush 6, 36, 0, 0, 0, 0), none, some (.if_icmp .ge 18, 39, 54, 0, 0, 0), none, none, some (.iload_n 3, 40, 3, 0, 0, 0), some (.aload_n 0, 41, 0, 0, 0, 0), some (.iload 4, 43, 4, 0, 0, 0), none, some (.invokevirtual 303, 46, 112, 2, 0, 0), none, none, some (.iadd, 47, 0, 0, 0, 0), some (.istore_n 3, 48, 3, 0, 0, 0)],
  [some (.iinc 4 1, 51, 4, 0, 0, 0), none, none, some (.goto (-19), 32, 0, 0, 0, 0), none, none, some (.iload_n 3, 55, 3, 0, 0, 0), some (.ifCond .gt 5, 58, 60, 0, 0, 0), none, none, some (.iconst 0, 59, 0, 0, 0, 0), some (.ireturn, 60, 0, 0, 1, 0), some (.iload_n 1, 61, 1, 0, 0, 0), some (.istore 4, 63, 4, 0, 0, 0), none, some (.iconst 0, 64, 0, 0, 0, 0)],
  [some (.istore 5, 66, 5, 0, 0, 0), none, some (.iload_n 1, 67, 1, 0, 0, 0), some (.aload_n 0, 68, 0, 0, 0, 0), some (.iload_n 2, 69, 2, 0, 0, 0), some (.invokevirtual 303, 72, 112, 2, 0, 0), none, none, some (.imul, 73, 0, 0, 0, 0), some (.iload_n 3, 74, 3, 0, 0, 0), some (.irem, 75, 0, 0, 0, 0), some (.istore 6, 77, 6, 0, 0, 0), none, some (.iconst 0, 78, 0, 0, 0, 0), some (.istore 7, 80, 7, 0, 0, 0), none],
  [some (.iload 7, 82, 7, 0, 0, 0), none, some (.bipush 6, 84, 0, 0, 0, 0), none, some (.if_icmp .ge 59, 87, 143, 0, 0, 0), none, none, some (.iload 4, 89, 4, 0, 0, 0), none, some (.iload_n 1, 90, 1, 0, 0, 0), some (.aload_n 0, 91, 0, 0, 0, 0), some (.iload 7, 93, 7, 0, 0, 0), none, some (.invokevirtual 303, 96, 112, 2, 0, 0), none, none],
  [some (.imul, 97, 0, 0, 0, 0), some (.iload_n 3, 98, 3, 0, 0, 0), some (.idiv, 99, 0, 0, 0, 0), some (.isub, 100, 0, 0, 0, 0), some (.istore 4, 102, 4, 0, 0, 0), none, some (.iload_n 1, 103, 1, 0, 0, 0), some (.aload_n 0, 104, 0, 0, 0, 0), some (.iload 7, 106, 7, 0, 0, 0), none, some (.invokevirtual 303, 109, 112, 2, 0, 0), none, none, some (.imul, 110, 0, 0, 0, 0), some (.iload_n 3, 111, 3, 0, 0, 0), some (.irem, 112, 0, 0, 0, 0)],
  [some (.istore 8, 114, 8, 0, 0, 0), none, some (.iload 8, 116, 8, 0, 0, 0), none, some (.iload 6, 118, 6, 0, 0, 0), none, some (.if_icmp .gt 16, 121, 134, 0, 0, 0), none, none, some (.iload 8, 123, 8, 0, 0, 0), none, some (.iload 6, 125, 6, 0, 0, 0), none, some (.if_icmp .ne 12, 128, 137, 0, 0, 0), none, none],
  [some (.iload 7, 130, 7, 0, 0, 0), none, some (.iload_n 2, 131, 2, 0, 0, 0), some (.if_icmp .ge 6, 134, 137, 0, 0, 0), none, none, some (.iinc 5 1, 137, 5, 0, 0, 0), none, none, some (.iinc 7 1, 140, 7, 0, 0, 0), none, none, some (.goto (-60), 80, 0, 0, 0, 0), none, none, some (.iload_n 1, 144, 1, 0, 0, 0)],
  [some (.aload_n 0, 145, 0, 0, 0, 0), some (.iload_n 2, 146, 2, 0, 0, 0), some (.invokevirtual 303, 149, 112, 2, 0, 0), none, none, some (.imul, 150, 0, 0, 0, 0), some (.iload_n 3, 151, 3, 0, 0, 0), some (.idiv, 152, 0, 0, 0, 0), some (.iload 5, 154, 5, 0, 0, 0), none, some (.iload 4, 156, 4, 0, 0, 0), none, some (.if_icmp .ge 7, 159, 163, 0, 0, 0), none, none, some (.iconst 1, 160, 0, 0, 0, 0)],
  [some (.goto 4, 164, 0, 0, 0, 0), none, none, some (.iconst 0, 164, 0, 0, 0, 0), some (.iadd, 165, 0, 0, 0, 0), some (.ireturn, 166, 0, 0, 1, 0)]]
def zt112 : ZT := [[some (.aload_n 0, 1, 0, 0, 0, 0), some (.iload_n 1, 2, 1, 0, 0, 0), some (.invokevirtual 214, 5, 77, 2, 0, 0), none, none, some (.ifCond .eq 18, 8, 23, 0, 0, 0), none, none, some (.bipush 99, 10, 0, 0, 0, 0), none, some (.aload_n 0, 11, 0, 0, 0, 0), some (.getfield 33, 14, 5, 2, 10, 0), none, none, some (.getfield 152, 17, 2, 2, 5, 0), none],
  [none, some (.iload_n 1, 18, 1, 0, 0, 0), some (.iaload, 19, 0, 0, 0, 0), some (.isub, 20, 0, 0, 0, 0), some (.goto 4, 24, 0, 0, 0, 0), none, none, some (.iconst 0, 24, 0, 0, 0, 0), some (.ireturn, 25, 0, 0, 1, 0)]]
def zt113 : ZT := [[some (.iload_n 1, 1, 1, 0, 0, 0), some (.iconst (-1), 2, 0, 0, 0, 0), some (.if_icmp .ne 13, 5, 15, 0, 0, 0), none, none, some (.aload_n 0, 6, 0, 0, 0, 0), some (.getfield 46, 9, 8, 2, 10, 0), none, none, some (.iconst 0, 10, 0, 0, 0, 0), some (.putfield 132, 13, 0, 0, 2, 0), none, none, some (.iconst 0, 14, 0, 0, 0, 0), some (.ireturn, 15, 0, 0, 1, 0), some (.iload_n 1, 16, 1, 0, 0, 0)],
  [some (.iconst 0, 17, 0, 0, 0, 0), some (.bipush 60, 19, 0, 0, 0, 0), none, some (.invokestatic 217, 22, 78, 3, 0, 0), none, none, some (.ifCond .eq 27, 25, 49, 0, 0, 0), none, none, some (.iload_n 2, 26, 2, 0, 0, 0), some (.invokestatic 142, 29, 48, 1, 0, 0), none, none, some (.ifCond .eq 20, 32, 49, 0, 0, 0), none, none],
  [some (.iload_n 3, 33, 3, 0, 0, 0), some (.iconst (-1), 34, 0, 0, 0, 0), some (.if_icmp .eq 11, 37, 45, 0, 0, 0), none, none, some (.aload_n 0, 38, 0, 0, 0, 0), some (.iload_n 3, 39, 3, 0, 0, 0), some (.invokevirtual 170, 42, 52, 2, 0, 0), none, none, some (.ifCond .eq 7, 45, 49, 0, 0, 0), none, none, some (.iconst 1, 46, 0, 0, 0, 0), some (.goto 4, 50, 0, 0, 0, 0), none],
  [none, some (.iconst 0, 50, 0, 0, 0, 0), some (.istore 4, 52, 4, 0, 0, 0), none, some (.aload_n 0, 53, 0, 0, 0, 0), some (.getfield 26, 56, 4, 2, 10, 0), none, none, some (.ifnull 20, 59, 76, 0, 0, 0), none, none, some (.iload 4, 61, 4, 0, 0, 0), none, some (.ifCond .eq 15, 64, 76, 0, 0, 0), none, none],
  [some (.aload_n 0, 65, 0, 0, 0, 0), some (.getfield 46, 68, 8, 2, 10, 0), none, none, some (.getfield 132, 71, 0, 0, 2, 0), none, none, some (.bipush 10, 73, 0, 0, 0, 0), none, some (.if_icmp .lt 6, 76, 79, 0, 0, 0), none, none, some (.bipush (-2), 78, 0, 0, 0, 0), none, some (.ireturn, 79, 0, 0, 1, 0), some (.aload_n 0, 80, 0, 0, 0, 0)],
  [some (.getfield 46, 83, 8, 2, 10, 0), none, none, some (.iload_n 1, 84, 1, 0, 0, 0), some (.iload_n 2, 85, 2, 0, 0, 0), some (.iload_n 3, 86, 3, 0, 0, 0), some (.invokevirtual 306, 89, 114, 4, 0, 0), none, none, some (.aload_n 0, 90, 0, 0, 0, 0), some (.getfield 46, 93, 8, 2, 10, 0), none, none, some (.getfield 132, 96, 0, 0, 2, 0), none, none],
  [some (.ireturn, 97, 0, 0, 1, 0)]]
def zt114 : ZT := [[some (.aload_n 0, 1, 0, 0, 0, 0), some (.getfield 9, 4, 0, 0, 2, 0), none, none, some (.bipush 10, 6, 0, 0, 0, 0), none, some (.if_icmp .ge 43, 9, 49, 0, 0, 0), none, none, some (.aload_n 0, 10, 0, 0, 0, 0), some (.getfield 15, 13, 1, 2, 2, 0), none, none, some (.aload_n 0, 14, 0, 0, 0, 0), some (.getfield 9, 17, 0, 0, 2, 0), none],
  [none, some (.iload_n 1, 18, 1, 0, 0, 0), some (.iastore, 19, 0, 0, 0, 0), some (.aload_n 0, 20, 0, 0, 0, 0), some (.getfield 19, 23, 2, 2, 2, 0), none, none, some (.aload_n 0, 24, 0, 0, 0, 0), some (.getfield 9, 27, 0, 0, 2, 0), none, none, some (.iload_n 2, 28, 2, 0, 0, 0), some (.iastore, 29, 0, 0, 0, 0), some (.aload_n 0, 30, 0, 0, 0, 0), some (.getfield 22, 33, 3, 2, 2, 0), none],
  [none, some (.aload_n 0, 34, 0, 0, 0, 0), some (.getfield 9, 37, 0, 0, 2, 0), none, none, some (.iload_n 3, 38, 3, 0, 0, 0), some (.iastore, 39, 0, 0, 0, 0), some (.aload_n 0, 40, 0, 0, 0, 0), some (.dup, 41, 0, 0, 0, 0), some (.getfield 9, 44, 0, 0, 2, 0), none, none, some (.iconst 1, 45, 0, 0, 0, 0), some (.iadd, 46, 0, 0, 0, 0), some (.putfield 9, 49, 0, 0, 2, 0), none],
  [none, some (.return_, 50, 0, 0, 0, 0)]]
def zt115 : ZT := [[some (.aload_n 0, 1, 0, 0, 0, 0), some (.getfield 26, 4, 4, 2, 10, 0), none, none, some (.ifnull 27, 7, 31, 0, 0, 0), none, none, some (.iload_n 1, 8, 1, 0, 0, 0), some (.ifCond .lt 23, 11, 31, 0, 0, 0), none, none, some (.iload_n 1, 12, 1, 0, 0, 0), some (.aload_n 0, 13, 0, 0, 0, 0), some (.getfield 26, 16, 4, 2, 10, 0), none, none],
  [some (.getfield 135, 19, 2, 0, 3, 0), none, none, some (.if_icmp .ge 12, 22, 31, 0, 0, 0), none, none, some (.iload_n 2, 23, 2, 0, 0, 0), some (.iconst 0, 24, 0, 0, 0, 0), some (.iconst 1, 25, 0, 0, 0, 0), some (.invokestatic 217, 28, 78, 3, 0, 0), none, none, some (.ifCond .ne 5, 31, 33, 0, 0, 0), none, none, some (.iconst (-1), 32, 0, 0, 0, 0)],
  [some (.ireturn, 33, 0, 0, 1, 0), some (.iconst 0, 34, 0, 0, 0, 0), some (.istore_n 3, 35, 3, 0, 0, 0), some (.iconst 0, 36, 0, 0, 0, 0), some (.istore 4, 38, 4, 0, 0, 0), none, some (.iload 4, 40, 4, 0, 0, 0), none, some (.aload_n 0, 41, 0, 0, 0, 0), some (.getfield 26, 44, 4, 2, 10, 0), none, none, some (.getfield 179, 47, 1, 0, 3, 0), none, none, some (.if_icmp .ge 44, 50, 91, 0, 0, 0)],
  [none, none, some (.aload_n 0, 51, 0, 0, 0, 0), some (.aload_n 0, 52, 0, 0, 0, 0), some (.getfield 37, 55, 6, 0, 10, 0), none, none, some (.invokevirtual 316, 58, 116, 2, 0, 0), none, none, some (.astore 5, 60, 5, 0, 0, 0), none, some (.aload 5, 62, 5, 0, 0, 0), none, some (.getfield 149, 65, 1, 2, 5, 0), none],
  [none, some (.iload_n 1, 66, 1, 0, 0, 0), some (.iload 4, 68, 4, 0, 0, 0), none, some (.iastore, 69, 0, 0, 0, 0), some (.aload_n 0, 70, 0, 0, 0, 0), some (.aload 5, 72, 5, 0, 0, 0), none, some (.invokevirtual 320, 75, 117, 2, 0, 0), none, none, some (.ifCond .eq 10, 78, 85, 0, 0, 0), none, none, some (.iload_n 3, 79, 3, 0, 0, 0), some (.iconst 1, 80, 0, 0, 0, 0)],
  [some (.iload 4, 82, 4, 0, 0, 0), none, some (.ishl, 83, 0, 0, 0, 0), some (.ior, 84, 0, 0, 0, 0), some (.istore_n 3, 85, 3, 0, 0, 0), some (.iinc 4 1, 88, 4, 0, 0, 0), none, none, some (.goto (-50), 38, 0, 0, 0, 0), none, none, some (.iload_n 2, 92, 2, 0, 0, 0), some (.ifCond .ne 10, 95, 102, 0, 0, 0), none, none, some (.iload_n 3, 96, 3, 0, 0, 0)],
  [some (.invokestatic 195, 99, 56, 1, 0, 0), none, none, some (.goto 4, 103, 0, 0, 0, 0), none, none, some (.iload_n 3, 103, 3, 0, 0, 0), some (.ireturn, 104, 0, 0, 1, 0)]]
def zt116 : ZT := [[some (.aload_n 0, 1, 0, 0, 0, 0), some (.iload_n 1, 2, 1, 0, 0, 0), some (.invokevirtual 207, 5, 60, 2, 0, 0), none, none, some (.aload_n 0, 6, 0, 0, 0, 0), some (.getfield 26, 9, 4, 2, 10, 0), none, none, some (.ifnull 17, 12, 26, 0, 0, 0), none, none, some (.aload_n 0, 13, 0, 0, 0, 0), some (.getfield 94, 16, 17, 2, 10, 0), none, none],
  [some (.aload_n 0, 17, 0, 0, 0, 0), some (.getfield 26, 20, 4, 2, 10, 0), none, none, some (.getfield 123, 23, 5, 2, 3, 0), none, none, some (.invokevirtual 128, 26, 32, 2, 0, 0), none, none, some (.aload_n 0, 27, 0, 0, 0, 0), some (.getfield 94, 30, 17, 2, 10, 0), none, none, some (.areturn, 31, 0, 0, 4, 0)]]
def zt117 : ZT := [[some (.aload_n 0, 1, 0, 0, 0, 0), some (.getfield 46, 4, 8, 2, 10, 0), none, none, some (.invokevirtual 309, 7, 118, 1, 0, 0), none, none, some (.istore_n 2, 8, 2, 0, 0, 0), some (.iconst 0, 9, 0, 0, 0, 0), some (.istore_n 3, 10, 3, 0, 0, 0), some (.iload_n 3, 11, 3, 0, 0, 0), some (.iload_n 2, 12, 2, 0, 0, 0), some (.if_icmp .gt 37, 15, 49, 0, 0, 0), none, none, some (.aload_n 0, 16, 0, 0, 0, 0)],
  [some (.getfield 46, 19, 8, 2, 10, 0), none, none, some (.iload_n 3, 20, 3, 0, 0, 0), some (.aload_n 1, 21, 1, 0, 0, 0), some (.invokevirtual 312, 24, 119, 3, 0, 0), none, none, some (.ifCond .ne 5, 27, 29, 0, 0, 0), none, none, some (.iconst 0, 28, 0, 0, 0, 0), some (.ireturn, 29, 0, 0, 2, 0), some (.iload_n 3, 30, 3, 0, 0, 0), some (.iload_n 2, 31, 2, 0, 0, 0), some (.if_icmp .ge 12, 34, 43, 0, 0, 0)],
  [none, none, some (.aload_n 0, 35, 0, 0, 0, 0), some (.getfield 83, 38, 15, 2, 10, 0), none, none, some (.aload_n 1, 39, 1, 0, 0, 0), some (.invokevirtual 210, 42, 61, 2, 0, 0), none, none, some (.pop, 43, 0, 0, 0, 0), some (.iinc 3 1, 46, 3, 0, 0, 0), none, none, some (.goto (-36), 10, 0, 0, 0, 0), none],
  [none, some (.iconst 1, 50, 0, 0, 0, 0), some (.ireturn, 51, 0, 0, 2, 0)]]
def zt118 : ZT := [[some (.iconst (-1), 1, 0, 0, 0, 0), some (.istore_n 1, 2, 1, 0, 0, 0), some (.iconst 0, 3, 0, 0, 0, 0), some (.istore_n 2, 4, 2, 0, 0, 0), some (.iload_n 2, 5, 2, 0, 0, 0), some (.aload_n 0, 6, 0, 0, 0, 0), some (.getfield 9, 9, 0, 0, 2, 0), none, none, some (.if_icmp .ge 20, 12, 29, 0, 0, 0), none, none, some (.iload_n 1, 13, 1, 0, 0, 0), some (.aload_n 0, 14, 0, 0, 0, 0), some (.getfield 15, 17, 1, 2, 2, 0), none],
  [none, some (.iload_n 2, 18, 2, 0, 0, 0), some (.iaload, 19, 0, 0, 0, 0), some (.invokestatic 31, 22, 17, 2, 0, 0), none, none, some (.istore_n 1, 23, 1, 0, 0, 0), some (.iinc 2 1, 26, 2, 0, 0, 0), none, none, some (.goto (-22), 4, 0, 0, 0, 0), none, none, some (.iload_n 1, 30, 1, 0, 0, 0), some (.ireturn, 31, 0, 0, 1, 0)]]
def zt119 : ZT := [[some (.iconst 0, 1, 0, 0, 0, 0), some (.istore_n 3, 2, 3, 0, 0, 0), some (.iload_n 3, 3, 3, 0, 0, 0), some (.aload_n 0, 4, 0, 0, 0, 0), some (.getfield 9, 7, 0, 0, 2, 0), none, none, some (.if_icmp .ge 41, 10, 48, 0, 0, 0), none, none, some (.aload_n 0, 11, 0, 0, 0, 0), some (.getfield 15, 14, 1, 2, 2, 0), none, none, some (.iload_n 3, 15, 3, 0, 0, 0), some (.iaload, 16, 0, 0, 0, 0)],
  [some (.iload_n 1, 17, 1, 0, 0, 0), some (.if_icmp .ne 25, 20, 42, 0, 0, 0), none, none, some (.aload_n 2, 21, 2, 0, 0, 0), some (.getfield 37, 24, 0, 2, 5, 0), none, none, some (.aload_n 0, 25, 0, 0, 0, 0), some (.getfield 19, 28, 2, 2, 2, 0), none, none, some (.iload_n 3, 29, 3, 0, 0, 0), some (.iaload, 30, 0, 0, 0, 0), some (.iaload, 31, 0, 0, 0, 0), some (.aload_n 0, 32, 0, 0, 0, 0)],
  [some (.getfield 22, 35, 3, 2, 2, 0), none, none, some (.iload_n 3, 36, 3, 0, 0, 0), some (.iaload, 37, 0, 0, 0, 0), some (.if_icmp .eq 5, 40, 42, 0, 0, 0), none, none, some (.iconst 0, 41, 0, 0, 0, 0), some (.ireturn, 42, 0, 0, 2, 0), some (.iinc 3 1, 45, 3, 0, 0, 0), none, none, some (.goto (-43), 2, 0, 0, 0, 0), none, none],
  [some (.iconst 1, 49, 0, 0, 0, 0), some (.ireturn, 50, 0, 0, 2, 0)]]
def zt120 : ZT := [[some (.aload_n 0, 1, 0, 0, 0, 0), some (.getfield 26, 4, 4, 2, 10, 0), none, none, some (.ifnull 12, 7, 16, 0, 0, 0), none, none, some (.iload_n 1, 8, 1, 0, 0, 0), some (.iconst 0, 9, 0, 0, 0, 0), some (.iconst 1, 10, 0, 0, 0, 0), some (.invokestatic 217, 13, 78, 3, 0, 0), none, none, some (.ifCond .ne 6, 16, 19, 0, 0, 0), none, none],
  [some (.bipush (-3), 18, 0, 0, 0, 0), none, some (.ireturn, 19, 0, 0, 1, 0), some (.iconst 0, 20, 0, 0, 0, 0), some (.istore_n 2, 21, 2, 0, 0, 0), some (.bipush (-2), 23, 0, 0, 0, 0), none, some (.istore_n 3, 24, 3, 0, 0, 0), some (.iconst (-1), 25, 0, 0, 0, 0), some (.istore 4, 27, 4, 0, 0, 0), none, some (.iload 4, 29, 4, 0, 0, 0), none, some (.aload_n 0, 30, 0, 0, 0, 0), some (.getfield 23, 33, 3, 0, 10, 0), none],
  [none, some (.if_icmp .ge 36, 36, 69, 0, 0, 0), none, none, some (.aload_n 0, 37, 0, 0, 0, 0), some (.aload_n 0, 38, 0, 0, 0, 0), some (.iload 4, 40, 4, 0, 0, 0), none, some (.invokevirtual 316, 43, 116, 2, 0, 0), none, none, some (.invokevirtual 320, 46, 117, 2, 0, 0), none, none, some (.ifCond .eq 17, 49, 63, 0, 0, 0), none],
  [none, some (.iload_n 2, 50, 2, 0, 0, 0), some (.ifCond .ne 8, 53, 58, 0, 0, 0), none, none, some (.iload 4, 55, 4, 0, 0, 0), none, some (.goto 4, 59, 0, 0, 0, 0), none, none, some (.iload_n 3, 59, 3, 0, 0, 0), some (.istore_n 3, 60, 3, 0, 0, 0), some (.iinc 2 1, 63, 2, 0, 0, 0), none, none, some (.iinc 4 1, 66, 4, 0, 0, 0)],
  [none, none, some (.goto (-39), 27, 0, 0, 0, 0), none, none, some (.iload_n 1, 70, 1, 0, 0, 0), some (.ifCond .ne 7, 73, 77, 0, 0, 0), none, none, some (.iload_n 2, 74, 2, 0, 0, 0), some (.goto 4, 78, 0, 0, 0, 0), none, none, some (.iload_n 3, 78, 3, 0, 0, 0), some (.ireturn, 79, 0, 0, 1, 0)]]
def zt121 : ZT := [[some (.aload_n 0, 1, 0, 0, 0, 0), some (.getfield 26, 4, 4, 2, 10, 0), none, none, some (.ifnull 22, 7, 26, 0, 0, 0), none, none, some (.iload_n 1, 8, 1, 0, 0, 0), some (.iconst 0, 9, 0, 0, 0, 0), some (.bipush 60, 11, 0, 0, 0, 0), none, some (.invokestatic 217, 14, 78, 3, 0, 0), none, none, some (.ifCond .eq 12, 17, 26, 0, 0, 0), none],
  [none, some (.iload_n 2, 18, 2, 0, 0, 0), some (.iconst 0, 19, 0, 0, 0, 0), some (.iconst 1, 20, 0, 0, 0, 0), some (.invokestatic 217, 23, 78, 3, 0, 0), none, none, some (.ifCond .ne 5, 26, 28, 0, 0, 0), none, none, some (.iconst (-1), 27, 0, 0, 0, 0), some (.ireturn, 28, 0, 0, 1, 0), some (.aload_n 0, 29, 0, 0, 0, 0), some (.getfield 97, 32, 18, 2, 10, 0), none, none],
  [some (.iconst 0, 33, 0, 0, 0, 0), some (.invokestatic 324, 36, 122, 2, 0, 0), none, none, some (.iconst 0, 37, 0, 0, 0, 0), some (.istore_n 3, 38, 3, 0, 0, 0), some (.iconst (-1), 39, 0, 0, 0, 0), some (.istore 4, 41, 4, 0, 0, 0), none, some (.iload 4, 43, 4, 0, 0, 0), none, some (.aload_n 0, 44, 0, 0, 0, 0), some (.getfield 23, 47, 3, 0, 10, 0), none, none, some (.if_icmp .ge 47, 50, 94, 0, 0, 0)],
  [none, none, some (.aload_n 0, 51, 0, 0, 0, 0), some (.aload_n 0, 52, 0, 0, 0, 0), some (.iload 4, 54, 4, 0, 0, 0), none, some (.invokevirtual 316, 57, 116, 2, 0, 0), none, none, some (.invokevirtual 320, 60, 117, 2, 0, 0), none, none, some (.ifCond .eq 28, 63, 88, 0, 0, 0), none, none, some (.aload_n 0, 64, 0, 0, 0, 0)],
  [some (.iload 4, 66, 4, 0, 0, 0), none, some (.invokevirtual 316, 69, 116, 2, 0, 0), none, none, some (.astore 5, 71, 5, 0, 0, 0), none, some (.aload_n 0, 72, 0, 0, 0, 0), some (.aload 5, 74, 5, 0, 0, 0), none, some (.iload_n 1, 75, 1, 0, 0, 0), some (.invokevirtual 251, 78, 88, 3, 0, 0), none, none, some (.pop, 79, 0, 0, 0, 0), some (.aload_n 0, 80, 0, 0, 0, 0)],
  [some (.aload 5, 82, 5, 0, 0, 0), none, some (.invokevirtual 330, 85, 123, 2, 0, 0), none, none, some (.iinc 3 1, 88, 3, 0, 0, 0), none, none, some (.iinc 4 1, 91, 4, 0, 0, 0), none, none, some (.goto (-50), 41, 0, 0, 0, 0), none, none, some (.iload_n 3, 95, 3, 0, 0, 0), some (.ifCond .ne 6, 98, 101, 0, 0, 0)],
  [none, none, some (.bipush (-2), 100, 0, 0, 0, 0), none, some (.ireturn, 101, 0, 0, 1, 0), some (.iconst 0, 102, 0, 0, 0, 0), some (.istore 4, 104, 4, 0, 0, 0), none, some (.iconst 1, 105, 0, 0, 0, 0), some (.istore 5, 107, 5, 0, 0, 0), none, some (.iload 5, 109, 5, 0, 0, 0), none, some (.bipush 6, 111, 0, 0, 0, 0), none, some (.if_icmp .ge 28, 114, 139, 0, 0, 0)],
  [none, none, some (.aload_n 0, 115, 0, 0, 0, 0), some (.iload 5, 117, 5, 0, 0, 0), none, some (.invokevirtual 333, 120, 124, 2, 0, 0), none, none, some (.aload_n 0, 121, 0, 0, 0, 0), some (.iload 4, 123, 4, 0, 0, 0), none, some (.invokevirtual 333, 126, 124, 2, 0, 0), none, none, some (.if_icmp .ge 7, 129, 133, 0, 0, 0), none],
  [none, some (.iload 5, 131, 5, 0, 0, 0), none, some (.istore 4, 133, 4, 0, 0, 0), none, some (.iinc 5 1, 136, 5, 0, 0, 0), none, none, some (.goto (-29), 107, 0, 0, 0, 0), none, none, some (.iload_n 2, 140, 2, 0, 0, 0), some (.ifCond .ne 8, 143, 148, 0, 0, 0), none, none, some (.iload 4, 145, 4, 0, 0, 0)],
  [none, some (.goto 9, 154, 0, 0, 0, 0), none, none, some (.aload_n 0, 149, 0, 0, 0, 0), some (.iload 4, 151, 4, 0, 0, 0), none, some (.invokevirtual 333, 154, 124, 2, 0, 0), none, none, some (.ireturn, 155, 0, 0, 1, 0)]]
def zt122 : ZT := [[some (.iconst 0, 1, 0, 0, 0, 0), some (.istore_n 2, 2, 2, 0, 0, 0), some (.aload_n 0, 3, 0, 0, 0, 0), some (.arraylength, 4, 0, 0, 0, 0), some (.istore_n 3, 5, 3, 0, 0, 0), some (.iload_n 2, 6, 2, 0, 0, 0), some (.iload_n 3, 7, 3, 0, 0, 0), some (.if_icmp .ge 13, 10, 20, 0, 0, 0), none, none, some (.aload_n 0, 11, 0, 0, 0, 0), some (.iload_n 2, 12, 2, 0, 0, 0), some (.iload_n 1, 13, 1, 0, 0, 0), some (.iastore, 14, 0, 0, 0, 0), some (.iinc 2 1, 17, 2, 0, 0, 0), none],
  [none, some (.goto (-12), 5, 0, 0, 0, 0), none, none, some (.return_, 21, 0, 0, 0, 0)]]
def zt123 : ZT := [[some (.iconst 0, 1, 0, 0, 0, 0), some (.istore_n 2, 2, 2, 0, 0, 0), some (.iload_n 2, 3, 2, 0, 0, 0), some (.bipush 6, 5, 0, 0, 0, 0), none, some (.if_icmp .ge 31, 8, 36, 0, 0, 0), none, none, some (.aload_n 0, 9, 0, 0, 0, 0), some (.getfield 97, 12, 18, 2, 10, 0), none, none, some (.iload_n 2, 13, 2, 0, 0, 0), some (.bipush 21, 15, 0, 0, 0, 0), none, some (.imul, 16, 0, 0, 0, 0)],
  [some (.aload_n 1, 17, 1, 0, 0, 0), some (.getfield 146, 20, 0, 2, 5, 0), none, none, some (.iload_n 2, 21, 2, 0, 0, 0), some (.iaload, 22, 0, 0, 0, 0), some (.iadd, 23, 0, 0, 0, 0), some (.iconst 1, 24, 0, 0, 0, 0), some (.iadd, 25, 0, 0, 0, 0), some (.dup2, 26, 0, 0, 0, 0), some (.iaload, 27, 0, 0, 0, 0), some (.iconst 1, 28, 0, 0, 0, 0), some (.iadd, 29, 0, 0, 0, 0), some (.iastore, 30, 0, 0, 0, 0), some (.iinc 2 1, 33, 2, 0, 0, 0), none],
  [none, some (.goto (-31), 2, 0, 0, 0, 0), none, none, some (.return_, 37, 0, 0, 0, 0)]]
def zt124 : ZT := [[some (.iconst 0, 1, 0, 0, 0, 0), some (.istore_n 2, 2, 2, 0, 0, 0), some (.iconst 0, 3, 0, 0, 0, 0), some (.istore_n 3, 4, 3, 0, 0, 0), some (.iload_n 3, 5, 3, 0, 0, 0), some (.bipush 20, 7, 0, 0, 0, 0), none, some (.if_icmp .gt 25, 10, 32, 0, 0, 0), none, none, some (.iload_n 2, 11, 2, 0, 0, 0), some (.aload_n 0, 12, 0, 0, 0, 0), some (.getfield 97, 15, 18, 2, 10, 0), none, none, some (.iload_n 1, 16, 1, 0, 0, 0)],
  [some (.bipush 21, 18, 0, 0, 0, 0), none, some (.imul, 19, 0, 0, 0, 0), some (.iload_n 3, 20, 3, 0, 0, 0), some (.iadd, 21, 0, 0, 0, 0), some (.iaload, 22, 0, 0, 0, 0), some (.invokestatic 281, 25, 17, 2, 0, 0), none, none, some (.istore_n 2, 26, 2, 0, 0, 0), some (.iinc 3 1, 29, 3, 0, 0, 0), none, none, some (.goto (-25), 4, 0, 0, 0, 0), none, none],
  [some (.iload_n 2, 33, 2, 0, 0, 0), some (.ireturn, 34, 0, 0, 1, 0)]]
def zt125 : ZT := [[some (.iload_n 1, 1, 1, 0, 0, 0), some (.ifCond .ge 5, 4, 6, 0, 0, 0), none, none, some (.iconst (-1), 5, 0, 0, 0, 0), some (.ireturn, 6, 0, 0, 1, 0), some (.aload_n 0, 7, 0, 0, 0, 0), some (.getfield 40, 10, 7, 0, 10, 0), none, none, some (.istore_n 2, 11, 2, 0, 0, 0), some (.aload_n 0, 12, 0, 0, 0, 0), some (.iload_n 1, 13, 1, 0, 0, 0), some (.putfield 40, 16, 7, 0, 10, 0), none, none],
  [some (.iload_n 2, 17, 2, 0, 0, 0), some (.ireturn, 18, 0, 0, 1, 0)]]
def zt126 : ZT := [[some (.aload_n 0, 1, 0, 0, 0, 0), some (.getfield 26, 4, 4, 2, 10, 0), none, none, some (.ifnull 23, 7, 27, 0, 0, 0), none, none, some (.iload_n 1, 8, 1, 0, 0, 0), some (.iconst 1, 9, 0, 0, 0, 0), some (.bipush 10, 11, 0, 0, 0, 0), none, some (.invokestatic 217, 14, 78, 3, 0, 0), none, none, some (.ifCond .eq 13, 17, 27, 0, 0, 0), none],
  [none, some (.iload_n 2, 18, 2, 0, 0, 0), some (.iconst 1, 19, 0, 0, 0, 0), some (.bipush 60, 21, 0, 0, 0, 0), none, some (.invokestatic 217, 24, 78, 3, 0, 0), none, none, some (.ifCond .ne 5, 27, 29, 0, 0, 0), none, none, some (.iconst (-1), 28, 0, 0, 0, 0), some (.ireturn, 29, 0, 0, 1, 0), some (.iload_n 3, 30, 3, 0, 0, 0), some (.iconst 0, 31, 0, 0, 0, 0), some (.bipush 100, 33, 0, 0, 0, 0)],
  [none, some (.invokestatic 217, 36, 78, 3, 0, 0), none, none, some (.ifCond .eq 13, 39, 49, 0, 0, 0), none, none, some (.iload 4, 41, 4, 0, 0, 0), none, some (.iconst 0, 42, 0, 0, 0, 0), some (.iconst 1, 43, 0, 0, 0, 0), some (.invokestatic 217, 46, 78, 3, 0, 0), none, none, some (.ifCond .ne 5, 49, 51, 0, 0, 0), none],
  [none, some (.iconst (-1), 50, 0, 0, 0, 0), some (.ireturn, 51, 0, 0, 1, 0), some (.aload_n 0, 52, 0, 0, 0, 0), some (.getfield 40, 55, 7, 0, 10, 0), none, none, some (.istore 5, 57, 5, 0, 0, 0), none, some (.iconst 0, 58, 0, 0, 0, 0), some (.istore 6, 60, 6, 0, 0, 0), none, some (.iconst 0, 61, 0, 0, 0, 0), some (.istore 7, 63, 7, 0, 0, 0), none, some (.iconst 0, 64, 0, 0, 0, 0)],
  [some (.istore 8, 66, 8, 0, 0, 0), none, some (.iload 8, 68, 8, 0, 0, 0), none, some (.iload_n 1, 69, 1, 0, 0, 0), some (.if_icmp .ge 64, 72, 133, 0, 0, 0), none, none, some (.aload_n 0, 73, 0, 0, 0, 0), some (.invokevirtual 247, 76, 87, 1, 0, 0), none, none, some (.astore 9, 78, 9, 0, 0, 0), none, some (.iconst 0, 79, 0, 0, 0, 0), some (.istore 10, 81, 10, 0, 0, 0)],
  [none, some (.iload 10, 83, 10, 0, 0, 0), none, some (.iload_n 2, 84, 2, 0, 0, 0), some (.if_icmp .ge 33, 87, 117, 0, 0, 0), none, none, some (.aload_n 0, 88, 0, 0, 0, 0), some (.aload 9, 90, 9, 0, 0, 0), none, some (.iload_n 3, 91, 3, 0, 0, 0), some (.invokevirtual 336, 94, 127, 3, 0, 0), none, none, some (.iload 6, 96, 6, 0, 0, 0), none],
  [some (.aload_n 0, 97, 0, 0, 0, 0), some (.getfield 83, 100, 15, 2, 10, 0), none, none, some (.aload 9, 102, 9, 0, 0, 0), none, some (.invokevirtual 210, 105, 61, 2, 0, 0), none, none, some (.invokestatic 195, 108, 56, 1, 0, 0), none, none, some (.iadd, 109, 0, 0, 0, 0), some (.istore 6, 111, 6, 0, 0, 0), none, some (.iinc 10 1, 114, 10, 0, 0, 0)],
  [none, none, some (.goto (-33), 81, 0, 0, 0, 0), none, none, some (.iload 7, 119, 7, 0, 0, 0), none, some (.aload 9, 121, 9, 0, 0, 0), none, some (.invokevirtual 201, 124, 57, 1, 0, 0), none, none, some (.iadd, 125, 0, 0, 0, 0), some (.istore 7, 127, 7, 0, 0, 0), none, some (.iinc 8 1, 130, 8, 0, 0, 0)],
  [none, none, some (.goto (-64), 66, 0, 0, 0, 0), none, none, some (.aload_n 0, 134, 0, 0, 0, 0), some (.iload 5, 136, 5, 0, 0, 0), none, some (.putfield 40, 139, 7, 0, 10, 0), none, none, some (.iload 4, 141, 4, 0, 0, 0), none, some (.ifCond .ne 8, 144, 149, 0, 0, 0), none, none],
  [some (.iload 6, 146, 6, 0, 0, 0), none, some (.goto 5, 151, 0, 0, 0, 0), none, none, some (.iload 7, 151, 7, 0, 0, 0), none, some (.ireturn, 152, 0, 0, 1, 0)]]
def zt127 : ZT := [[some (.aload_n 0, 1, 0, 0, 0, 0), some (.invokevirtual 340, 4, 128, 1, 0, 0), none, none, some (.bipush 100, 6, 0, 0, 0, 0), none, some (.irem, 7, 0, 0, 0, 0), some (.istore_n 3, 8, 3, 0, 0, 0), some (.iload_n 3, 9, 3, 0, 0, 0), some (.iload_n 2, 10, 2, 0, 0, 0), some (.if_icmp .ge 48, 13, 58, 0, 0, 0), none, none, some (.aload_n 0, 14, 0, 0, 0, 0), some (.getfield 26, 17, 4, 2, 10, 0), none],
  [none, some (.getfield 179, 20, 1, 0, 3, 0), none, none, some (.ifCond .le 38, 23, 58, 0, 0, 0), none, none, some (.aload_n 0, 24, 0, 0, 0, 0), some (.invokevirtual 340, 27, 128, 1, 0, 0), none, none, some (.aload_n 0, 28, 0, 0, 0, 0), some (.getfield 26, 31, 4, 2, 10, 0), none, none, some (.getfield 179, 34, 1, 0, 3, 0)],
  [none, none, some (.irem, 35, 0, 0, 0, 0), some (.istore 4, 37, 4, 0, 0, 0), none, some (.aload_n 1, 38, 1, 0, 0, 0), some (.getfield 167, 41, 4, 2, 5, 0), none, none, some (.iload 4, 43, 4, 0, 0, 0), none, some (.bipush 99, 45, 0, 0, 0, 0), none, some (.aload_n 1, 46, 1, 0, 0, 0), some (.getfield 167, 49, 4, 2, 5, 0), none],
  [none, some (.iload 4, 51, 4, 0, 0, 0), none, some (.iaload, 52, 0, 0, 0, 0), some (.iconst 1, 53, 0, 0, 0, 0), some (.iadd, 54, 0, 0, 0, 0), some (.invokestatic 221, 57, 16, 2, 0, 0), none, none, some (.iastore, 58, 0, 0, 0, 0), some (.return_, 59, 0, 0, 0, 0)]]
def zt128 : ZT := [[some (.aload_n 0, 1, 0, 0, 0, 0), some (.aload_n 0, 2, 0, 0, 0, 0), some (.getfield 40, 5, 7, 0, 10, 0), none, none, some (.i2l, 6, 0, 0, 0, 0), some (.ldc2_w 343, 9, 0, 0, 0, 1103515245), none, none, some (.lmul, 10, 0, 0, 0, 0), some (.ldc2_w 345, 13, 0, 0, 0, 12345), none, none, some (.ladd, 14, 0, 0, 0, 0), some (.ldc2_w 347, 17, 0, 0, 0, 2147483647), none],
  [none, some (.land, 18, 0, 0, 0, 0), some (.l2i, 19, 0, 0, 0, 0), some (.putfield 40, 22, 7, 0, 10, 0), none, none, some (.aload_n 0, 23, 0, 0, 0, 0), some (.getfield 40, 26, 7, 0, 10, 0), none, none, some (.ldc_w 349, 29, 0, 0, 0, 65536), none, none, some (.idiv, 30, 0, 0, 0, 0), some (.ireturn, 31, 0, 0, 1, 0)]]
def zt129 : ZT := [[some (.iload_n 1, 1, 1, 0, 0, 0), some (.ifCond .lt 8, 4, 9, 0, 0, 0), none, none, some (.iload_n 1, 5, 1, 0, 0, 0), some (.iconst 4, 6, 0, 0, 0, 0), some (.if_icmp .lt 5, 9, 11, 0, 0, 0), none, none, some (.iconst (-1), 10, 0, 0, 0, 0), some (.ireturn, 11, 0, 0, 1, 0), some (.aload_n 0, 12, 0, 0, 0, 0), some (.getfield 52, 15, 9, 2, 10, 0), none, none, some (.iload_n 1, 16, 1, 0, 0, 0)],
  [some (.aaload, 17, 111, 0, 0, 0), some (.astore_n 2, 18, 2, 0, 0, 0), some (.aload_n 2, 19, 2, 0, 0, 0), some (.iconst 1, 20, 0, 0, 0, 0), some (.putfield 350, 23, 0, 3, 1, 0), none, none, some (.aload_n 2, 24, 2, 0, 0, 0), some (.aload_n 0, 25, 0, 0, 0, 0), some (.getfield 26, 28, 4, 2, 10, 0), none, none, some (.putfield 353, 31, 1, 2, 1, 0), none, none, some (.aload_n 2, 32, 2, 0, 0, 0)],
  [some (.getfield 354, 35, 4, 2, 1, 0), none, none, some (.aload_n 0, 36, 0, 0, 0, 0), some (.getfield 33, 39, 5, 2, 10, 0), none, none, some (.invokevirtual 128, 42, 32, 2, 0, 0), none, none, some (.aload_n 2, 43, 2, 0, 0, 0), some (.aload_n 0, 44, 0, 0, 0, 0), some (.getfield 37, 47, 6, 0, 10, 0), none, none, some (.putfield 357, 50, 2, 0, 1, 0)],
  [none, none, some (.aload_n 2, 51, 2, 0, 0, 0), some (.aload_n 0, 52, 0, 0, 0, 0), some (.getfield 40, 55, 7, 0, 10, 0), none, none, some (.putfield 358, 58, 3, 0, 1, 0), none, none, some (.aload_n 2, 59, 2, 0, 0, 0), some (.getfield 359, 62, 5, 2, 1, 0), none, none, some (.aload_n 0, 63, 0, 0, 0, 0), some (.getfield 46, 66, 8, 2, 10, 0)],
  [none, none, some (.invokevirtual 360, 69, 130, 2, 0, 0), none, none, some (.aload_n 0, 70, 0, 0, 0, 0), some (.getfield 33, 73, 5, 2, 10, 0), none, none, some (.getfield 182, 76, 7, 0, 5, 0), none, none, some (.ireturn, 77, 0, 0, 1, 0)]]
def zt130 : ZT := [[some (.aload_n 0, 1, 0, 0, 0, 0), some (.aload_n 1, 2, 1, 0, 0, 0), some (.getfield 9, 5, 0, 0, 2, 0), none, none, some (.putfield 9, 8, 0, 0, 2, 0), none, none, some (.aload_n 1, 9, 1, 0, 0, 0), some (.getfield 15, 12, 1, 2, 2, 0), none, none, some (.iconst 0, 13, 0, 0, 0, 0), some (.aload_n 0, 14, 0, 0, 0, 0), some (.getfield 15, 17, 1, 2, 2, 0), none],
  [none, some (.iconst 0, 18, 0, 0, 0, 0), some (.bipush 10, 20, 0, 0, 0, 0), none, some (.invokestatic 25, 23, 1003, 0, 0, 0), none, none, some (.aload_n 1, 24, 1, 0, 0, 0), some (.getfield 19, 27, 2, 2, 2, 0), none, none, some (.iconst 0, 28, 0, 0, 0, 0), some (.aload_n 0, 29, 0, 0, 0, 0), some (.getfield 19, 32, 2, 2, 2, 0), none, none],
  [some (.iconst 0, 33, 0, 0, 0, 0), some (.bipush 10, 35, 0, 0, 0, 0), none, some (.invokestatic 25, 38, 1003, 0, 0, 0), none, none, some (.aload_n 1, 39, 1, 0, 0, 0), some (.getfield 22, 42, 3, 2, 2, 0), none, none, some (.iconst 0, 43, 0, 0, 0, 0), some (.aload_n 0, 44, 0, 0, 0, 0), some (.getfield 22, 47, 3, 2, 2, 0), none, none, some (.iconst 0, 48, 0, 0, 0, 0)],
  [some (.bipush 10, 50, 0, 0, 0, 0), none, some (.invokestatic 25, 53, 1003, 0, 0, 0), none, none, some (.return_, 54, 0, 0, 0, 0)]]
def zt131 : ZT := [[some (.iload_n 1, 1, 1, 0, 0, 0), some (.ifCond .lt 20, 4, 21, 0, 0, 0), none, none, some (.iload_n 1, 5, 1, 0, 0, 0), some (.iconst 4, 6, 0, 0, 0, 0), some (.if_icmp .ge 15, 9, 21, 0, 0, 0), none, none, some (.aload_n 0, 10, 0, 0, 0, 0), some (.getfield 52, 13, 9, 2, 10, 0), none, none, some (.iload_n 1, 14, 1, 0, 0, 0), some (.aaload, 15, 111, 0, 0, 0), some (.getfield 350, 18, 0, 3, 1, 0)],
  [none, none, some (.ifCond .ne 5, 21, 23, 0, 0, 0), none, none, some (.iconst (-1), 22, 0, 0, 0, 0), some (.ireturn, 23, 0, 0, 1, 0), some (.aload_n 0, 24, 0, 0, 0, 0), some (.getfield 52, 27, 9, 2, 10, 0), none, none, some (.iload_n 1, 28, 1, 0, 0, 0), some (.aaload, 29, 111, 0, 0, 0), some (.astore_n 2, 30, 2, 0, 0, 0), some (.aload_n 0, 31, 0, 0, 0, 0), some (.aload_n 2, 32, 2, 0, 0, 0)],
  [some (.getfield 353, 35, 1, 2, 1, 0), none, none, some (.putfield 26, 38, 4, 2, 10, 0), none, none, some (.aload_n 0, 39, 0, 0, 0, 0), some (.getfield 33, 42, 5, 2, 10, 0), none, none, some (.aload_n 2, 43, 2, 0, 0, 0), some (.getfield 354, 46, 4, 2, 1, 0), none, none, some (.invokevirtual 128, 49, 32, 2, 0, 0), none],
  [none, some (.aload_n 0, 50, 0, 0, 0, 0), some (.aload_n 2, 51, 2, 0, 0, 0), some (.getfield 357, 54, 2, 0, 1, 0), none, none, some (.putfield 37, 57, 6, 0, 10, 0), none, none, some (.aload_n 0, 58, 0, 0, 0, 0), some (.aload_n 2, 59, 2, 0, 0, 0), some (.getfield 358, 62, 3, 0, 1, 0), none, none, some (.putfield 40, 65, 7, 0, 10, 0), none],
  [none, some (.aload_n 0, 66, 0, 0, 0, 0), some (.getfield 46, 69, 8, 2, 10, 0), none, none, some (.aload_n 2, 70, 2, 0, 0, 0), some (.getfield 359, 73, 5, 2, 1, 0), none, none, some (.invokevirtual 360, 76, 130, 2, 0, 0), none, none, some (.aload_n 0, 77, 0, 0, 0, 0), some (.iconst 0, 78, 0, 0, 0, 0), some (.putfield 60, 81, 11, 0, 10, 0), none],
  [none, some (.aload_n 0, 82, 0, 0, 0, 0), some (.getfield 33, 85, 5, 2, 10, 0), none, none, some (.getfield 182, 88, 7, 0, 5, 0), none, none, some (.ireturn, 89, 0, 0, 1, 0)]]
def zt132 : ZT := [[some (.aload_n 0, 1, 0, 0, 0, 0), some (.invokespecial 1, 4, 1000, 0, 0, 0), none, none, some (.aload_n 0, 5, 0, 0, 0, 0), some (.sipush 400, 8, 0, 0, 0, 0), none, none, some (.newarray .byte, 10, 101, 0, 0, 0), none, some (.putfield 7, 13, 0, 2, 11, 0), none, none, some (.aload_n 0, 14, 0, 0, 0, 0), some (.sipush 2400, 17, 0, 0, 0, 0), none],
  [none, some (.newarray .int, 19, 100, 0, 0, 0), none, some (.putfield 13, 22, 3, 2, 11, 0), none, none, some (.aload_n 0, 23, 0, 0, 0, 0), some (.bipush 7, 25, 0, 0, 0, 0), none, some (.newarray .int, 27, 100, 0, 0, 0), none, some (.putfield 17, 30, 4, 2, 11, 0), none, none, some (.aload_n 0, 31, 0, 0, 0, 0), some (.sipush 288, 34, 0, 0, 0, 0)],
  [none, none, some (.newarray .int, 36, 100, 0, 0, 0), none, some (.putfield 20, 39, 5, 2, 11, 0), none, none, some (.aload_n 0, 40, 0, 0, 0, 0), some (.bipush 6, 42, 0, 0, 0, 0), none, some (.newarray .int, 44, 100, 0, 0, 0), none, some (.putfield 23, 47, 6, 2, 11, 0), none, none, some (.aload_n 0, 48, 0, 0, 0, 0)],
  [some (.bipush 115, 50, 0, 0, 0, 0), none, some (.newarray .int, 52, 100, 0, 0, 0), none, some (.putfield 26, 55, 7, 2, 11, 0), none, none, some (.aload_n 0, 56, 0, 0, 0, 0), some (.sipush 400, 59, 0, 0, 0, 0), none, none, some (.newarray .int, 61, 100, 0, 0, 0), none, some (.putfield 29, 64, 15, 2, 11, 0), none, none],
  [some (.aload_n 0, 65, 0, 0, 0, 0), some (.bipush 64, 67, 0, 0, 0, 0), none, some (.newarray .long, 69, 103, 0, 0, 0), none, some (.putfield 32, 72, 17, 2, 11, 0), none, none, some (.aload_n 0, 73, 0, 0, 0, 0), some (.bipush 10, 75, 0, 0, 0, 0), none, some (.newarray .long, 77, 103, 0, 0, 0), none, some (.putfield 36, 80, 19, 2, 11, 0), none, none],
  [some (.aload_n 0, 81, 0, 0, 0, 0), some (.sipush 146, 84, 0, 0, 0, 0), none, none, some (.newarray .int, 86, 100, 0, 0, 0), none, some (.putfield 39, 89, 20, 2, 11, 0), none, none, some (.aload_n 0, 90, 0, 0, 0, 0), some (.iconst (-1), 91, 0, 0, 0, 0), some (.putfield 42, 94, 21, 0, 11, 0), none, none, some (.aload_n 0, 95, 0, 0, 0, 0), some (.iconst (-1), 96, 0, 0, 0, 0)],
  [some (.putfield 46, 99, 23, 0, 11, 0), none, none, some (.aload_n 0, 100, 0, 0, 0, 0), some (.iconst (-1), 101, 0, 0, 0, 0), some (.putfield 49, 104, 24, 0, 11, 0), none, none, some (.aload_n 0, 105, 0, 0, 0, 0), some (.sipush 1140, 108, 0, 0, 0, 0), none, none, some (.newarray .int, 110, 100, 0, 0, 0), none, some (.putfield 52, 113, 26, 2, 11, 0), none],
  [none, some (.aload_n 0, 114, 0, 0, 0, 0), some (.bipush 57, 116, 0, 0, 0, 0), none, some (.newarray .int, 118, 100, 0, 0, 0), none, some (.putfield 55, 121, 28, 2, 11, 0), none, none, some (.aload_n 0, 122, 0, 0, 0, 0), some (.bipush 50, 124, 0, 0, 0, 0), none, some (.newarray .int, 126, 100, 0, 0, 0), none, some (.putfield 58, 129, 31, 2, 11, 0), none],
  [none, some (.aload_n 0, 130, 0, 0, 0, 0), some (.sipush 366, 133, 0, 0, 0, 0), none, none, some (.newarray .int, 135, 100, 0, 0, 0), none, some (.putfield 61, 138, 32, 2, 11, 0), none, none, some (.aload_n 0, 139, 0, 0, 0, 0), some (.bipush 7, 141, 0, 0, 0, 0), none, some (.newarray .boolean, 143, 102, 0, 0, 0), none, some (.putfield 64, 146, 33, 2, 11, 0)],
  [none, none, some (.aload_n 0, 147, 0, 0, 0, 0), some (.bipush 42, 149, 0, 0, 0, 0), none, some (.newarray .int, 151, 100, 0, 0, 0), none, some (.putfield 68, 154, 34, 2, 11, 0), none, none, some (.aload_n 0, 155, 0, 0, 0, 0), some (.sipush 584, 158, 0, 0, 0, 0), none, none, some (.newarray .int, 160, 100, 0, 0, 0), none],
  [some (.putfield 71, 163, 36, 2, 11, 0), none, none, some (.aload_n 0, 164, 0, 0, 0, 0), some (.iconst 4, 165, 0, 0, 0, 0), some (.newarray .int, 167, 100, 0, 0, 0), none, some (.putfield 74, 170, 37, 2, 11, 0), none, none, some (.aload_n 0, 171, 0, 0, 0, 0), some (.iconst 4, 172, 0, 0, 0, 0), some (.newarray .int, 174, 100, 0, 0, 0), none, some (.putfield 77, 177, 38, 2, 11, 0), none],
  [none, some (.aload_n 0, 178, 0, 0, 0, 0), some (.iconst 4, 179, 0, 0, 0, 0), some (.newarray .boolean, 181, 102, 0, 0, 0), none, some (.putfield 80, 184, 39, 2, 11, 0), none, none, some (.return_, 185, 0, 0, 0, 0)]]
def zt133 : ZT := [[some (.aload_n 0, 1, 0, 0, 0, 0), some (.getfield 83, 4, 1, 0, 11, 0), none, none, some (.bipush 20, 6, 0, 0, 0, 0), none, some (.iadd, 7, 0, 0, 0, 0), some (.sipush 400, 10, 0, 0, 0, 0), none, none, some (.if_icmp .le 5, 13, 15, 0, 0, 0), none, none, some (.iconst (-1), 14, 0, 0, 0, 0), some (.ireturn, 15, 0, 0, 1, 0), some (.aload_n 0, 16, 0, 0, 0, 0)],
  [some (.iload_n 1, 17, 1, 0, 0, 0), some (.invokevirtual 86, 20, 134, 2, 0, 0), none, none, some (.aload_n 0, 21, 0, 0, 0, 0), some (.iload_n 2, 22, 2, 0, 0, 0), some (.invokevirtual 86, 25, 134, 2, 0, 0), none, none, some (.aload_n 0, 26, 0, 0, 0, 0), some (.iload_n 3, 27, 3, 0, 0, 0), some (.invokevirtual 86, 30, 134, 2, 0, 0), none, none, some (.aload_n 0, 31, 0, 0, 0, 0), some (.iload 4, 33, 4, 0, 0, 0)],
  [none, some (.invokevirtual 86, 36, 134, 2, 0, 0), none, none, some (.aload_n 0, 37, 0, 0, 0, 0), some (.iload 5, 39, 5, 0, 0, 0), none, some (.invokevirtual 86, 42, 134, 2, 0, 0), none, none, some (.aload_n 0, 43, 0, 0, 0, 0), some (.getfield 83, 46, 1, 0, 11, 0), none, none, some (.ireturn, 47, 0, 0, 1, 0)]]
def zt134 : ZT := [[some (.bipush 24, 2, 0, 0, 0, 0), none, some (.istore_n 2, 3, 2, 0, 0, 0), some (.iload_n 2, 4, 2, 0, 0, 0), some (.ifCond .lt 32, 7, 36, 0, 0, 0), none, none, some (.aload_n 0, 8, 0, 0, 0, 0), some (.getfield 7, 11, 0, 2, 11, 0), none, none, some (.aload_n 0, 12, 0, 0, 0, 0), some (.getfield 83, 15, 1, 0, 11, 0), none, none, some (.iload_n 1, 16, 1, 0, 0, 0)],
  [some (.iload_n 2, 17, 2, 0, 0, 0), some (.ishr, 18, 0, 0, 0, 0), some (.i2b, 19, 0, 0, 0, 0), some (.bastore, 20, 0, 0, 0, 0), some (.aload_n 0, 21, 0, 0, 0, 0), some (.dup, 22, 0, 0, 0, 0), some (.getfield 83, 25, 1, 0, 11, 0), none, none, some (.iconst 1, 26, 0, 0, 0, 0), some (.iadd, 27, 0, 0, 0, 0), some (.putfield 83, 30, 1, 0, 11, 0), none, none, some (.iinc 2 (-8), 33, 2, 0, 0, 0), none],
  [none, some (.goto (-30), 3, 0, 0, 0, 0), none, none, some (.return_, 37, 0, 0, 0, 0)]]
def zt135 : ZT := [[some (.iload_n 1, 1, 1, 0, 0, 0), some (.ifCond .lt 11, 4, 12, 0, 0, 0), none, none, some (.iload_n 1, 5, 1, 0, 0, 0), some (.aload_n 0, 6, 0, 0, 0, 0), some (.getfield 83, 9, 1, 0, 11, 0), none, none, some (.if_icmp .le 5, 12, 14, 0, 0, 0), none, none, some (.iconst (-1), 13, 0, 0, 0, 0), some (.ireturn, 14, 0, 0, 1, 0), some (.aload_n 0, 15, 0, 0, 0, 0), some (.iload_n 1, 16, 1, 0, 0, 0)],
  [some (.putfield 83, 19, 1, 0, 11, 0), none, none, some (.iload_n 1, 20, 1, 0, 0, 0), some (.ireturn, 21, 0, 0, 1, 0)]]
def zt136 : ZT := [[some (.aload_n 0, 1, 0, 0, 0, 0), some (.getfield 260, 4, 2, 0, 11, 0), none, none, some (.bipush 6, 6, 0, 0, 0, 0), none, some (.if_icmp .ne 5, 9, 11, 0, 0, 0), none, none, some (.iconst (-1), 10, 0, 0, 0, 0), some (.ireturn, 11, 0, 0, 1, 0), some (.aload_n 0, 12, 0, 0, 0, 0), some (.aload_n 0, 13, 0, 0, 0, 0), some (.getfield 260, 16, 2, 0, 11, 0), none, none],
  [some (.putfield 145, 19, 11, 0, 11, 0), none, none, some (.aload_n 0, 20, 0, 0, 0, 0), some (.getfield 23, 23, 6, 2, 11, 0), none, none, some (.aload_n 0, 24, 0, 0, 0, 0), some (.getfield 145, 27, 11, 0, 11, 0), none, none, some (.iconst 0, 28, 0, 0, 0, 0), some (.iastore, 29, 0, 0, 0, 0), some (.aload_n 0, 30, 0, 0, 0, 0), some (.invokevirtual 263, 33, 137, 1, 0, 0), none],
  [none, some (.ifCond .ne 11, 36, 44, 0, 0, 0), none, none, some (.bipush (-2), 38, 0, 0, 0, 0), none, some (.aload_n 0, 39, 0, 0, 0, 0), some (.getfield 90, 42, 9, 0, 11, 0), none, none, some (.isub, 43, 0, 0, 0, 0), some (.ireturn, 44, 0, 0, 1, 0), some (.aload_n 0, 45, 0, 0, 0, 0), some (.dup, 46, 0, 0, 0, 0), some (.getfield 260, 49, 2, 0, 11, 0), none],
  [none, some (.iconst 1, 50, 0, 0, 0, 0), some (.iadd, 51, 0, 0, 0, 0), some (.putfield 260, 54, 2, 0, 11, 0), none, none, some (.aload_n 0, 55, 0, 0, 0, 0), some (.getfield 260, 58, 2, 0, 11, 0), none, none, some (.iconst 1, 59, 0, 0, 0, 0), some (.isub, 60, 0, 0, 0, 0), some (.ireturn, 61, 0, 0, 1, 0)]]
def zt137 : ZT := [[some (.aload_n 0, 1, 0, 0, 0, 0), some (.getfield 17, 4, 4, 2, 11, 0), none, none, some (.aload_n 0, 5, 0, 0, 0, 0), some (.getfield 145, 8, 11, 0, 11, 0), none, none, some (.iconst 0, 9, 0, 0, 0, 0), some (.iastore, 10, 0, 0, 0, 0), some (.aload_n 0, 11, 0, 0, 0, 0), some (.iconst 0, 12, 0, 0, 0, 0), some (.putfield 248, 15, 14, 0, 11, 0), none, none, some (.aload_n 0, 16, 0, 0, 0, 0)],
  [some (.iconst 0, 17, 0, 0, 0, 0), some (.putfield 93, 20, 8, 0, 11, 0), none, none, some (.aload_n 0, 21, 0, 0, 0, 0), some (.iconst 0, 22, 0, 0, 0, 0), some (.putfield 90, 25, 9, 0, 11, 0), none, none, some (.aload_n 0, 26, 0, 0, 0, 0), some (.iconst 0, 27, 0, 0, 0, 0), some (.putfield 148, 30, 12, 0, 11, 0), none, none, some (.aload_n 0, 31, 0, 0, 0, 0), some (.invokevirtual 257, 34, 138, 1, 0, 0)],
  [none, none, some (.istore_n 1, 35, 1, 0, 0, 0), some (.iload_n 1, 36, 1, 0, 0, 0), some (.ifCond .eq 30, 39, 66, 0, 0, 0), none, none, some (.aload_n 0, 40, 0, 0, 0, 0), some (.invokevirtual 96, 43, 139, 1, 0, 0), none, none, some (.bipush 59, 45, 0, 0, 0, 0), none, some (.if_icmp .ne 21, 48, 66, 0, 0, 0), none, none],
  [some (.aload_n 0, 49, 0, 0, 0, 0), some (.dup, 50, 0, 0, 0, 0), some (.getfield 93, 53, 8, 0, 11, 0), none, none, some (.iconst 1, 54, 0, 0, 0, 0), some (.iadd, 55, 0, 0, 0, 0), some (.putfield 93, 58, 8, 0, 11, 0), none, none, some (.aload_n 0, 59, 0, 0, 0, 0), some (.invokevirtual 257, 62, 138, 1, 0, 0), none, none, some (.istore_n 1, 63, 1, 0, 0, 0), some (.goto (-28), 35, 0, 0, 0, 0)],
  [none, none, some (.iload_n 1, 67, 1, 0, 0, 0), some (.ifCond .eq 21, 70, 88, 0, 0, 0), none, none, some (.aload_n 0, 71, 0, 0, 0, 0), some (.invokevirtual 96, 74, 139, 1, 0, 0), none, none, some (.iconst (-1), 75, 0, 0, 0, 0), some (.if_icmp .eq 13, 78, 88, 0, 0, 0), none, none, some (.aload_n 0, 79, 0, 0, 0, 0), some (.iconst 0, 80, 0, 0, 0, 0)],
  [some (.aload_n 0, 81, 0, 0, 0, 0), some (.getfield 93, 84, 8, 0, 11, 0), none, none, some (.invokevirtual 114, 87, 143, 3, 0, 0), none, none, some (.pop, 88, 0, 0, 0, 0), some (.aload_n 0, 89, 0, 0, 0, 0), some (.iconst 0, 90, 0, 0, 0, 0), some (.putfield 83, 93, 1, 0, 11, 0), none, none, some (.aload_n 0, 94, 0, 0, 0, 0), some (.getfield 90, 97, 9, 0, 11, 0), none],
  [none, some (.ifCond .ne 7, 100, 104, 0, 0, 0), none, none, some (.iconst 1, 101, 0, 0, 0, 0), some (.goto 4, 105, 0, 0, 0, 0), none, none, some (.iconst 0, 105, 0, 0, 0, 0), some (.ireturn, 106, 0, 0, 2, 0)]]
def zt138 : ZT := [[some (.aload_n 0, 1, 0, 0, 0, 0), some (.invokevirtual 96, 4, 139, 1, 0, 0), none, none, some (.pop, 5, 0, 0, 0, 0), some (.aload_n 0, 6, 0, 0, 0, 0), some (.getfield 93, 9, 8, 0, 11, 0), none, none, some (.istore_n 1, 10, 1, 0, 0, 0), some (.aload_n 0, 11, 0, 0, 0, 0), some (.getfield 145, 14, 11, 0, 11, 0), none, none, some (.bipush 6, 16, 0, 0, 0, 0), none],
  [some (.if_icmp .ne 7, 19, 23, 0, 0, 0), none, none, some (.iconst 1, 20, 0, 0, 0, 0), some (.goto 4, 24, 0, 0, 0, 0), none, none, some (.iconst 0, 24, 0, 0, 0, 0), some (.istore_n 2, 25, 2, 0, 0, 0), some (.iload_n 2, 26, 2, 0, 0, 0), some (.ifCond .eq 13, 29, 39, 0, 0, 0), none, none, some (.aload_n 0, 30, 0, 0, 0, 0), some (.invokevirtual 243, 33, 140, 1, 0, 0), none],
  [none, some (.ifCond .ne 23, 36, 56, 0, 0, 0), none, none, some (.goto 13, 49, 0, 0, 0, 0), none, none, some (.aload_n 0, 40, 0, 0, 0, 0), some (.ldc2_w 246, 43, 0, 0, 0, 26479), none, none, some (.invokevirtual 104, 46, 141, 2, 0, 0), none, none, some (.ifCond .ne 10, 49, 56, 0, 0, 0), none],
  [none, some (.aload_n 0, 50, 0, 0, 0, 0), some (.iconst 0, 51, 0, 0, 0, 0), some (.iload_n 1, 52, 1, 0, 0, 0), some (.invokevirtual 114, 55, 143, 3, 0, 0), none, none, some (.ireturn, 56, 0, 0, 2, 0), some (.aload_n 0, 57, 0, 0, 0, 0), some (.getfield 248, 60, 14, 0, 11, 0), none, none, some (.iload_n 2, 61, 2, 0, 0, 0), some (.ifCond .eq 8, 64, 69, 0, 0, 0), none, none],
  [some (.bipush 40, 66, 0, 0, 0, 0), none, some (.goto 5, 71, 0, 0, 0, 0), none, none, some (.bipush 12, 71, 0, 0, 0, 0), none, some (.if_icmp .ne 10, 74, 81, 0, 0, 0), none, none, some (.aload_n 0, 75, 0, 0, 0, 0), some (.iconst 4, 76, 0, 0, 0, 0), some (.iload_n 1, 77, 1, 0, 0, 0), some (.invokevirtual 114, 80, 143, 3, 0, 0), none, none],
  [some (.ireturn, 81, 0, 0, 2, 0), some (.aload_n 0, 82, 0, 0, 0, 0), some (.dup, 83, 0, 0, 0, 0), some (.getfield 248, 86, 14, 0, 11, 0), none, none, some (.iconst 1, 87, 0, 0, 0, 0), some (.iadd, 88, 0, 0, 0, 0), some (.putfield 248, 91, 14, 0, 11, 0), none, none, some (.iload_n 2, 92, 2, 0, 0, 0), some (.ifCond .eq 11, 95, 103, 0, 0, 0), none, none, some (.aload_n 0, 96, 0, 0, 0, 0)],
  [some (.iload_n 1, 97, 1, 0, 0, 0), some (.invokevirtual 251, 100, 144, 2, 0, 0), none, none, some (.goto 7, 107, 0, 0, 0, 0), none, none, some (.aload_n 0, 104, 0, 0, 0, 0), some (.invokevirtual 254, 107, 156, 1, 0, 0), none, none, some (.ireturn, 108, 0, 0, 2, 0)]]
def zt139 : ZT := [[some (.aload_n 0, 1, 0, 0, 0, 0), some (.getfield 93, 4, 8, 0, 11, 0), none, none, some (.aload_n 0, 5, 0, 0, 0, 0), some (.getfield 83, 8, 1, 0, 11, 0), none, none, some (.if_icmp .ge 30, 11, 38, 0, 0, 0), none, none, some (.aload_n 0, 12, 0, 0, 0, 0), some (.getfield 7, 15, 0, 2, 11, 0), none, none, some (.aload_n 0, 16, 0, 0, 0, 0)],
  [some (.getfield 93, 19, 8, 0, 11, 0), none, none, some (.baload, 20, 0, 0, 0, 0), some (.bipush 32, 22, 0, 0, 0, 0), none, some (.if_icmp .ne 16, 25, 38, 0, 0, 0), none, none, some (.aload_n 0, 26, 0, 0, 0, 0), some (.dup, 27, 0, 0, 0, 0), some (.getfield 93, 30, 8, 0, 11, 0), none, none, some (.iconst 1, 31, 0, 0, 0, 0), some (.iadd, 32, 0, 0, 0, 0)],
  [some (.putfield 93, 35, 8, 0, 11, 0), none, none, some (.goto (-35), 0, 0, 0, 0, 0), none, none, some (.aload_n 0, 39, 0, 0, 0, 0), some (.getfield 93, 42, 8, 0, 11, 0), none, none, some (.aload_n 0, 43, 0, 0, 0, 0), some (.getfield 83, 46, 1, 0, 11, 0), none, none, some (.if_icmp .ge 19, 49, 65, 0, 0, 0), none],
  [none, some (.aload_n 0, 50, 0, 0, 0, 0), some (.getfield 7, 53, 0, 2, 11, 0), none, none, some (.aload_n 0, 54, 0, 0, 0, 0), some (.getfield 93, 57, 8, 0, 11, 0), none, none, some (.baload, 58, 0, 0, 0, 0), some (.sipush 255, 61, 0, 0, 0, 0), none, none, some (.iand, 62, 0, 0, 0, 0), some (.goto 4, 66, 0, 0, 0, 0), none],
  [none, some (.iconst (-1), 66, 0, 0, 0, 0), some (.ireturn, 67, 0, 0, 1, 0)]]
def zt140 : ZT := [[some (.aload_n 0, 1, 0, 0, 0, 0), some (.ldc2_w 227, 4, 0, 0, 0, 1936224119), none, none, some (.invokevirtual 104, 7, 141, 2, 0, 0), none, none, some (.ifCond .ne 33, 10, 40, 0, 0, 0), none, none, some (.aload_n 0, 11, 0, 0, 0, 0), some (.ldc2_w 127, 14, 0, 0, 0, 1919902052), none, none, some (.invokevirtual 104, 17, 141, 2, 0, 0), none],
  [none, some (.ifCond .ne 23, 20, 40, 0, 0, 0), none, none, some (.aload_n 0, 21, 0, 0, 0, 0), some (.ldc2_w 125, 24, 0, 0, 0, 6513010), none, none, some (.invokevirtual 104, 27, 141, 2, 0, 0), none, none, some (.ifCond .ne 13, 30, 40, 0, 0, 0), none, none, some (.aload_n 0, 31, 0, 0, 0, 0), some (.ldc2_w 241, 34, 0, 0, 0, 6775152)],
  [none, none, some (.invokevirtual 104, 37, 141, 2, 0, 0), none, none, some (.ifCond .eq 7, 40, 44, 0, 0, 0), none, none, some (.iconst 1, 41, 0, 0, 0, 0), some (.goto 4, 45, 0, 0, 0, 0), none, none, some (.iconst 0, 45, 0, 0, 0, 0), some (.ireturn, 46, 0, 0, 2, 0)]]
def zt141 : ZT := [[some (.aload_n 0, 1, 0, 0, 0, 0), some (.invokevirtual 96, 4, 139, 1, 0, 0), none, none, some (.pop, 5, 0, 0, 0, 0), some (.lconst 0, 6, 0, 0, 0, 0), some (.lstore_n 3, 7, 3, 0, 0, 0), some (.iconst 0, 8, 0, 0, 0, 0), some (.istore 5, 10, 5, 0, 0, 0), none, some (.aload_n 0, 11, 0, 0, 0, 0), some (.aload_n 0, 12, 0, 0, 0, 0), some (.getfield 93, 15, 8, 0, 11, 0), none, none, some (.iload 5, 17, 5, 0, 0, 0)],
  [none, some (.iadd, 18, 0, 0, 0, 0), some (.invokevirtual 100, 21, 142, 2, 0, 0), none, none, some (.ifCond .eq 35, 24, 56, 0, 0, 0), none, none, some (.iload 5, 26, 5, 0, 0, 0), none, some (.bipush 8, 28, 0, 0, 0, 0), none, some (.if_icmp .ge 22, 31, 50, 0, 0, 0), none, none, some (.lload_n 3, 32, 3, 0, 0, 0)],
  [some (.bipush 8, 34, 0, 0, 0, 0), none, some (.lshl, 35, 0, 0, 0, 0), some (.aload_n 0, 36, 0, 0, 0, 0), some (.getfield 7, 39, 0, 2, 11, 0), none, none, some (.aload_n 0, 40, 0, 0, 0, 0), some (.getfield 93, 43, 8, 0, 11, 0), none, none, some (.iload 5, 45, 5, 0, 0, 0), none, some (.iadd, 46, 0, 0, 0, 0), some (.baload, 47, 0, 0, 0, 0), some (.i2l, 48, 0, 0, 0, 0)],
  [some (.lor, 49, 0, 0, 0, 0), some (.lstore_n 3, 50, 3, 0, 0, 0), some (.iinc 5 1, 53, 5, 0, 0, 0), none, none, some (.goto (-43), 10, 0, 0, 0, 0), none, none, some (.iload 5, 58, 5, 0, 0, 0), none, some (.ifCond .le 20, 61, 78, 0, 0, 0), none, none, some (.iload 5, 63, 5, 0, 0, 0), none, some (.bipush 8, 65, 0, 0, 0, 0)],
  [none, some (.if_icmp .ge 13, 68, 78, 0, 0, 0), none, none, some (.lload_n 3, 69, 3, 0, 0, 0), some (.lload_n 1, 70, 1, 0, 0, 0), some (.lcmp, 71, 0, 0, 0, 0), some (.ifCond .ne 7, 74, 78, 0, 0, 0), none, none, some (.iconst 1, 75, 0, 0, 0, 0), some (.goto 4, 79, 0, 0, 0, 0), none, none, some (.iconst 0, 79, 0, 0, 0, 0), some (.ireturn, 80, 0, 0, 2, 0)]]
def zt142 : ZT := [[some (.iload_n 1, 1, 1, 0, 0, 0), some (.aload_n 0, 2, 0, 0, 0, 0), some (.getfield 83, 5, 1, 0, 11, 0), none, none, some (.if_icmp .ge 29, 8, 34, 0, 0, 0), none, none, some (.aload_n 0, 9, 0, 0, 0, 0), some (.getfield 7, 12, 0, 2, 11, 0), none, none, some (.iload_n 1, 13, 1, 0, 0, 0), some (.baload, 14, 0, 0, 0, 0), some (.bipush 97, 16, 0, 0, 0, 0), none],
  [some (.if_icmp .lt 18, 19, 34, 0, 0, 0), none, none, some (.aload_n 0, 20, 0, 0, 0, 0), some (.getfield 7, 23, 0, 2, 11, 0), none, none, some (.iload_n 1, 24, 1, 0, 0, 0), some (.baload, 25, 0, 0, 0, 0), some (.bipush 122, 27, 0, 0, 0, 0), none, some (.if_icmp .gt 7, 30, 34, 0, 0, 0), none, none, some (.iconst 1, 31, 0, 0, 0, 0), some (.goto 4, 35, 0, 0, 0, 0)],
  [none, none, some (.iconst 0, 35, 0, 0, 0, 0), some (.ireturn, 36, 0, 0, 2, 0)]]
def zt143 : ZT := [[some (.aload_n 0, 1, 0, 0, 0, 0), some (.getfield 90, 4, 9, 0, 11, 0), none, none, some (.ifCond .ne 15, 7, 19, 0, 0, 0), none, none, some (.aload_n 0, 8, 0, 0, 0, 0), some (.iconst 1, 9, 0, 0, 0, 0), some (.bipush 8, 11, 0, 0, 0, 0), none, some (.iload_n 2, 12, 2, 0, 0, 0), some (.imul, 13, 0, 0, 0, 0), some (.iadd, 14, 0, 0, 0, 0), some (.iload_n 1, 15, 1, 0, 0, 0), some (.iadd, 16, 0, 0, 0, 0)],
  [some (.putfield 90, 19, 9, 0, 11, 0), none, none, some (.iconst 0, 20, 0, 0, 0, 0), some (.ireturn, 21, 0, 0, 2, 0)]]
def zt144 : ZT := [[some (.aload_n 0, 1, 0, 0, 0, 0), some (.ldc2_w 227, 4, 0, 0, 0, 1936224119), none, none, some (.invokevirtual 104, 7, 141, 2, 0, 0), none, none, some (.ifCond .eq 9, 10, 16, 0, 0, 0), none, none, some (.aload_n 0, 11, 0, 0, 0, 0), some (.iload_n 1, 12, 1, 0, 0, 0), some (.invokevirtual 229, 15, 145, 2, 0, 0), none, none, some (.ireturn, 16, 0, 0, 2, 0)],
  [some (.aload_n 0, 17, 0, 0, 0, 0), some (.getfield 26, 20, 7, 2, 11, 0), none, none, some (.iconst 0, 21, 0, 0, 0, 0), some (.iaload, 22, 0, 0, 0, 0), some (.ifCond .ne 10, 25, 32, 0, 0, 0), none, none, some (.aload_n 0, 26, 0, 0, 0, 0), some (.iconst 4, 27, 0, 0, 0, 0), some (.iload_n 1, 28, 1, 0, 0, 0), some (.invokevirtual 114, 31, 143, 3, 0, 0), none, none, some (.ireturn, 32, 0, 0, 2, 0)],
  [some (.aload_n 0, 33, 0, 0, 0, 0), some (.ldc2_w 127, 36, 0, 0, 0, 1919902052), none, none, some (.invokevirtual 104, 39, 141, 2, 0, 0), none, none, some (.ifCond .eq 9, 42, 48, 0, 0, 0), none, none, some (.aload_n 0, 43, 0, 0, 0, 0), some (.iload_n 1, 44, 1, 0, 0, 0), some (.invokevirtual 232, 47, 151, 2, 0, 0), none, none, some (.ireturn, 48, 0, 0, 2, 0)],
  [some (.aload_n 0, 49, 0, 0, 0, 0), some (.ldc2_w 125, 52, 0, 0, 0, 6513010), none, none, some (.invokevirtual 104, 55, 141, 2, 0, 0), none, none, some (.ifCond .eq 11, 58, 66, 0, 0, 0), none, none, some (.aload_n 0, 59, 0, 0, 0, 0), some (.iload_n 1, 60, 1, 0, 0, 0), some (.invokevirtual 235, 63, 153, 2, 0, 0), none, none, some (.goto 7, 70, 0, 0, 0, 0)],
  [none, none, some (.aload_n 0, 67, 0, 0, 0, 0), some (.invokevirtual 238, 70, 155, 1, 0, 0), none, none, some (.ireturn, 71, 0, 0, 2, 0)]]
def zt145 : ZT := [[some (.aload_n 0, 1, 0, 0, 0, 0), some (.getfield 26, 4, 7, 2, 11, 0), none, none, some (.iconst 0, 5, 0, 0, 0, 0), some (.iaload, 6, 0, 0, 0, 0), some (.ifCond .le 10, 9, 16, 0, 0, 0), none, none, some (.aload_n 0, 10, 0, 0, 0, 0), some (.iconst 4, 11, 0, 0, 0, 0), some (.iload_n 1, 12, 1, 0, 0, 0), some (.invokevirtual 114, 15, 143, 3, 0, 0), none, none, some (.ireturn, 16, 0, 0, 2, 0)],
  [some (.aload_n 0, 17, 0, 0, 0, 0), some (.invokevirtual 108, 20, 146, 1, 0, 0), none, none, some (.aload_n 0, 21, 0, 0, 0, 0), some (.iconst 1, 22, 0, 0, 0, 0), some (.iconst 3, 23, 0, 0, 0, 0), some (.bipush 20, 25, 0, 0, 0, 0), none, some (.invokevirtual 217, 28, 147, 4, 0, 0), none, none, some (.ifCond .ne 5, 31, 33, 0, 0, 0), none, none, some (.iconst 0, 32, 0, 0, 0, 0)],
  [some (.ireturn, 33, 0, 0, 2, 0), some (.aload_n 0, 34, 0, 0, 0, 0), some (.getfield 26, 37, 7, 2, 11, 0), none, none, some (.iconst 0, 38, 0, 0, 0, 0), some (.iconst 1, 39, 0, 0, 0, 0), some (.iastore, 40, 0, 0, 0, 0), some (.iconst 1, 41, 0, 0, 0, 0), some (.ireturn, 42, 0, 0, 2, 0)]]
def zt146 : ZT := [[some (.aload_n 0, 1, 0, 0, 0, 0), some (.aload_n 0, 2, 0, 0, 0, 0), some (.getfield 93, 5, 8, 0, 11, 0), none, none, some (.invokevirtual 100, 8, 142, 2, 0, 0), none, none, some (.ifCond .eq 16, 11, 24, 0, 0, 0), none, none, some (.aload_n 0, 12, 0, 0, 0, 0), some (.dup, 13, 0, 0, 0, 0), some (.getfield 93, 16, 8, 0, 11, 0), none, none],
  [some (.iconst 1, 17, 0, 0, 0, 0), some (.iadd, 18, 0, 0, 0, 0), some (.putfield 93, 21, 8, 0, 11, 0), none, none, some (.goto (-21), 0, 0, 0, 0, 0), none, none, some (.return_, 25, 0, 0, 0, 0)]]
def zt147 : ZT := [[some (.aload_n 0, 1, 0, 0, 0, 0), some (.iload_n 2, 2, 2, 0, 0, 0), some (.iload_n 3, 3, 3, 0, 0, 0), some (.invokevirtual 166, 6, 148, 3, 0, 0), none, none, some (.ifCond .ne 5, 9, 11, 0, 0, 0), none, none, some (.iconst 0, 10, 0, 0, 0, 0), some (.ireturn, 11, 0, 0, 2, 0), some (.aload_n 0, 12, 0, 0, 0, 0), some (.getfield 26, 15, 7, 2, 11, 0), none, none, some (.iload_n 1, 16, 1, 0, 0, 0)],
  [some (.aload_n 0, 17, 0, 0, 0, 0), some (.getfield 118, 20, 10, 0, 11, 0), none, none, some (.iastore, 21, 0, 0, 0, 0), some (.iconst 1, 22, 0, 0, 0, 0), some (.ireturn, 23, 0, 0, 2, 0)]]
def zt148 : ZT := [[some (.aload_n 0, 1, 0, 0, 0, 0), some (.invokevirtual 96, 4, 139, 1, 0, 0), none, none, some (.pop, 5, 0, 0, 0, 0), some (.aload_n 0, 6, 0, 0, 0, 0), some (.aload_n 0, 7, 0, 0, 0, 0), some (.getfield 93, 10, 8, 0, 11, 0), none, none, some (.invokevirtual 111, 13, 149, 2, 0, 0), none, none, some (.ifCond .ne 13, 16, 26, 0, 0, 0), none, none],
  [some (.aload_n 0, 17, 0, 0, 0, 0), some (.iconst 0, 18, 0, 0, 0, 0), some (.aload_n 0, 19, 0, 0, 0, 0), some (.getfield 93, 22, 8, 0, 11, 0), none, none, some (.invokevirtual 114, 25, 143, 3, 0, 0), none, none, some (.ireturn, 26, 0, 0, 2, 0), some (.aload_n 0, 27, 0, 0, 0, 0), some (.getfield 93, 30, 8, 0, 11, 0), none, none, some (.istore_n 3, 31, 3, 0, 0, 0), some (.iconst 0, 32, 0, 0, 0, 0)],
  [some (.istore 4, 34, 4, 0, 0, 0), none, some (.aload_n 0, 35, 0, 0, 0, 0), some (.aload_n 0, 36, 0, 0, 0, 0), some (.getfield 93, 39, 8, 0, 11, 0), none, none, some (.invokevirtual 111, 42, 149, 2, 0, 0), none, none, some (.ifCond .eq 46, 45, 88, 0, 0, 0), none, none, some (.aload_n 0, 46, 0, 0, 0, 0), some (.getfield 93, 49, 8, 0, 11, 0), none],
  [none, some (.iload_n 3, 50, 3, 0, 0, 0), some (.isub, 51, 0, 0, 0, 0), some (.iconst 5, 52, 0, 0, 0, 0), some (.if_icmp .ge 23, 55, 75, 0, 0, 0), none, none, some (.bipush 10, 57, 0, 0, 0, 0), none, some (.iload 4, 59, 4, 0, 0, 0), none, some (.imul, 60, 0, 0, 0, 0), some (.aload_n 0, 61, 0, 0, 0, 0), some (.getfield 7, 64, 0, 2, 11, 0), none, none],
  [some (.aload_n 0, 65, 0, 0, 0, 0), some (.getfield 93, 68, 8, 0, 11, 0), none, none, some (.baload, 69, 0, 0, 0, 0), some (.iadd, 70, 0, 0, 0, 0), some (.bipush 48, 72, 0, 0, 0, 0), none, some (.isub, 73, 0, 0, 0, 0), some (.istore 4, 75, 4, 0, 0, 0), none, some (.aload_n 0, 76, 0, 0, 0, 0), some (.dup, 77, 0, 0, 0, 0), some (.getfield 93, 80, 8, 0, 11, 0), none, none],
  [some (.iconst 1, 81, 0, 0, 0, 0), some (.iadd, 82, 0, 0, 0, 0), some (.putfield 93, 85, 8, 0, 11, 0), none, none, some (.goto (-51), 34, 0, 0, 0, 0), none, none, some (.aload_n 0, 89, 0, 0, 0, 0), some (.iload 4, 91, 4, 0, 0, 0), none, some (.putfield 118, 94, 10, 0, 11, 0), none, none, some (.aload_n 0, 95, 0, 0, 0, 0), some (.getfield 93, 98, 8, 0, 11, 0)],
  [none, none, some (.iload_n 3, 99, 3, 0, 0, 0), some (.isub, 100, 0, 0, 0, 0), some (.iconst 5, 101, 0, 0, 0, 0), some (.if_icmp .gt 16, 104, 117, 0, 0, 0), none, none, some (.iload 4, 106, 4, 0, 0, 0), none, some (.i2l, 107, 0, 0, 0, 0), some (.iload_n 1, 108, 1, 0, 0, 0), some (.i2l, 109, 0, 0, 0, 0), some (.iload_n 2, 110, 2, 0, 0, 0), some (.i2l, 111, 0, 0, 0, 0), some (.invokestatic 121, 114, 150, 3, 0, 0)],
  [none, none, some (.ifCond .ne 12, 117, 126, 0, 0, 0), none, none, some (.aload_n 0, 118, 0, 0, 0, 0), some (.iconst 1, 119, 0, 0, 0, 0), some (.iload_n 3, 120, 3, 0, 0, 0), some (.invokevirtual 114, 123, 143, 3, 0, 0), none, none, some (.ifCond .eq 7, 126, 130, 0, 0, 0), none, none, some (.iconst 1, 127, 0, 0, 0, 0), some (.goto 4, 131, 0, 0, 0, 0)],
  [none, none, some (.iconst 0, 131, 0, 0, 0, 0), some (.ireturn, 132, 0, 0, 2, 0)]]
def zt149 : ZT := [[some (.iload_n 1, 1, 1, 0, 0, 0), some (.aload_n 0, 2, 0, 0, 0, 0), some (.getfield 83, 5, 1, 0, 11, 0), none, none, some (.if_icmp .ge 29, 8, 34, 0, 0, 0), none, none, some (.aload_n 0, 9, 0, 0, 0, 0), some (.getfield 7, 12, 0, 2, 11, 0), none, none, some (.iload_n 1, 13, 1, 0, 0, 0), some (.baload, 14, 0, 0, 0, 0), some (.bipush 48, 16, 0, 0, 0, 0), none],
  [some (.if_icmp .lt 18, 19, 34, 0, 0, 0), none, none, some (.aload_n 0, 20, 0, 0, 0, 0), some (.getfield 7, 23, 0, 2, 11, 0), none, none, some (.iload_n 1, 24, 1, 0, 0, 0), some (.baload, 25, 0, 0, 0, 0), some (.bipush 57, 27, 0, 0, 0, 0), none, some (.if_icmp .gt 7, 30, 34, 0, 0, 0), none, none, some (.iconst 1, 31, 0, 0, 0, 0), some (.goto 4, 35, 0, 0, 0, 0)],
  [none, none, some (.iconst 0, 35, 0, 0, 0, 0), some (.ireturn, 36, 0, 0, 2, 0)]]
def zt150 : ZT := [[some (.lload_n 0, 1, 0, 0, 0, 0), some (.lload_n 2, 2, 2, 0, 0, 0), some (.lcmp, 3, 0, 0, 0, 0), some (.ifCond .lt 14, 6, 17, 0, 0, 0), none, none, some (.lload_n 0, 7, 0, 0, 0, 0), some (.lload 4, 9, 4, 0, 0, 0), none, some (.lcmp, 10, 0, 0, 0, 0), some (.ifCond .gt 7, 13, 17, 0, 0, 0), none, none, some (.iconst 1, 14, 0, 0, 0, 0), some (.goto 4, 18, 0, 0, 0, 0), none],
  [none, some (.iconst 0, 18, 0, 0, 0, 0), some (.ireturn, 19, 0, 0, 2, 0)]]
def zt151 : ZT := [[some (.aload_n 0, 1, 0, 0, 0, 0), some (.getfield 26, 4, 7, 2, 11, 0), none, none, some (.iconst 2, 5, 0, 0, 0, 0), some (.iaload, 6, 0, 0, 0, 0), some (.iconst 5, 7, 0, 0, 0, 0), some (.if_icmp .ne 10, 10, 17, 0, 0, 0), none, none, some (.aload_n 0, 11, 0, 0, 0, 0), some (.iconst 4, 12, 0, 0, 0, 0), some (.iload_n 1, 13, 1, 0, 0, 0), some (.invokevirtual 114, 16, 143, 3, 0, 0), none, none],
  [some (.ireturn, 17, 0, 0, 2, 0), some (.aload_n 0, 18, 0, 0, 0, 0), some (.invokevirtual 108, 21, 146, 1, 0, 0), none, none, some (.aload_n 0, 22, 0, 0, 0, 0), some (.invokevirtual 96, 25, 139, 1, 0, 0), none, none, some (.pop, 26, 0, 0, 0, 0), some (.aload_n 0, 27, 0, 0, 0, 0), some (.getfield 93, 30, 8, 0, 11, 0), none, none, some (.istore_n 2, 31, 2, 0, 0, 0), some (.aload_n 0, 32, 0, 0, 0, 0)],
  [some (.bipush 67, 34, 0, 0, 0, 0), none, some (.aload_n 0, 35, 0, 0, 0, 0), some (.getfield 26, 38, 7, 2, 11, 0), none, none, some (.iconst 2, 39, 0, 0, 0, 0), some (.iaload, 40, 0, 0, 0, 0), some (.iadd, 41, 0, 0, 0, 0), some (.iconst 0, 42, 0, 0, 0, 0), some (.aload_n 0, 43, 0, 0, 0, 0), some (.getfield 26, 46, 7, 2, 11, 0), none, none, some (.iconst 1, 47, 0, 0, 0, 0), some (.iaload, 48, 0, 0, 0, 0)],
  [some (.iconst 1, 49, 0, 0, 0, 0), some (.isub, 50, 0, 0, 0, 0), some (.invokevirtual 217, 53, 147, 4, 0, 0), none, none, some (.ifCond .ne 5, 56, 58, 0, 0, 0), none, none, some (.iconst 0, 57, 0, 0, 0, 0), some (.ireturn, 58, 0, 0, 2, 0), some (.aload_n 0, 59, 0, 0, 0, 0), some (.aload_n 0, 60, 0, 0, 0, 0), some (.getfield 118, 63, 10, 0, 11, 0), none, none, some (.invokevirtual 221, 66, 152, 2, 0, 0)],
  [none, none, some (.ifCond .eq 10, 69, 76, 0, 0, 0), none, none, some (.aload_n 0, 70, 0, 0, 0, 0), some (.iconst 1, 71, 0, 0, 0, 0), some (.iload_n 2, 72, 2, 0, 0, 0), some (.invokevirtual 114, 75, 143, 3, 0, 0), none, none, some (.ireturn, 76, 0, 0, 2, 0), some (.aload_n 0, 77, 0, 0, 0, 0), some (.bipush 72, 79, 0, 0, 0, 0), none, some (.aload_n 0, 80, 0, 0, 0, 0)],
  [some (.getfield 26, 83, 7, 2, 11, 0), none, none, some (.iconst 2, 84, 0, 0, 0, 0), some (.iaload, 85, 0, 0, 0, 0), some (.iadd, 86, 0, 0, 0, 0), some (.iconst 1, 87, 0, 0, 0, 0), some (.bipush 20, 89, 0, 0, 0, 0), none, some (.invokevirtual 217, 92, 147, 4, 0, 0), none, none, some (.ifCond .ne 5, 95, 97, 0, 0, 0), none, none, some (.iconst 0, 96, 0, 0, 0, 0)],
  [some (.ireturn, 97, 0, 0, 2, 0), some (.aload_n 0, 98, 0, 0, 0, 0), some (.getfield 26, 101, 7, 2, 11, 0), none, none, some (.iconst 2, 102, 0, 0, 0, 0), some (.dup2, 103, 0, 0, 0, 0), some (.iaload, 104, 0, 0, 0, 0), some (.iconst 1, 105, 0, 0, 0, 0), some (.iadd, 106, 0, 0, 0, 0), some (.iastore, 107, 0, 0, 0, 0), some (.iconst 1, 108, 0, 0, 0, 0), some (.ireturn, 109, 0, 0, 2, 0)]]
def zt152 : ZT := [[some (.iconst 0, 1, 0, 0, 0, 0), some (.istore_n 2, 2, 2, 0, 0, 0), some (.iload_n 2, 3, 2, 0, 0, 0), some (.aload_n 0, 4, 0, 0, 0, 0), some (.getfield 26, 7, 7, 2, 11, 0), none, none, some (.iconst 2, 8, 0, 0, 0, 0), some (.iaload, 9, 0, 0, 0, 0), some (.if_icmp .ge 24, 12, 33, 0, 0, 0), none, none, some (.aload_n 0, 13, 0, 0, 0, 0), some (.getfield 26, 16, 7, 2, 11, 0), none, none],
  [some (.bipush 67, 18, 0, 0, 0, 0), none, some (.iload_n 2, 19, 2, 0, 0, 0), some (.iadd, 20, 0, 0, 0, 0), some (.iaload, 21, 0, 0, 0, 0), some (.iload_n 1, 22, 1, 0, 0, 0), some (.if_icmp .ne 5, 25, 27, 0, 0, 0), none, none, some (.iconst 1, 26, 0, 0, 0, 0), some (.ireturn, 27, 0, 0, 2, 0), some (.iinc 2 1, 30, 2, 0, 0, 0), none, none, some (.goto (-28), 2, 0, 0, 0, 0), none],
  [none, some (.iconst 0, 34, 0, 0, 0, 0), some (.ireturn, 35, 0, 0, 2, 0)]]
def zt153 : ZT := [[some (.aload_n 0, 1, 0, 0, 0, 0), some (.getfield 26, 4, 7, 2, 11, 0), none, none, some (.iconst 3, 5, 0, 0, 0, 0), some (.iaload, 6, 0, 0, 0, 0), some (.bipush 6, 8, 0, 0, 0, 0), none, some (.if_icmp .ne 10, 11, 18, 0, 0, 0), none, none, some (.aload_n 0, 12, 0, 0, 0, 0), some (.iconst 4, 13, 0, 0, 0, 0), some (.iload_n 1, 14, 1, 0, 0, 0), some (.invokevirtual 114, 17, 143, 3, 0, 0), none],
  [none, some (.ireturn, 18, 0, 0, 2, 0), some (.aload_n 0, 19, 0, 0, 0, 0), some (.invokevirtual 108, 22, 146, 1, 0, 0), none, none, some (.aload_n 0, 23, 0, 0, 0, 0), some (.invokevirtual 96, 26, 139, 1, 0, 0), none, none, some (.pop, 27, 0, 0, 0, 0), some (.aload_n 0, 28, 0, 0, 0, 0), some (.getfield 93, 31, 8, 0, 11, 0), none, none, some (.istore_n 2, 32, 2, 0, 0, 0)],
  [some (.bipush 77, 34, 0, 0, 0, 0), none, some (.iconst 3, 35, 0, 0, 0, 0), some (.aload_n 0, 36, 0, 0, 0, 0), some (.getfield 26, 39, 7, 2, 11, 0), none, none, some (.iconst 3, 40, 0, 0, 0, 0), some (.iaload, 41, 0, 0, 0, 0), some (.imul, 42, 0, 0, 0, 0), some (.iadd, 43, 0, 0, 0, 0), some (.istore_n 3, 44, 3, 0, 0, 0), some (.aload_n 0, 45, 0, 0, 0, 0), some (.iload_n 3, 46, 3, 0, 0, 0), some (.iconst 0, 47, 0, 0, 0, 0), some (.aload_n 0, 48, 0, 0, 0, 0)],
  [some (.getfield 26, 51, 7, 2, 11, 0), none, none, some (.iconst 1, 52, 0, 0, 0, 0), some (.iaload, 53, 0, 0, 0, 0), some (.iconst 1, 54, 0, 0, 0, 0), some (.isub, 55, 0, 0, 0, 0), some (.invokevirtual 217, 58, 147, 4, 0, 0), none, none, some (.ifCond .ne 5, 61, 63, 0, 0, 0), none, none, some (.iconst 0, 62, 0, 0, 0, 0), some (.ireturn, 63, 0, 0, 2, 0), some (.aload_n 0, 64, 0, 0, 0, 0)],
  [some (.aload_n 0, 65, 0, 0, 0, 0), some (.getfield 118, 68, 10, 0, 11, 0), none, none, some (.invokevirtual 224, 71, 154, 2, 0, 0), none, none, some (.ifCond .ne 19, 74, 90, 0, 0, 0), none, none, some (.aload_n 0, 75, 0, 0, 0, 0), some (.getfield 26, 78, 7, 2, 11, 0), none, none, some (.bipush 95, 80, 0, 0, 0, 0), none],
  [some (.aload_n 0, 81, 0, 0, 0, 0), some (.getfield 118, 84, 10, 0, 11, 0), none, none, some (.iadd, 85, 0, 0, 0, 0), some (.iaload, 86, 0, 0, 0, 0), some (.iconst 1, 87, 0, 0, 0, 0), some (.if_icmp .ne 10, 90, 97, 0, 0, 0), none, none, some (.aload_n 0, 91, 0, 0, 0, 0), some (.iconst 1, 92, 0, 0, 0, 0), some (.iload_n 2, 93, 2, 0, 0, 0), some (.invokevirtual 114, 96, 143, 3, 0, 0), none, none],
  [some (.ireturn, 97, 0, 0, 2, 0), some (.aload_n 0, 98, 0, 0, 0, 0), some (.iload_n 3, 99, 3, 0, 0, 0), some (.iconst 1, 100, 0, 0, 0, 0), some (.iadd, 101, 0, 0, 0, 0), some (.iconst 0, 102, 0, 0, 0, 0), some (.aload_n 0, 103, 0, 0, 0, 0), some (.getfield 26, 106, 7, 2, 11, 0), none, none, some (.iconst 2, 107, 0, 0, 0, 0), some (.iaload, 108, 0, 0, 0, 0), some (.iconst 1, 109, 0, 0, 0, 0), some (.isub, 110, 0, 0, 0, 0), some (.invokevirtual 217, 113, 147, 4, 0, 0), none],
  [none, some (.ifCond .eq 16, 116, 129, 0, 0, 0), none, none, some (.aload_n 0, 117, 0, 0, 0, 0), some (.iload_n 3, 118, 3, 0, 0, 0), some (.iconst 2, 119, 0, 0, 0, 0), some (.iadd, 120, 0, 0, 0, 0), some (.iconst 0, 121, 0, 0, 0, 0), some (.bipush 60, 123, 0, 0, 0, 0), none, some (.invokevirtual 217, 126, 147, 4, 0, 0), none, none, some (.ifCond .ne 5, 129, 131, 0, 0, 0), none],
  [none, some (.iconst 0, 130, 0, 0, 0, 0), some (.ireturn, 131, 0, 0, 2, 0), some (.aload_n 0, 132, 0, 0, 0, 0), some (.getfield 26, 135, 7, 2, 11, 0), none, none, some (.iconst 3, 136, 0, 0, 0, 0), some (.dup2, 137, 0, 0, 0, 0), some (.iaload, 138, 0, 0, 0, 0), some (.iconst 1, 139, 0, 0, 0, 0), some (.iadd, 140, 0, 0, 0, 0), some (.iastore, 141, 0, 0, 0, 0), some (.iconst 1, 142, 0, 0, 0, 0), some (.ireturn, 143, 0, 0, 2, 0)]]
def zt154 : ZT := [[some (.iconst 0, 1, 0, 0, 0, 0), some (.istore_n 2, 2, 2, 0, 0, 0), some (.iload_n 2, 3, 2, 0, 0, 0), some (.aload_n 0, 4, 0, 0, 0, 0), some (.getfield 26, 7, 7, 2, 11, 0), none, none, some (.iconst 3, 8, 0, 0, 0, 0), some (.iaload, 9, 0, 0, 0, 0), some (.if_icmp .ge 26, 12, 35, 0, 0, 0), none, none, some (.aload_n 0, 13, 0, 0, 0, 0), some (.getfield 26, 16, 7, 2, 11, 0), none, none],
  [some (.bipush 77, 18, 0, 0, 0, 0), none, some (.iconst 3, 19, 0, 0, 0, 0), some (.iload_n 2, 20, 2, 0, 0, 0), some (.imul, 21, 0, 0, 0, 0), some (.iadd, 22, 0, 0, 0, 0), some (.iaload, 23, 0, 0, 0, 0), some (.iload_n 1, 24, 1, 0, 0, 0), some (.if_icmp .ne 5, 27, 29, 0, 0, 0), none, none, some (.iconst 1, 28, 0, 0, 0, 0), some (.ireturn, 29, 0, 0, 2, 0), some (.iinc 2 1, 32, 2, 0, 0, 0), none, none],
  [some (.goto (-30), 2, 0, 0, 0, 0), none, none, some (.iconst 0, 36, 0, 0, 0, 0), some (.ireturn, 37, 0, 0, 2, 0)]]
def zt155 : ZT := [[some (.aload_n 0, 1, 0, 0, 0, 0), some (.invokevirtual 108, 4, 146, 1, 0, 0), none, none, some (.aload_n 0, 5, 0, 0, 0, 0), some (.invokevirtual 96, 8, 139, 1, 0, 0), none, none, some (.pop, 9, 0, 0, 0, 0), some (.aload_n 0, 10, 0, 0, 0, 0), some (.getfield 93, 13, 8, 0, 11, 0), none, none, some (.istore_n 1, 14, 1, 0, 0, 0), some (.aload_n 0, 15, 0, 0, 0, 0), some (.iconst 0, 16, 0, 0, 0, 0)],
  [some (.aload_n 0, 17, 0, 0, 0, 0), some (.getfield 26, 20, 7, 2, 11, 0), none, none, some (.iconst 1, 21, 0, 0, 0, 0), some (.iaload, 22, 0, 0, 0, 0), some (.iconst 1, 23, 0, 0, 0, 0), some (.isub, 24, 0, 0, 0, 0), some (.invokevirtual 166, 27, 148, 3, 0, 0), none, none, some (.ifCond .ne 5, 30, 32, 0, 0, 0), none, none, some (.iconst 0, 31, 0, 0, 0, 0), some (.ireturn, 32, 0, 0, 2, 0)],
  [some (.aload_n 0, 33, 0, 0, 0, 0), some (.aload_n 0, 34, 0, 0, 0, 0), some (.getfield 118, 37, 10, 0, 11, 0), none, none, some (.invokevirtual 224, 40, 154, 2, 0, 0), none, none, some (.ifCond .eq 10, 43, 50, 0, 0, 0), none, none, some (.aload_n 0, 44, 0, 0, 0, 0), some (.iconst 1, 45, 0, 0, 0, 0), some (.iload_n 1, 46, 1, 0, 0, 0), some (.invokevirtual 114, 49, 143, 3, 0, 0), none],
  [none, some (.ireturn, 50, 0, 0, 2, 0), some (.aload_n 0, 51, 0, 0, 0, 0), some (.getfield 26, 54, 7, 2, 11, 0), none, none, some (.bipush 95, 56, 0, 0, 0, 0), none, some (.aload_n 0, 57, 0, 0, 0, 0), some (.getfield 118, 60, 10, 0, 11, 0), none, none, some (.iadd, 61, 0, 0, 0, 0), some (.iconst 1, 62, 0, 0, 0, 0), some (.iastore, 63, 0, 0, 0, 0), some (.iconst 1, 64, 0, 0, 0, 0)],
  [some (.ireturn, 65, 0, 0, 2, 0)]]
def zt156 : ZT := [[some (.aload_n 0, 1, 0, 0, 0, 0), some (.invokevirtual 108, 4, 146, 1, 0, 0), none, none, some (.bipush 48, 6, 0, 0, 0, 0), none, some (.aload_n 0, 7, 0, 0, 0, 0), some (.getfield 145, 10, 11, 0, 11, 0), none, none, some (.imul, 11, 0, 0, 0, 0), some (.iconst 4, 12, 0, 0, 0, 0), some (.aload_n 0, 13, 0, 0, 0, 0), some (.getfield 23, 16, 6, 2, 11, 0), none, none],
  [some (.aload_n 0, 17, 0, 0, 0, 0), some (.getfield 145, 20, 11, 0, 11, 0), none, none, some (.iaload, 21, 0, 0, 0, 0), some (.imul, 22, 0, 0, 0, 0), some (.iadd, 23, 0, 0, 0, 0), some (.istore_n 1, 24, 1, 0, 0, 0), some (.aload_n 0, 25, 0, 0, 0, 0), some (.getfield 20, 28, 5, 2, 11, 0), none, none, some (.iload_n 1, 29, 1, 0, 0, 0), some (.aload_n 0, 30, 0, 0, 0, 0), some (.getfield 17, 33, 4, 2, 11, 0), none],
  [none, some (.aload_n 0, 34, 0, 0, 0, 0), some (.getfield 145, 37, 11, 0, 11, 0), none, none, some (.iaload, 38, 0, 0, 0, 0), some (.iastore, 39, 0, 0, 0, 0), some (.aload_n 0, 40, 0, 0, 0, 0), some (.invokevirtual 182, 43, 157, 1, 0, 0), none, none, some (.ifCond .ne 5, 46, 48, 0, 0, 0), none, none, some (.iconst 0, 47, 0, 0, 0, 0), some (.ireturn, 48, 0, 0, 2, 0)],
  [some (.aload_n 0, 49, 0, 0, 0, 0), some (.getfield 20, 52, 5, 2, 11, 0), none, none, some (.iload_n 1, 53, 1, 0, 0, 0), some (.iconst 1, 54, 0, 0, 0, 0), some (.iadd, 55, 0, 0, 0, 0), some (.aload_n 0, 56, 0, 0, 0, 0), some (.getfield 17, 59, 4, 2, 11, 0), none, none, some (.aload_n 0, 60, 0, 0, 0, 0), some (.getfield 145, 63, 11, 0, 11, 0), none, none, some (.iaload, 64, 0, 0, 0, 0)],
  [some (.iastore, 65, 0, 0, 0, 0), some (.aload_n 0, 66, 0, 0, 0, 0), some (.getfield 20, 69, 5, 2, 11, 0), none, none, some (.iload_n 1, 70, 1, 0, 0, 0), some (.iconst 2, 71, 0, 0, 0, 0), some (.iadd, 72, 0, 0, 0, 0), some (.iconst (-1), 73, 0, 0, 0, 0), some (.iastore, 74, 0, 0, 0, 0), some (.aload_n 0, 75, 0, 0, 0, 0), some (.ldc2_w 209, 78, 0, 0, 0, 26982), none, none, some (.invokevirtual 211, 81, 163, 2, 0, 0), none],
  [none, some (.ifCond .eq 29, 84, 110, 0, 0, 0), none, none, some (.aload_n 0, 85, 0, 0, 0, 0), some (.getfield 20, 88, 5, 2, 11, 0), none, none, some (.iload_n 1, 89, 1, 0, 0, 0), some (.iconst 2, 90, 0, 0, 0, 0), some (.iadd, 91, 0, 0, 0, 0), some (.aload_n 0, 92, 0, 0, 0, 0), some (.getfield 17, 95, 4, 2, 11, 0), none, none, some (.aload_n 0, 96, 0, 0, 0, 0)],
  [some (.getfield 145, 99, 11, 0, 11, 0), none, none, some (.iaload, 100, 0, 0, 0, 0), some (.iastore, 101, 0, 0, 0, 0), some (.aload_n 0, 102, 0, 0, 0, 0), some (.invokevirtual 214, 105, 164, 1, 0, 0), none, none, some (.ifCond .ne 5, 108, 110, 0, 0, 0), none, none, some (.iconst 0, 109, 0, 0, 0, 0), some (.ireturn, 110, 0, 0, 2, 0), some (.aload_n 0, 111, 0, 0, 0, 0), some (.getfield 20, 114, 5, 2, 11, 0)],
  [none, none, some (.iload_n 1, 115, 1, 0, 0, 0), some (.iconst 3, 116, 0, 0, 0, 0), some (.iadd, 117, 0, 0, 0, 0), some (.aload_n 0, 118, 0, 0, 0, 0), some (.getfield 17, 121, 4, 2, 11, 0), none, none, some (.aload_n 0, 122, 0, 0, 0, 0), some (.getfield 145, 125, 11, 0, 11, 0), none, none, some (.iaload, 126, 0, 0, 0, 0), some (.iastore, 127, 0, 0, 0, 0), some (.aload_n 0, 128, 0, 0, 0, 0)],
  [some (.getfield 23, 131, 6, 2, 11, 0), none, none, some (.aload_n 0, 132, 0, 0, 0, 0), some (.getfield 145, 135, 11, 0, 11, 0), none, none, some (.dup2, 136, 0, 0, 0, 0), some (.iaload, 137, 0, 0, 0, 0), some (.iconst 1, 138, 0, 0, 0, 0), some (.iadd, 139, 0, 0, 0, 0), some (.iastore, 140, 0, 0, 0, 0), some (.iconst 1, 141, 0, 0, 0, 0), some (.ireturn, 142, 0, 0, 2, 0)]]
def zt157 : ZT := [[some (.aload_n 0, 1, 0, 0, 0, 0), some (.invokevirtual 179, 4, 158, 1, 0, 0), none, none, some (.ifCond .ne 5, 7, 9, 0, 0, 0), none, none, some (.iconst 0, 8, 0, 0, 0, 0), some (.ireturn, 9, 0, 0, 2, 0), some (.aload_n 0, 10, 0, 0, 0, 0), some (.invokevirtual 96, 13, 139, 1, 0, 0), none, none, some (.bipush 43, 15, 0, 0, 0, 0), none, some (.if_icmp .eq 12, 18, 27, 0, 0, 0)],
  [none, none, some (.aload_n 0, 19, 0, 0, 0, 0), some (.invokevirtual 96, 22, 139, 1, 0, 0), none, none, some (.bipush 45, 24, 0, 0, 0, 0), none, some (.if_icmp .ne 51, 27, 75, 0, 0, 0), none, none, some (.aload_n 0, 28, 0, 0, 0, 0), some (.getfield 7, 31, 0, 2, 11, 0), none, none, some (.aload_n 0, 32, 0, 0, 0, 0)],
  [some (.getfield 93, 35, 8, 0, 11, 0), none, none, some (.baload, 36, 0, 0, 0, 0), some (.bipush 43, 38, 0, 0, 0, 0), none, some (.if_icmp .ne 7, 41, 45, 0, 0, 0), none, none, some (.iconst 2, 42, 0, 0, 0, 0), some (.goto 4, 46, 0, 0, 0, 0), none, none, some (.iconst 3, 46, 0, 0, 0, 0), some (.istore_n 1, 47, 1, 0, 0, 0), some (.aload_n 0, 48, 0, 0, 0, 0)],
  [some (.dup, 49, 0, 0, 0, 0), some (.getfield 93, 52, 8, 0, 11, 0), none, none, some (.iconst 1, 53, 0, 0, 0, 0), some (.iadd, 54, 0, 0, 0, 0), some (.putfield 93, 57, 8, 0, 11, 0), none, none, some (.aload_n 0, 58, 0, 0, 0, 0), some (.invokevirtual 179, 61, 158, 1, 0, 0), none, none, some (.ifCond .ne 5, 64, 66, 0, 0, 0), none, none],
  [some (.iconst 0, 65, 0, 0, 0, 0), some (.ireturn, 66, 0, 0, 2, 0), some (.aload_n 0, 67, 0, 0, 0, 0), some (.iload_n 1, 68, 1, 0, 0, 0), some (.iconst 0, 69, 0, 0, 0, 0), some (.invokevirtual 161, 72, 161, 3, 0, 0), none, none, some (.goto (-63), 9, 0, 0, 0, 0), none, none, some (.iconst 1, 76, 0, 0, 0, 0), some (.ireturn, 77, 0, 0, 2, 0)]]
def zt158 : ZT := [[some (.aload_n 0, 1, 0, 0, 0, 0), some (.invokevirtual 175, 4, 159, 1, 0, 0), none, none, some (.ifCond .ne 5, 7, 9, 0, 0, 0), none, none, some (.iconst 0, 8, 0, 0, 0, 0), some (.ireturn, 9, 0, 0, 2, 0), some (.aload_n 0, 10, 0, 0, 0, 0), some (.invokevirtual 96, 13, 139, 1, 0, 0), none, none, some (.bipush 42, 15, 0, 0, 0, 0), none, some (.if_icmp .eq 21, 18, 36, 0, 0, 0)],
  [none, none, some (.aload_n 0, 19, 0, 0, 0, 0), some (.invokevirtual 96, 22, 139, 1, 0, 0), none, none, some (.bipush 47, 24, 0, 0, 0, 0), none, some (.if_icmp .eq 12, 27, 36, 0, 0, 0), none, none, some (.aload_n 0, 28, 0, 0, 0, 0), some (.invokevirtual 96, 31, 139, 1, 0, 0), none, none, some (.bipush 37, 33, 0, 0, 0, 0)],
  [none, some (.if_icmp .ne 70, 36, 103, 0, 0, 0), none, none, some (.aload_n 0, 37, 0, 0, 0, 0), some (.getfield 7, 40, 0, 2, 11, 0), none, none, some (.aload_n 0, 41, 0, 0, 0, 0), some (.getfield 93, 44, 8, 0, 11, 0), none, none, some (.baload, 45, 0, 0, 0, 0), some (.bipush 42, 47, 0, 0, 0, 0), none, some (.if_icmp .ne 7, 50, 54, 0, 0, 0)],
  [none, none, some (.iconst 4, 51, 0, 0, 0, 0), some (.goto 23, 74, 0, 0, 0, 0), none, none, some (.aload_n 0, 55, 0, 0, 0, 0), some (.getfield 7, 58, 0, 2, 11, 0), none, none, some (.aload_n 0, 59, 0, 0, 0, 0), some (.getfield 93, 62, 8, 0, 11, 0), none, none, some (.baload, 63, 0, 0, 0, 0), some (.bipush 47, 65, 0, 0, 0, 0)],
  [none, some (.if_icmp .ne 7, 68, 72, 0, 0, 0), none, none, some (.iconst 5, 69, 0, 0, 0, 0), some (.goto 5, 74, 0, 0, 0, 0), none, none, some (.bipush 14, 74, 0, 0, 0, 0), none, some (.istore_n 1, 75, 1, 0, 0, 0), some (.aload_n 0, 76, 0, 0, 0, 0), some (.dup, 77, 0, 0, 0, 0), some (.getfield 93, 80, 8, 0, 11, 0), none, none],
  [some (.iconst 1, 81, 0, 0, 0, 0), some (.iadd, 82, 0, 0, 0, 0), some (.putfield 93, 85, 8, 0, 11, 0), none, none, some (.aload_n 0, 86, 0, 0, 0, 0), some (.invokevirtual 175, 89, 159, 1, 0, 0), none, none, some (.ifCond .ne 5, 92, 94, 0, 0, 0), none, none, some (.iconst 0, 93, 0, 0, 0, 0), some (.ireturn, 94, 0, 0, 2, 0), some (.aload_n 0, 95, 0, 0, 0, 0), some (.iload_n 1, 96, 1, 0, 0, 0)],
  [some (.iconst 0, 97, 0, 0, 0, 0), some (.invokevirtual 161, 100, 161, 3, 0, 0), none, none, some (.goto (-91), 9, 0, 0, 0, 0), none, none, some (.iconst 1, 104, 0, 0, 0, 0), some (.ireturn, 105, 0, 0, 2, 0)]]
def zt159 : ZT := [[some (.aload_n 0, 1, 0, 0, 0, 0), some (.invokevirtual 96, 4, 139, 1, 0, 0), none, none, some (.pop, 5, 0, 0, 0, 0), some (.aload_n 0, 6, 0, 0, 0, 0), some (.getfield 93, 9, 8, 0, 11, 0), none, none, some (.istore_n 1, 10, 1, 0, 0, 0), some (.aload_n 0, 11, 0, 0, 0, 0), some (.aload_n 0, 12, 0, 0, 0, 0), some (.getfield 93, 15, 8, 0, 11, 0), none, none, some (.invokevirtual 111, 18, 149, 2, 0, 0)],
  [none, none, some (.ifCond .eq 34, 21, 52, 0, 0, 0), none, none, some (.aload_n 0, 22, 0, 0, 0, 0), some (.iconst 0, 23, 0, 0, 0, 0), some (.ldc 165, 25, 0, 0, 0, 99999), none, some (.invokevirtual 166, 28, 148, 3, 0, 0), none, none, some (.ifCond .eq 11, 31, 39, 0, 0, 0), none, none, some (.aload_n 0, 32, 0, 0, 0, 0)],
  [some (.iload_n 1, 33, 1, 0, 0, 0), some (.invokevirtual 169, 36, 160, 2, 0, 0), none, none, some (.ifCond .ne 5, 39, 41, 0, 0, 0), none, none, some (.iconst 0, 40, 0, 0, 0, 0), some (.ireturn, 41, 0, 0, 2, 0), some (.aload_n 0, 42, 0, 0, 0, 0), some (.iconst 0, 43, 0, 0, 0, 0), some (.aload_n 0, 44, 0, 0, 0, 0), some (.getfield 118, 47, 10, 0, 11, 0), none, none, some (.invokevirtual 161, 50, 161, 3, 0, 0)],
  [none, none, some (.iconst 1, 51, 0, 0, 0, 0), some (.ireturn, 52, 0, 0, 2, 0), some (.aload_n 0, 53, 0, 0, 0, 0), some (.invokevirtual 172, 56, 162, 1, 0, 0), none, none, some (.istore_n 2, 57, 2, 0, 0, 0), some (.iload_n 2, 58, 2, 0, 0, 0), some (.ifCond .ge 10, 61, 68, 0, 0, 0), none, none, some (.aload_n 0, 62, 0, 0, 0, 0), some (.iconst 0, 63, 0, 0, 0, 0), some (.iload_n 1, 64, 1, 0, 0, 0)],
  [some (.invokevirtual 114, 67, 143, 3, 0, 0), none, none, some (.ireturn, 68, 0, 0, 2, 0), some (.aload_n 0, 69, 0, 0, 0, 0), some (.iload_n 1, 70, 1, 0, 0, 0), some (.invokevirtual 169, 73, 160, 2, 0, 0), none, none, some (.ifCond .ne 5, 76, 78, 0, 0, 0), none, none, some (.iconst 0, 77, 0, 0, 0, 0), some (.ireturn, 78, 0, 0, 2, 0), some (.aload_n 0, 79, 0, 0, 0, 0), some (.invokevirtual 108, 82, 146, 1, 0, 0)],
  [none, none, some (.aload_n 0, 83, 0, 0, 0, 0), some (.iconst 1, 84, 0, 0, 0, 0), some (.iload_n 2, 85, 2, 0, 0, 0), some (.invokevirtual 161, 88, 161, 3, 0, 0), none, none, some (.iconst 1, 89, 0, 0, 0, 0), some (.ireturn, 90, 0, 0, 2, 0)]]
def zt160 : ZT := [[some (.aload_n 0, 1, 0, 0, 0, 0), some (.getfield 148, 4, 12, 0, 11, 0), none, none, some (.bipush 60, 6, 0, 0, 0, 0), none, some (.if_icmp .ne 10, 9, 16, 0, 0, 0), none, none, some (.aload_n 0, 10, 0, 0, 0, 0), some (.iconst 3, 11, 0, 0, 0, 0), some (.iload_n 1, 12, 1, 0, 0, 0), some (.invokevirtual 114, 15, 143, 3, 0, 0), none, none, some (.ireturn, 16, 0, 0, 2, 0)],
  [some (.aload_n 0, 17, 0, 0, 0, 0), some (.dup, 18, 0, 0, 0, 0), some (.getfield 148, 21, 12, 0, 11, 0), none, none, some (.iconst 1, 22, 0, 0, 0, 0), some (.iadd, 23, 0, 0, 0, 0), some (.putfield 148, 26, 12, 0, 11, 0), none, none, some (.iconst 1, 27, 0, 0, 0, 0), some (.ireturn, 28, 0, 0, 2, 0)]]
def zt161 : ZT := [[some (.aload_n 0, 1, 0, 0, 0, 0), some (.getfield 13, 4, 3, 2, 11, 0), none, none, some (.sipush 400, 7, 0, 0, 0, 0), none, none, some (.aload_n 0, 8, 0, 0, 0, 0), some (.getfield 145, 11, 11, 0, 11, 0), none, none, some (.imul, 12, 0, 0, 0, 0), some (.aload_n 0, 13, 0, 0, 0, 0), some (.getfield 17, 16, 4, 2, 11, 0), none, none],
  [some (.aload_n 0, 17, 0, 0, 0, 0), some (.getfield 145, 20, 11, 0, 11, 0), none, none, some (.iaload, 21, 0, 0, 0, 0), some (.iadd, 22, 0, 0, 0, 0), some (.iload_n 1, 23, 1, 0, 0, 0), some (.bipush 16, 25, 0, 0, 0, 0), none, some (.iload_n 2, 26, 2, 0, 0, 0), some (.imul, 27, 0, 0, 0, 0), some (.iadd, 28, 0, 0, 0, 0), some (.iastore, 29, 0, 0, 0, 0), some (.aload_n 0, 30, 0, 0, 0, 0), some (.getfield 17, 33, 4, 2, 11, 0), none],
  [none, some (.aload_n 0, 34, 0, 0, 0, 0), some (.getfield 145, 37, 11, 0, 11, 0), none, none, some (.dup2, 38, 0, 0, 0, 0), some (.iaload, 39, 0, 0, 0, 0), some (.iconst 1, 40, 0, 0, 0, 0), some (.iadd, 41, 0, 0, 0, 0), some (.iastore, 42, 0, 0, 0, 0), some (.return_, 43, 0, 0, 0, 0)]]
def zt162 : ZT := [[some (.aload_n 0, 1, 0, 0, 0, 0), some (.ldc2_w 125, 4, 0, 0, 0, 6513010), none, none, some (.invokevirtual 104, 7, 141, 2, 0, 0), none, none, some (.ifCond .eq 5, 10, 12, 0, 0, 0), none, none, some (.iconst 0, 11, 0, 0, 0, 0), some (.ireturn, 12, 0, 0, 1, 0), some (.aload_n 0, 13, 0, 0, 0, 0), some (.ldc2_w 127, 16, 0, 0, 0, 1919902052), none, none],
  [some (.invokevirtual 104, 19, 141, 2, 0, 0), none, none, some (.ifCond .eq 5, 22, 24, 0, 0, 0), none, none, some (.iconst 1, 23, 0, 0, 0, 0), some (.ireturn, 24, 0, 0, 1, 0), some (.aload_n 0, 25, 0, 0, 0, 0), some (.ldc2_w 129, 28, 0, 0, 0, 1718969708), none, none, some (.invokevirtual 104, 31, 141, 2, 0, 0), none, none, some (.ifCond .eq 5, 34, 36, 0, 0, 0)],
  [none, none, some (.iconst 2, 35, 0, 0, 0, 0), some (.ireturn, 36, 0, 0, 1, 0), some (.aload_n 0, 37, 0, 0, 0, 0), some (.ldc2_w 131, 40, 0, 0, 0, 33602627781095015), none, none, some (.invokevirtual 104, 43, 141, 2, 0, 0), none, none, some (.ifCond .eq 5, 46, 48, 0, 0, 0), none, none, some (.iconst 3, 47, 0, 0, 0, 0), some (.ireturn, 48, 0, 0, 1, 0)],
  [some (.aload_n 0, 49, 0, 0, 0, 0), some (.ldc2_w 133, 52, 0, 0, 0, 108187682958948), none, none, some (.invokevirtual 104, 55, 141, 2, 0, 0), none, none, some (.ifCond .eq 5, 58, 60, 0, 0, 0), none, none, some (.iconst 4, 59, 0, 0, 0, 0), some (.ireturn, 60, 0, 0, 1, 0), some (.aload_n 0, 61, 0, 0, 0, 0), some (.ldc2_w 135, 64, 0, 0, 0, 28526), none, none],
  [some (.invokevirtual 104, 67, 141, 2, 0, 0), none, none, some (.ifCond .eq 5, 70, 72, 0, 0, 0), none, none, some (.iconst 5, 71, 0, 0, 0, 0), some (.ireturn, 72, 0, 0, 1, 0), some (.aload_n 0, 73, 0, 0, 0, 0), some (.ldc2_w 137, 76, 0, 0, 0, 7300710), none, none, some (.invokevirtual 104, 79, 141, 2, 0, 0), none, none, some (.ifCond .eq 6, 82, 85, 0, 0, 0)],
  [none, none, some (.bipush 6, 84, 0, 0, 0, 0), none, some (.ireturn, 85, 0, 0, 1, 0), some (.aload_n 0, 86, 0, 0, 0, 0), some (.ldc2_w 139, 89, 0, 0, 0, 125823037105267), none, none, some (.invokevirtual 104, 92, 141, 2, 0, 0), none, none, some (.ifCond .eq 6, 95, 98, 0, 0, 0), none, none, some (.bipush 7, 97, 0, 0, 0, 0)],
  [none, some (.ireturn, 98, 0, 0, 1, 0), some (.aload_n 0, 99, 0, 0, 0, 0), some (.ldc2_w 141, 102, 0, 0, 0, 435778056825), none, none, some (.invokevirtual 104, 105, 141, 2, 0, 0), none, none, some (.ifCond .eq 8, 108, 113, 0, 0, 0), none, none, some (.bipush 8, 110, 0, 0, 0, 0), none, some (.goto 19, 129, 0, 0, 0, 0), none],
  [none, some (.aload_n 0, 114, 0, 0, 0, 0), some (.ldc2_w 143, 117, 0, 0, 0, 1937007984), none, none, some (.invokevirtual 104, 120, 141, 2, 0, 0), none, none, some (.ifCond .eq 8, 123, 128, 0, 0, 0), none, none, some (.bipush 9, 125, 0, 0, 0, 0), none, some (.goto 4, 129, 0, 0, 0, 0), none, none],
  [some (.iconst (-1), 129, 0, 0, 0, 0), some (.ireturn, 130, 0, 0, 1, 0)]]
def zt163 : ZT := [[some (.aload_n 0, 1, 0, 0, 0, 0), some (.lload_n 1, 2, 1, 0, 0, 0), some (.invokevirtual 104, 5, 141, 2, 0, 0), none, none, some (.ifCond .ne 5, 8, 10, 0, 0, 0), none, none, some (.iconst 0, 9, 0, 0, 0, 0), some (.ireturn, 10, 0, 0, 2, 0), some (.aload_n 0, 11, 0, 0, 0, 0), some (.invokevirtual 108, 14, 146, 1, 0, 0), none, none, some (.iconst 1, 15, 0, 0, 0, 0), some (.ireturn, 16, 0, 0, 2, 0)]]
def zt164 : ZT := [[some (.aload_n 0, 1, 0, 0, 0, 0), some (.iconst 0, 2, 0, 0, 0, 0), some (.putfield 154, 5, 16, 0, 11, 0), none, none, some (.aload_n 0, 6, 0, 0, 0, 0), some (.iconst 0, 7, 0, 0, 0, 0), some (.putfield 151, 10, 13, 0, 11, 0), none, none, some (.iconst 1, 11, 0, 0, 0, 0), some (.istore_n 1, 12, 1, 0, 0, 0), some (.iload_n 1, 13, 1, 0, 0, 0), some (.ifCond .eq 99, 16, 112, 0, 0, 0), none, none],
  [some (.aload_n 0, 17, 0, 0, 0, 0), some (.invokevirtual 199, 20, 165, 1, 0, 0), none, none, some (.ifCond .ne 5, 23, 25, 0, 0, 0), none, none, some (.iconst 0, 24, 0, 0, 0, 0), some (.ireturn, 25, 0, 0, 2, 0), some (.aload_n 0, 26, 0, 0, 0, 0), some (.invokevirtual 202, 29, 168, 1, 0, 0), none, none, some (.aload_n 0, 30, 0, 0, 0, 0), some (.ldc2_w 205, 33, 0, 0, 0, 6385252), none],
  [none, some (.invokevirtual 104, 36, 141, 2, 0, 0), none, none, some (.ifCond .ne 13, 39, 49, 0, 0, 0), none, none, some (.aload_n 0, 40, 0, 0, 0, 0), some (.ldc2_w 207, 43, 0, 0, 0, 28530), none, none, some (.invokevirtual 104, 46, 141, 2, 0, 0), none, none, some (.ifCond .eq 7, 49, 53, 0, 0, 0), none],
  [none, some (.iconst 1, 50, 0, 0, 0, 0), some (.goto 4, 54, 0, 0, 0, 0), none, none, some (.iconst 0, 54, 0, 0, 0, 0), some (.istore_n 1, 55, 1, 0, 0, 0), some (.iload_n 1, 56, 1, 0, 0, 0), some (.ifCond .eq (-44), 59, 12, 0, 0, 0), none, none, some (.aload_n 0, 60, 0, 0, 0, 0), some (.ldc2_w 205, 63, 0, 0, 0, 6385252), none, none, some (.invokevirtual 104, 66, 141, 2, 0, 0)],
  [none, none, some (.ifCond .eq 8, 69, 74, 0, 0, 0), none, none, some (.bipush 12, 71, 0, 0, 0, 0), none, some (.goto 5, 76, 0, 0, 0, 0), none, none, some (.bipush 13, 76, 0, 0, 0, 0), none, some (.istore_n 2, 77, 2, 0, 0, 0), some (.aload_n 0, 78, 0, 0, 0, 0), some (.invokevirtual 108, 81, 146, 1, 0, 0), none],
  [none, some (.aload_n 0, 82, 0, 0, 0, 0), some (.iload_n 2, 83, 2, 0, 0, 0), some (.invokestatic 157, 86, 170, 1, 0, 0), none, none, some (.invokevirtual 193, 89, 169, 2, 0, 0), none, none, some (.aload_n 0, 90, 0, 0, 0, 0), some (.getfield 29, 93, 15, 2, 11, 0), none, none, some (.aload_n 0, 94, 0, 0, 0, 0), some (.getfield 154, 97, 16, 0, 11, 0), none],
  [none, some (.iload_n 2, 98, 2, 0, 0, 0), some (.iastore, 99, 0, 0, 0, 0), some (.aload_n 0, 100, 0, 0, 0, 0), some (.dup, 101, 0, 0, 0, 0), some (.getfield 154, 104, 16, 0, 11, 0), none, none, some (.iconst 1, 105, 0, 0, 0, 0), some (.iadd, 106, 0, 0, 0, 0), some (.putfield 154, 109, 16, 0, 11, 0), none, none, some (.goto (-97), 12, 0, 0, 0, 0), none, none],
  [some (.aload_n 0, 113, 0, 0, 0, 0), some (.invokevirtual 196, 116, 171, 1, 0, 0), none, none, some (.ifCond .eq 18, 119, 134, 0, 0, 0), none, none, some (.aload_n 0, 120, 0, 0, 0, 0), some (.invokevirtual 96, 123, 139, 1, 0, 0), none, none, some (.pop, 124, 0, 0, 0, 0), some (.aload_n 0, 125, 0, 0, 0, 0), some (.iconst 0, 126, 0, 0, 0, 0), some (.aload_n 0, 127, 0, 0, 0, 0), some (.getfield 93, 130, 8, 0, 11, 0)],
  [none, none, some (.invokevirtual 114, 133, 143, 3, 0, 0), none, none, some (.ireturn, 134, 0, 0, 2, 0), some (.aload_n 0, 135, 0, 0, 0, 0), some (.iconst 1, 136, 0, 0, 0, 0), some (.invokevirtual 193, 139, 169, 2, 0, 0), none, none, some (.iconst 1, 140, 0, 0, 0, 0), some (.ireturn, 141, 0, 0, 2, 0)]]
def zt165 : ZT := [[some (.iconst 1, 1, 0, 0, 0, 0), some (.istore_n 1, 2, 1, 0, 0, 0), some (.iload_n 1, 3, 1, 0, 0, 0), some (.ifCond .eq 72, 6, 75, 0, 0, 0), none, none, some (.iconst 0, 7, 0, 0, 0, 0), some (.istore_n 1, 8, 1, 0, 0, 0), some (.aload_n 0, 9, 0, 0, 0, 0), some (.invokevirtual 96, 12, 139, 1, 0, 0), none, none, some (.istore_n 2, 13, 2, 0, 0, 0), some (.aload_n 0, 14, 0, 0, 0, 0), some (.ldc2_w 185, 17, 0, 0, 0, 7237492), none],
  [none, some (.invokevirtual 104, 20, 141, 2, 0, 0), none, none, some (.ifCond .eq 23, 23, 43, 0, 0, 0), none, none, some (.aload_n 0, 24, 0, 0, 0, 0), some (.bipush 11, 26, 0, 0, 0, 0), none, some (.invokevirtual 187, 29, 166, 2, 0, 0), none, none, some (.ifCond .ne 5, 32, 34, 0, 0, 0), none, none],
  [some (.iconst 0, 33, 0, 0, 0, 0), some (.ireturn, 34, 0, 0, 2, 0), some (.aload_n 0, 35, 0, 0, 0, 0), some (.invokevirtual 108, 38, 146, 1, 0, 0), none, none, some (.iconst 1, 39, 0, 0, 0, 0), some (.istore_n 1, 40, 1, 0, 0, 0), some (.goto 32, 72, 0, 0, 0, 0), none, none, some (.iload_n 2, 44, 2, 0, 0, 0), some (.bipush 91, 46, 0, 0, 0, 0), none, some (.if_icmp .ne 26, 49, 72, 0, 0, 0), none],
  [none, some (.aload_n 0, 50, 0, 0, 0, 0), some (.bipush 91, 52, 0, 0, 0, 0), none, some (.invokevirtual 187, 55, 166, 2, 0, 0), none, none, some (.ifCond .ne 5, 58, 60, 0, 0, 0), none, none, some (.iconst 0, 59, 0, 0, 0, 0), some (.ireturn, 60, 0, 0, 2, 0), some (.aload_n 0, 61, 0, 0, 0, 0), some (.dup, 62, 0, 0, 0, 0), some (.getfield 93, 65, 8, 0, 11, 0), none],
  [none, some (.iconst 1, 66, 0, 0, 0, 0), some (.iadd, 67, 0, 0, 0, 0), some (.putfield 93, 70, 8, 0, 11, 0), none, none, some (.iconst 1, 71, 0, 0, 0, 0), some (.istore_n 1, 72, 1, 0, 0, 0), some (.goto (-70), 2, 0, 0, 0, 0), none, none, some (.aload_n 0, 76, 0, 0, 0, 0), some (.invokevirtual 190, 79, 167, 1, 0, 0), none, none, some (.ireturn, 80, 0, 0, 2, 0)]]
def zt166 : ZT := [[some (.aload_n 0, 1, 0, 0, 0, 0), some (.getfield 151, 4, 13, 0, 11, 0), none, none, some (.bipush 10, 6, 0, 0, 0, 0), none, some (.if_icmp .ne 13, 9, 19, 0, 0, 0), none, none, some (.aload_n 0, 10, 0, 0, 0, 0), some (.iconst 2, 11, 0, 0, 0, 0), some (.aload_n 0, 12, 0, 0, 0, 0), some (.getfield 93, 15, 8, 0, 11, 0), none, none, some (.invokevirtual 114, 18, 143, 3, 0, 0)],
  [none, none, some (.ireturn, 19, 0, 0, 2, 0), some (.aload_n 0, 20, 0, 0, 0, 0), some (.dup, 21, 0, 0, 0, 0), some (.getfield 151, 24, 13, 0, 11, 0), none, none, some (.iconst 1, 25, 0, 0, 0, 0), some (.iadd, 26, 0, 0, 0, 0), some (.putfield 151, 29, 13, 0, 11, 0), none, none, some (.aload_n 0, 30, 0, 0, 0, 0), some (.getfield 29, 33, 15, 2, 11, 0), none],
  [none, some (.aload_n 0, 34, 0, 0, 0, 0), some (.getfield 154, 37, 16, 0, 11, 0), none, none, some (.iload_n 1, 38, 1, 0, 0, 0), some (.iastore, 39, 0, 0, 0, 0), some (.aload_n 0, 40, 0, 0, 0, 0), some (.dup, 41, 0, 0, 0, 0), some (.getfield 154, 44, 16, 0, 11, 0), none, none, some (.iconst 1, 45, 0, 0, 0, 0), some (.iadd, 46, 0, 0, 0, 0), some (.putfield 154, 49, 16, 0, 11, 0), none],
  [none, some (.iconst 1, 50, 0, 0, 0, 0), some (.ireturn, 51, 0, 0, 2, 0)]]
def zt167 : ZT := [[some (.aload_n 0, 1, 0, 0, 0, 0), some (.invokevirtual 182, 4, 157, 1, 0, 0), none, none, some (.ifCond .ne 5, 7, 9, 0, 0, 0), none, none, some (.iconst 0, 8, 0, 0, 0, 0), some (.ireturn, 9, 0, 0, 2, 0), some (.aload_n 0, 10, 0, 0, 0, 0), some (.invokevirtual 96, 13, 139, 1, 0, 0), none, none, some (.istore_n 1, 14, 1, 0, 0, 0), some (.aload_n 0, 15, 0, 0, 0, 0), some (.getfield 93, 18, 8, 0, 11, 0)],
  [none, none, some (.istore_n 2, 19, 2, 0, 0, 0), some (.iload_n 1, 20, 1, 0, 0, 0), some (.bipush 60, 22, 0, 0, 0, 0), none, some (.if_icmp .eq 22, 25, 44, 0, 0, 0), none, none, some (.iload_n 1, 26, 1, 0, 0, 0), some (.bipush 61, 28, 0, 0, 0, 0), none, some (.if_icmp .eq 16, 31, 44, 0, 0, 0), none, none, some (.iload_n 1, 32, 1, 0, 0, 0)],
  [some (.bipush 62, 34, 0, 0, 0, 0), none, some (.if_icmp .eq 10, 37, 44, 0, 0, 0), none, none, some (.aload_n 0, 38, 0, 0, 0, 0), some (.iconst 0, 39, 0, 0, 0, 0), some (.iload_n 2, 40, 2, 0, 0, 0), some (.invokevirtual 114, 43, 143, 3, 0, 0), none, none, some (.ireturn, 44, 0, 0, 2, 0), some (.aload_n 0, 45, 0, 0, 0, 0), some (.dup, 46, 0, 0, 0, 0), some (.getfield 93, 49, 8, 0, 11, 0), none],
  [none, some (.iconst 1, 50, 0, 0, 0, 0), some (.iadd, 51, 0, 0, 0, 0), some (.putfield 93, 54, 8, 0, 11, 0), none, none, some (.iload_n 1, 55, 1, 0, 0, 0), some (.bipush 61, 57, 0, 0, 0, 0), none, some (.if_icmp .eq 32, 60, 89, 0, 0, 0), none, none, some (.aload_n 0, 61, 0, 0, 0, 0), some (.getfield 93, 64, 8, 0, 11, 0), none, none],
  [some (.aload_n 0, 65, 0, 0, 0, 0), some (.getfield 83, 68, 1, 0, 11, 0), none, none, some (.if_icmp .ge 21, 71, 89, 0, 0, 0), none, none, some (.aload_n 0, 72, 0, 0, 0, 0), some (.getfield 7, 75, 0, 2, 11, 0), none, none, some (.aload_n 0, 76, 0, 0, 0, 0), some (.getfield 93, 79, 8, 0, 11, 0), none, none, some (.baload, 80, 0, 0, 0, 0)],
  [some (.bipush 61, 82, 0, 0, 0, 0), none, some (.if_icmp .ne 7, 85, 89, 0, 0, 0), none, none, some (.iconst 1, 86, 0, 0, 0, 0), some (.goto 4, 90, 0, 0, 0, 0), none, none, some (.iconst 0, 90, 0, 0, 0, 0), some (.istore_n 3, 91, 3, 0, 0, 0), some (.iload_n 3, 92, 3, 0, 0, 0), some (.ifCond .eq 13, 95, 105, 0, 0, 0), none, none, some (.aload_n 0, 96, 0, 0, 0, 0)],
  [some (.dup, 97, 0, 0, 0, 0), some (.getfield 93, 100, 8, 0, 11, 0), none, none, some (.iconst 1, 101, 0, 0, 0, 0), some (.iadd, 102, 0, 0, 0, 0), some (.putfield 93, 105, 8, 0, 11, 0), none, none, some (.aload_n 0, 106, 0, 0, 0, 0), some (.iload_n 2, 107, 2, 0, 0, 0), some (.invokevirtual 169, 110, 160, 2, 0, 0), none, none, some (.ifCond .ne 5, 113, 115, 0, 0, 0), none],
  [none, some (.iconst 0, 114, 0, 0, 0, 0), some (.ireturn, 115, 0, 0, 2, 0), some (.iload_n 1, 116, 1, 0, 0, 0), some (.bipush 60, 118, 0, 0, 0, 0), none, some (.if_icmp .ne 15, 121, 133, 0, 0, 0), none, none, some (.iload_n 3, 122, 3, 0, 0, 0), some (.ifCond .eq 7, 125, 129, 0, 0, 0), none, none, some (.iconst 1, 126, 0, 0, 0, 0), some (.goto 26, 152, 0, 0, 0, 0), none],
  [none, some (.iconst 0, 130, 0, 0, 0, 0), some (.goto 22, 152, 0, 0, 0, 0), none, none, some (.iload_n 1, 134, 1, 0, 0, 0), some (.bipush 61, 136, 0, 0, 0, 0), none, some (.if_icmp .ne 7, 139, 143, 0, 0, 0), none, none, some (.iconst 2, 140, 0, 0, 0, 0), some (.goto 12, 152, 0, 0, 0, 0), none, none, some (.iload_n 3, 144, 3, 0, 0, 0)],
  [some (.ifCond .eq 7, 147, 151, 0, 0, 0), none, none, some (.iconst 3, 148, 0, 0, 0, 0), some (.goto 4, 152, 0, 0, 0, 0), none, none, some (.iconst 4, 152, 0, 0, 0, 0), some (.istore 4, 154, 4, 0, 0, 0), none, some (.aload_n 0, 155, 0, 0, 0, 0), some (.invokevirtual 182, 158, 157, 1, 0, 0), none, none, some (.ifCond .ne 5, 161, 163, 0, 0, 0), none],
  [none, some (.iconst 0, 162, 0, 0, 0, 0), some (.ireturn, 163, 0, 0, 2, 0), some (.aload_n 0, 164, 0, 0, 0, 0), some (.bipush 6, 166, 0, 0, 0, 0), none, some (.iload 4, 168, 4, 0, 0, 0), none, some (.iadd, 169, 0, 0, 0, 0), some (.iconst 0, 170, 0, 0, 0, 0), some (.invokevirtual 161, 173, 161, 3, 0, 0), none, none, some (.iconst 1, 174, 0, 0, 0, 0), some (.ireturn, 175, 0, 0, 2, 0)]]
def zt168 : ZT := [[some (.aload_n 0, 1, 0, 0, 0, 0), some (.iconst 3, 2, 0, 0, 0, 0), some (.invokevirtual 193, 5, 169, 2, 0, 0), none, none, some (.aload_n 0, 6, 0, 0, 0, 0), some (.invokevirtual 96, 9, 139, 1, 0, 0), none, none, some (.bipush 93, 11, 0, 0, 0, 0), none, some (.if_icmp .ne 53, 14, 64, 0, 0, 0), none, none, some (.aload_n 0, 15, 0, 0, 0, 0), some (.invokevirtual 196, 18, 171, 1, 0, 0)],
  [none, none, some (.ifCond .eq 46, 21, 64, 0, 0, 0), none, none, some (.aload_n 0, 22, 0, 0, 0, 0), some (.iconst 1, 23, 0, 0, 0, 0), some (.invokevirtual 193, 26, 169, 2, 0, 0), none, none, some (.aload_n 0, 27, 0, 0, 0, 0), some (.dup, 28, 0, 0, 0, 0), some (.getfield 154, 31, 16, 0, 11, 0), none, none, some (.iconst 1, 32, 0, 0, 0, 0)],
  [some (.isub, 33, 0, 0, 0, 0), some (.putfield 154, 36, 16, 0, 11, 0), none, none, some (.aload_n 0, 37, 0, 0, 0, 0), some (.dup, 38, 0, 0, 0, 0), some (.getfield 151, 41, 13, 0, 11, 0), none, none, some (.iconst 1, 42, 0, 0, 0, 0), some (.isub, 43, 0, 0, 0, 0), some (.putfield 151, 46, 13, 0, 11, 0), none, none, some (.aload_n 0, 47, 0, 0, 0, 0), some (.dup, 48, 0, 0, 0, 0)],
  [some (.getfield 93, 51, 8, 0, 11, 0), none, none, some (.iconst 1, 52, 0, 0, 0, 0), some (.iadd, 53, 0, 0, 0, 0), some (.putfield 93, 56, 8, 0, 11, 0), none, none, some (.aload_n 0, 57, 0, 0, 0, 0), some (.iconst 3, 58, 0, 0, 0, 0), some (.invokevirtual 193, 61, 169, 2, 0, 0), none, none, some (.goto (-56), 5, 0, 0, 0, 0), none, none],
  [some (.return_, 65, 0, 0, 0, 0)]]
def zt169 : ZT := [[some (.aload_n 0, 1, 0, 0, 0, 0), some (.getfield 154, 4, 16, 0, 11, 0), none, none, some (.ifCond .le 72, 7, 76, 0, 0, 0), none, none, some (.aload_n 0, 8, 0, 0, 0, 0), some (.getfield 29, 11, 15, 2, 11, 0), none, none, some (.aload_n 0, 12, 0, 0, 0, 0), some (.getfield 154, 15, 16, 0, 11, 0), none, none, some (.iconst 1, 16, 0, 0, 0, 0)],
  [some (.isub, 17, 0, 0, 0, 0), some (.iaload, 18, 0, 0, 0, 0), some (.invokestatic 157, 21, 170, 1, 0, 0), none, none, some (.iload_n 1, 22, 1, 0, 0, 0), some (.if_icmp .lt 54, 25, 76, 0, 0, 0), none, none, some (.aload_n 0, 26, 0, 0, 0, 0), some (.dup, 27, 0, 0, 0, 0), some (.getfield 154, 30, 16, 0, 11, 0), none, none, some (.iconst 1, 31, 0, 0, 0, 0), some (.isub, 32, 0, 0, 0, 0)],
  [some (.putfield 154, 35, 16, 0, 11, 0), none, none, some (.aload_n 0, 36, 0, 0, 0, 0), some (.aload_n 0, 37, 0, 0, 0, 0), some (.getfield 29, 40, 15, 2, 11, 0), none, none, some (.aload_n 0, 41, 0, 0, 0, 0), some (.getfield 154, 44, 16, 0, 11, 0), none, none, some (.iaload, 45, 0, 0, 0, 0), some (.iconst 0, 46, 0, 0, 0, 0), some (.invokevirtual 161, 49, 161, 3, 0, 0), none],
  [none, some (.aload_n 0, 50, 0, 0, 0, 0), some (.getfield 29, 53, 15, 2, 11, 0), none, none, some (.aload_n 0, 54, 0, 0, 0, 0), some (.getfield 154, 57, 16, 0, 11, 0), none, none, some (.iaload, 58, 0, 0, 0, 0), some (.bipush 11, 60, 0, 0, 0, 0), none, some (.if_icmp .ne (-60), 63, 0, 0, 0, 0), none, none, some (.aload_n 0, 64, 0, 0, 0, 0)],
  [some (.dup, 65, 0, 0, 0, 0), some (.getfield 151, 68, 13, 0, 11, 0), none, none, some (.iconst 1, 69, 0, 0, 0, 0), some (.isub, 70, 0, 0, 0, 0), some (.putfield 151, 73, 13, 0, 11, 0), none, none, some (.goto (-73), 0, 0, 0, 0, 0), none, none, some (.return_, 77, 0, 0, 0, 0)]]
def zt170 : ZT := [[some (.iload_n 0, 1, 0, 0, 0, 0), some (.bipush 13, 3, 0, 0, 0, 0), none, some (.if_icmp .ne 7, 6, 10, 0, 0, 0), none, none, some (.iconst 1, 7, 0, 0, 0, 0), some (.goto 24, 31, 0, 0, 0, 0), none, none, some (.iload_n 0, 11, 0, 0, 0, 0), some (.bipush 12, 13, 0, 0, 0, 0), none, some (.if_icmp .ne 7, 16, 20, 0, 0, 0), none, none],
  [some (.iconst 2, 17, 0, 0, 0, 0), some (.goto 14, 31, 0, 0, 0, 0), none, none, some (.iload_n 0, 21, 0, 0, 0, 0), some (.bipush 11, 23, 0, 0, 0, 0), none, some (.if_icmp .ne 7, 26, 30, 0, 0, 0), none, none, some (.iconst 3, 27, 0, 0, 0, 0), some (.goto 4, 31, 0, 0, 0, 0), none, none, some (.iconst 0, 31, 0, 0, 0, 0), some (.ireturn, 32, 0, 0, 1, 0)]]
def zt171 : ZT := [[some (.iconst 0, 1, 0, 0, 0, 0), some (.istore_n 1, 2, 1, 0, 0, 0), some (.iload_n 1, 3, 1, 0, 0, 0), some (.aload_n 0, 4, 0, 0, 0, 0), some (.getfield 154, 7, 16, 0, 11, 0), none, none, some (.if_icmp .ge 22, 10, 29, 0, 0, 0), none, none, some (.aload_n 0, 11, 0, 0, 0, 0), some (.getfield 29, 14, 15, 2, 11, 0), none, none, some (.iload_n 1, 15, 1, 0, 0, 0), some (.iaload, 16, 0, 0, 0, 0)],
  [some (.bipush 91, 18, 0, 0, 0, 0), none, some (.if_icmp .ne 5, 21, 23, 0, 0, 0), none, none, some (.iconst 1, 22, 0, 0, 0, 0), some (.ireturn, 23, 0, 0, 2, 0), some (.iinc 1 1, 26, 1, 0, 0, 0), none, none, some (.goto (-24), 2, 0, 0, 0, 0), none, none, some (.iconst 0, 30, 0, 0, 0, 0), some (.ireturn, 31, 0, 0, 2, 0)]]
def zt172 : ZT := [[some (.aload_n 0, 1, 0, 0, 0, 0), some (.bipush 6, 3, 0, 0, 0, 0), none, some (.putfield 145, 6, 11, 0, 11, 0), none, none, some (.iconst 0, 7, 0, 0, 0, 0), some (.istore_n 1, 8, 1, 0, 0, 0), some (.iload_n 1, 9, 1, 0, 0, 0), some (.bipush 115, 11, 0, 0, 0, 0), none, some (.if_icmp .ge 16, 14, 27, 0, 0, 0), none, none, some (.aload_n 0, 15, 0, 0, 0, 0), some (.getfield 26, 18, 7, 2, 11, 0)],
  [none, none, some (.iload_n 1, 19, 1, 0, 0, 0), some (.iconst 0, 20, 0, 0, 0, 0), some (.iastore, 21, 0, 0, 0, 0), some (.iinc 1 1, 24, 1, 0, 0, 0), none, none, some (.goto (-16), 8, 0, 0, 0, 0), none, none, some (.aload_n 0, 28, 0, 0, 0, 0), some (.invokevirtual 263, 31, 137, 1, 0, 0), none, none, some (.ifCond .ne 11, 34, 42, 0, 0, 0)],
  [none, none, some (.bipush (-2), 36, 0, 0, 0, 0), none, some (.aload_n 0, 37, 0, 0, 0, 0), some (.getfield 90, 40, 9, 0, 11, 0), none, none, some (.isub, 41, 0, 0, 0, 0), some (.ireturn, 42, 0, 0, 1, 0), some (.iconst 0, 43, 0, 0, 0, 0), some (.istore_n 1, 44, 1, 0, 0, 0), some (.iload_n 1, 45, 1, 0, 0, 0), some (.sipush 146, 48, 0, 0, 0, 0), none, none],
  [some (.if_icmp .ge 31, 51, 79, 0, 0, 0), none, none, some (.aload_n 0, 52, 0, 0, 0, 0), some (.getfield 39, 55, 20, 2, 11, 0), none, none, some (.iload_n 1, 56, 1, 0, 0, 0), some (.iload_n 1, 57, 1, 0, 0, 0), some (.bipush 115, 59, 0, 0, 0, 0), none, some (.if_icmp .ge 12, 62, 71, 0, 0, 0), none, none, some (.aload_n 0, 63, 0, 0, 0, 0), some (.getfield 26, 66, 7, 2, 11, 0)],
  [none, none, some (.iload_n 1, 67, 1, 0, 0, 0), some (.iaload, 68, 0, 0, 0, 0), some (.goto 4, 72, 0, 0, 0, 0), none, none, some (.iconst 0, 72, 0, 0, 0, 0), some (.iastore, 73, 0, 0, 0, 0), some (.iinc 1 1, 76, 1, 0, 0, 0), none, none, some (.goto (-32), 44, 0, 0, 0, 0), none, none, some (.aload_n 0, 80, 0, 0, 0, 0)],
  [some (.invokevirtual 266, 83, 173, 1, 0, 0), none, none, some (.aload_n 0, 84, 0, 0, 0, 0), some (.iconst 0, 85, 0, 0, 0, 0), some (.putfield 269, 88, 27, 0, 11, 0), none, none, some (.aload_n 0, 89, 0, 0, 0, 0), some (.getfield 39, 92, 20, 2, 11, 0), none, none, some (.iconst 3, 93, 0, 0, 0, 0), some (.iaload, 94, 0, 0, 0, 0), some (.ireturn, 95, 0, 0, 1, 0)]]
def zt173 : ZT := [[some (.aload_n 0, 1, 0, 0, 0, 0), some (.getfield 39, 4, 20, 2, 11, 0), none, none, some (.bipush 10, 6, 0, 0, 0, 0), none, some (.iconst 0, 7, 0, 0, 0, 0), some (.iastore, 8, 0, 0, 0, 0), some (.aload_n 0, 9, 0, 0, 0, 0), some (.getfield 39, 12, 20, 2, 11, 0), none, none, some (.bipush 11, 14, 0, 0, 0, 0), none, some (.iconst 0, 15, 0, 0, 0, 0), some (.iastore, 16, 0, 0, 0, 0)],
  [some (.iconst 0, 17, 0, 0, 0, 0), some (.istore_n 1, 18, 1, 0, 0, 0), some (.iload_n 1, 19, 1, 0, 0, 0), some (.bipush 6, 21, 0, 0, 0, 0), none, some (.if_icmp .ge 66, 24, 87, 0, 0, 0), none, none, some (.bipush 77, 26, 0, 0, 0, 0), none, some (.iconst 3, 27, 0, 0, 0, 0), some (.iload_n 1, 28, 1, 0, 0, 0), some (.imul, 29, 0, 0, 0, 0), some (.iadd, 30, 0, 0, 0, 0), some (.istore_n 2, 31, 2, 0, 0, 0), some (.iload_n 1, 32, 1, 0, 0, 0)],
  [some (.aload_n 0, 33, 0, 0, 0, 0), some (.getfield 39, 36, 20, 2, 11, 0), none, none, some (.iconst 3, 37, 0, 0, 0, 0), some (.iaload, 38, 0, 0, 0, 0), some (.if_icmp .ge 34, 41, 72, 0, 0, 0), none, none, some (.aload_n 0, 42, 0, 0, 0, 0), some (.iload_n 1, 43, 1, 0, 0, 0), some (.iconst 1, 44, 0, 0, 0, 0), some (.aload_n 0, 45, 0, 0, 0, 0), some (.getfield 39, 48, 20, 2, 11, 0), none, none],
  [some (.iload_n 2, 49, 2, 0, 0, 0), some (.iaload, 50, 0, 0, 0, 0), some (.aload_n 0, 51, 0, 0, 0, 0), some (.getfield 39, 54, 20, 2, 11, 0), none, none, some (.iload_n 2, 55, 2, 0, 0, 0), some (.iconst 1, 56, 0, 0, 0, 0), some (.iadd, 57, 0, 0, 0, 0), some (.iaload, 58, 0, 0, 0, 0), some (.aload_n 0, 59, 0, 0, 0, 0), some (.getfield 39, 62, 20, 2, 11, 0), none, none, some (.iload_n 2, 63, 2, 0, 0, 0), some (.iconst 2, 64, 0, 0, 0, 0)],
  [some (.iadd, 65, 0, 0, 0, 0), some (.iaload, 66, 0, 0, 0, 0), some (.invokevirtual 304, 69, 174, 6, 0, 0), none, none, some (.goto 12, 81, 0, 0, 0, 0), none, none, some (.aload_n 0, 73, 0, 0, 0, 0), some (.iload_n 1, 74, 1, 0, 0, 0), some (.iconst 0, 75, 0, 0, 0, 0), some (.iconst 0, 76, 0, 0, 0, 0), some (.iconst 0, 77, 0, 0, 0, 0), some (.iconst 0, 78, 0, 0, 0, 0), some (.invokevirtual 304, 81, 174, 6, 0, 0), none],
  [none, some (.iinc 1 1, 84, 1, 0, 0, 0), none, none, some (.goto (-66), 18, 0, 0, 0, 0), none, none, some (.iconst 0, 88, 0, 0, 0, 0), some (.istore_n 1, 89, 1, 0, 0, 0), some (.iload_n 1, 90, 1, 0, 0, 0), some (.iconst 5, 91, 0, 0, 0, 0), some (.if_icmp .ge 19, 94, 110, 0, 0, 0), none, none, some (.aload_n 0, 95, 0, 0, 0, 0), some (.getfield 39, 98, 20, 2, 11, 0)],
  [none, none, some (.bipush 42, 100, 0, 0, 0, 0), none, some (.iload_n 1, 101, 1, 0, 0, 0), some (.iadd, 102, 0, 0, 0, 0), some (.iconst 0, 103, 0, 0, 0, 0), some (.iastore, 104, 0, 0, 0, 0), some (.iinc 1 1, 107, 1, 0, 0, 0), none, none, some (.goto (-18), 89, 0, 0, 0, 0), none, none, some (.iconst 0, 111, 0, 0, 0, 0), some (.istore_n 1, 112, 1, 0, 0, 0)],
  [some (.iload_n 1, 113, 1, 0, 0, 0), some (.bipush 20, 115, 0, 0, 0, 0), none, some (.if_icmp .ge 27, 118, 142, 0, 0, 0), none, none, some (.aload_n 0, 119, 0, 0, 0, 0), some (.getfield 39, 122, 20, 2, 11, 0), none, none, some (.bipush 47, 124, 0, 0, 0, 0), none, some (.iload_n 1, 125, 1, 0, 0, 0), some (.iadd, 126, 0, 0, 0, 0), some (.aload_n 0, 127, 0, 0, 0, 0), some (.getfield 39, 130, 20, 2, 11, 0)],
  [none, none, some (.bipush 95, 132, 0, 0, 0, 0), none, some (.iload_n 1, 133, 1, 0, 0, 0), some (.iadd, 134, 0, 0, 0, 0), some (.iaload, 135, 0, 0, 0, 0), some (.iastore, 136, 0, 0, 0, 0), some (.iinc 1 1, 139, 1, 0, 0, 0), none, none, some (.goto (-27), 112, 0, 0, 0, 0), none, none, some (.return_, 143, 0, 0, 0, 0)]]
def zt174 : ZT := [[some (.bipush 12, 2, 0, 0, 0, 0), none, some (.iconst 5, 3, 0, 0, 0, 0), some (.iload_n 1, 4, 1, 0, 0, 0), some (.imul, 5, 0, 0, 0, 0), some (.iadd, 6, 0, 0, 0, 0), some (.istore 6, 8, 6, 0, 0, 0), none, some (.aload_n 0, 9, 0, 0, 0, 0), some (.getfield 39, 12, 20, 2, 11, 0), none, none, some (.iload 6, 14, 6, 0, 0, 0), none, some (.iload_n 2, 15, 2, 0, 0, 0), some (.iastore, 16, 0, 0, 0, 0)],
  [some (.aload_n 0, 17, 0, 0, 0, 0), some (.getfield 39, 20, 20, 2, 11, 0), none, none, some (.iload 6, 22, 6, 0, 0, 0), none, some (.iconst 1, 23, 0, 0, 0, 0), some (.iadd, 24, 0, 0, 0, 0), some (.iload_n 3, 25, 3, 0, 0, 0), some (.iastore, 26, 0, 0, 0, 0), some (.aload_n 0, 27, 0, 0, 0, 0), some (.getfield 39, 30, 20, 2, 11, 0), none, none, some (.iload 6, 32, 6, 0, 0, 0), none],
  [some (.iconst 2, 33, 0, 0, 0, 0), some (.iadd, 34, 0, 0, 0, 0), some (.iload 4, 36, 4, 0, 0, 0), none, some (.iastore, 37, 0, 0, 0, 0), some (.aload_n 0, 38, 0, 0, 0, 0), some (.getfield 39, 41, 20, 2, 11, 0), none, none, some (.iload 6, 43, 6, 0, 0, 0), none, some (.iconst 3, 44, 0, 0, 0, 0), some (.iadd, 45, 0, 0, 0, 0), some (.iload 5, 47, 5, 0, 0, 0), none, some (.iastore, 48, 0, 0, 0, 0)],
  [some (.aload_n 0, 49, 0, 0, 0, 0), some (.getfield 39, 52, 20, 2, 11, 0), none, none, some (.iload 6, 54, 6, 0, 0, 0), none, some (.iconst 4, 55, 0, 0, 0, 0), some (.iadd, 56, 0, 0, 0, 0), some (.iconst 0, 57, 0, 0, 0, 0), some (.iastore, 58, 0, 0, 0, 0), some (.return_, 59, 0, 0, 0, 0)]]
def zt175 : ZT := [[some (.iload_n 1, 1, 1, 0, 0, 0), some (.iconst (-1), 2, 0, 0, 0, 0), some (.if_icmp .eq 14, 5, 16, 0, 0, 0), none, none, some (.aload_n 0, 6, 0, 0, 0, 0), some (.iload_n 1, 7, 1, 0, 0, 0), some (.invokevirtual 308, 10, 176, 2, 0, 0), none, none, some (.ifCond .ne 6, 13, 16, 0, 0, 0), none, none, some (.bipush (-2), 15, 0, 0, 0, 0), none, some (.ireturn, 16, 0, 0, 1, 0)],
  [some (.aload_n 0, 17, 0, 0, 0, 0), some (.getfield 42, 20, 21, 0, 11, 0), none, none, some (.istore_n 2, 21, 2, 0, 0, 0), some (.aload_n 0, 22, 0, 0, 0, 0), some (.iload_n 1, 23, 1, 0, 0, 0), some (.putfield 42, 26, 21, 0, 11, 0), none, none, some (.iload_n 2, 27, 2, 0, 0, 0), some (.ireturn, 28, 0, 0, 1, 0)]]
def zt176 : ZT := [[some (.iload_n 1, 1, 1, 0, 0, 0), some (.ifCond .lt 15, 4, 16, 0, 0, 0), none, none, some (.iload_n 1, 5, 1, 0, 0, 0), some (.aload_n 0, 6, 0, 0, 0, 0), some (.getfield 260, 9, 2, 0, 11, 0), none, none, some (.if_icmp .ge 7, 12, 16, 0, 0, 0), none, none, some (.iconst 1, 13, 0, 0, 0, 0), some (.goto 4, 17, 0, 0, 0, 0), none, none],
  [some (.iconst 0, 17, 0, 0, 0, 0), some (.ireturn, 18, 0, 0, 2, 0)]]
def zt177 : ZT := [[some (.aload_n 0, 1, 0, 0, 0, 0), some (.iload_n 1, 2, 1, 0, 0, 0), some (.invokevirtual 292, 5, 178, 2, 0, 0), none, none, some (.ifCond .eq 15, 8, 20, 0, 0, 0), none, none, some (.iload_n 2, 9, 2, 0, 0, 0), some (.i2l, 10, 0, 0, 0, 0), some (.lconst 0, 11, 0, 0, 0, 0), some (.ldc2_w 311, 14, 0, 0, 0, 3), none, none, some (.invokestatic 121, 17, 150, 3, 0, 0), none],
  [none, some (.ifCond .ne 6, 20, 23, 0, 0, 0), none, none, some (.bipush (-2), 22, 0, 0, 0, 0), none, some (.ireturn, 23, 0, 0, 1, 0), some (.aload_n 0, 24, 0, 0, 0, 0), some (.iload_n 1, 25, 1, 0, 0, 0), some (.invokevirtual 295, 28, 180, 2, 0, 0), none, none, some (.ifCond .ne 14, 31, 42, 0, 0, 0), none, none, some (.iload_n 2, 32, 2, 0, 0, 0)],
  [some (.iconst 2, 33, 0, 0, 0, 0), some (.if_icmp .ge 7, 36, 40, 0, 0, 0), none, none, some (.iconst (-1), 37, 0, 0, 0, 0), some (.goto 4, 41, 0, 0, 0, 0), none, none, some (.iconst 0, 41, 0, 0, 0, 0), some (.ireturn, 42, 0, 0, 1, 0), some (.aload_n 0, 43, 0, 0, 0, 0), some (.getfield 39, 46, 20, 2, 11, 0), none, none, some (.bipush 12, 48, 0, 0, 0, 0), none],
  [some (.iconst 5, 49, 0, 0, 0, 0), some (.iload_n 1, 50, 1, 0, 0, 0), some (.imul, 51, 0, 0, 0, 0), some (.iadd, 52, 0, 0, 0, 0), some (.iconst 1, 53, 0, 0, 0, 0), some (.iadd, 54, 0, 0, 0, 0), some (.iload_n 2, 55, 2, 0, 0, 0), some (.iadd, 56, 0, 0, 0, 0), some (.iaload, 57, 0, 0, 0, 0), some (.ireturn, 58, 0, 0, 1, 0)]]
def zt178 : ZT := [[some (.aload_n 0, 1, 0, 0, 0, 0), some (.invokevirtual 287, 4, 179, 1, 0, 0), none, none, some (.ifCond .eq 19, 7, 23, 0, 0, 0), none, none, some (.iload_n 1, 8, 1, 0, 0, 0), some (.i2l, 9, 0, 0, 0, 0), some (.lconst 0, 10, 0, 0, 0, 0), some (.ldc2_w 290, 13, 0, 0, 0, 5), none, none, some (.invokestatic 121, 16, 150, 3, 0, 0), none, none],
  [some (.ifCond .eq 7, 19, 23, 0, 0, 0), none, none, some (.iconst 1, 20, 0, 0, 0, 0), some (.goto 4, 24, 0, 0, 0, 0), none, none, some (.iconst 0, 24, 0, 0, 0, 0), some (.ireturn, 25, 0, 0, 2, 0)]]
def zt179 : ZT := [[some (.aload_n 0, 1, 0, 0, 0, 0), some (.getfield 39, 4, 20, 2, 11, 0), none, none, some (.iconst 0, 5, 0, 0, 0, 0), some (.iaload, 6, 0, 0, 0, 0), some (.iconst 1, 7, 0, 0, 0, 0), some (.if_icmp .ne 7, 10, 14, 0, 0, 0), none, none, some (.iconst 1, 11, 0, 0, 0, 0), some (.goto 4, 15, 0, 0, 0, 0), none, none, some (.iconst 0, 15, 0, 0, 0, 0), some (.ireturn, 16, 0, 0, 2, 0)]]
def zt180 : ZT := [[some (.aload_n 0, 1, 0, 0, 0, 0), some (.getfield 39, 4, 20, 2, 11, 0), none, none, some (.bipush 12, 6, 0, 0, 0, 0), none, some (.iconst 5, 7, 0, 0, 0, 0), some (.iload_n 1, 8, 1, 0, 0, 0), some (.imul, 9, 0, 0, 0, 0), some (.iadd, 10, 0, 0, 0, 0), some (.iaload, 11, 0, 0, 0, 0), some (.iconst 1, 12, 0, 0, 0, 0), some (.if_icmp .ne 7, 15, 19, 0, 0, 0), none, none, some (.iconst 1, 16, 0, 0, 0, 0)],
  [some (.goto 4, 20, 0, 0, 0, 0), none, none, some (.iconst 0, 20, 0, 0, 0, 0), some (.ireturn, 21, 0, 0, 2, 0)]]
def zt181 : ZT := [[some (.aload_n 0, 1, 0, 0, 0, 0), some (.iload_n 1, 2, 1, 0, 0, 0), some (.invokevirtual 313, 5, 182, 2, 0, 0), none, none, some (.ifCond .eq 15, 8, 20, 0, 0, 0), none, none, some (.iload_n 2, 9, 2, 0, 0, 0), some (.i2l, 10, 0, 0, 0, 0), some (.lconst 0, 11, 0, 0, 0, 0), some (.ldc2_w 316, 14, 0, 0, 0, 2), none, none, some (.invokestatic 121, 17, 150, 3, 0, 0), none],
  [none, some (.ifCond .ne 5, 20, 22, 0, 0, 0), none, none, some (.iconst (-1), 21, 0, 0, 0, 0), some (.ireturn, 22, 0, 0, 1, 0), some (.iload_n 2, 23, 2, 0, 0, 0), some (.ifCond .ne 15, 26, 38, 0, 0, 0), none, none, some (.aload_n 0, 27, 0, 0, 0, 0), some (.getfield 39, 30, 20, 2, 11, 0), none, none, some (.bipush 67, 32, 0, 0, 0, 0), none],
  [some (.iload_n 1, 33, 1, 0, 0, 0), some (.iadd, 34, 0, 0, 0, 0), some (.iaload, 35, 0, 0, 0, 0), some (.goto 29, 64, 0, 0, 0, 0), none, none, some (.iload_n 2, 39, 2, 0, 0, 0), some (.iconst 1, 40, 0, 0, 0, 0), some (.if_icmp .ne 15, 43, 55, 0, 0, 0), none, none, some (.aload_n 0, 44, 0, 0, 0, 0), some (.getfield 39, 47, 20, 2, 11, 0), none, none, some (.bipush 72, 49, 0, 0, 0, 0)],
  [none, some (.iload_n 1, 50, 1, 0, 0, 0), some (.iadd, 51, 0, 0, 0, 0), some (.iaload, 52, 0, 0, 0, 0), some (.goto 12, 64, 0, 0, 0, 0), none, none, some (.aload_n 0, 56, 0, 0, 0, 0), some (.getfield 39, 59, 20, 2, 11, 0), none, none, some (.bipush 42, 61, 0, 0, 0, 0), none, some (.iload_n 1, 62, 1, 0, 0, 0), some (.iadd, 63, 0, 0, 0, 0), some (.iaload, 64, 0, 0, 0, 0)],
  [some (.ireturn, 65, 0, 0, 1, 0)]]
def zt182 : ZT := [[some (.iload_n 1, 1, 1, 0, 0, 0), some (.ifCond .lt 17, 4, 18, 0, 0, 0), none, none, some (.iload_n 1, 5, 1, 0, 0, 0), some (.aload_n 0, 6, 0, 0, 0, 0), some (.getfield 39, 9, 20, 2, 11, 0), none, none, some (.iconst 2, 10, 0, 0, 0, 0), some (.iaload, 11, 0, 0, 0, 0), some (.if_icmp .ge 7, 14, 18, 0, 0, 0), none, none, some (.iconst 1, 15, 0, 0, 0, 0), some (.goto 4, 19, 0, 0, 0, 0)],
  [none, none, some (.iconst 0, 19, 0, 0, 0, 0), some (.ireturn, 20, 0, 0, 2, 0)]]
def zt183 : ZT := [[some (.aload_n 0, 1, 0, 0, 0, 0), some (.iload_n 1, 2, 1, 0, 0, 0), some (.invokevirtual 318, 5, 184, 2, 0, 0), none, none, some (.ifCond .eq 15, 8, 20, 0, 0, 0), none, none, some (.aload_n 0, 9, 0, 0, 0, 0), some (.getfield 39, 12, 20, 2, 11, 0), none, none, some (.bipush 47, 14, 0, 0, 0, 0), none, some (.iload_n 1, 15, 1, 0, 0, 0), some (.iadd, 16, 0, 0, 0, 0)],
  [some (.iaload, 17, 0, 0, 0, 0), some (.goto 4, 21, 0, 0, 0, 0), none, none, some (.iconst (-1), 21, 0, 0, 0, 0), some (.ireturn, 22, 0, 0, 1, 0)]]
def zt184 : ZT := [[some (.iload_n 1, 1, 1, 0, 0, 0), some (.ifCond .lt 17, 4, 18, 0, 0, 0), none, none, some (.iload_n 1, 5, 1, 0, 0, 0), some (.aload_n 0, 6, 0, 0, 0, 0), some (.getfield 39, 9, 20, 2, 11, 0), none, none, some (.iconst 1, 10, 0, 0, 0, 0), some (.iaload, 11, 0, 0, 0, 0), some (.if_icmp .ge 7, 14, 18, 0, 0, 0), none, none, some (.iconst 1, 15, 0, 0, 0, 0), some (.goto 4, 19, 0, 0, 0, 0)],
  [none, none, some (.iconst 0, 19, 0, 0, 0, 0), some (.ireturn, 20, 0, 0, 2, 0)]]
def zt185 : ZT := [[some (.aload_n 0, 1, 0, 0, 0, 0), some (.getfield 269, 4, 27, 0, 11, 0), none, none, some (.ifCond .ne 5, 7, 9, 0, 0, 0), none, none, some (.iconst (-1), 8, 0, 0, 0, 0), some (.ireturn, 9, 0, 0, 1, 0), some (.aload_n 0, 10, 0, 0, 0, 0), some (.dup, 11, 0, 0, 0, 0), some (.getfield 269, 14, 27, 0, 11, 0), none, none, some (.iconst 1, 15, 0, 0, 0, 0), some (.isub, 16, 0, 0, 0, 0)],
  [some (.putfield 269, 19, 27, 0, 11, 0), none, none, some (.iconst 0, 20, 0, 0, 0, 0), some (.istore_n 1, 21, 1, 0, 0, 0), some (.iload_n 1, 22, 1, 0, 0, 0), some (.bipush 57, 24, 0, 0, 0, 0), none, some (.if_icmp .ge 32, 27, 56, 0, 0, 0), none, none, some (.aload_n 0, 28, 0, 0, 0, 0), some (.getfield 39, 31, 20, 2, 11, 0), none, none, some (.bipush 10, 33, 0, 0, 0, 0)],
  [none, some (.iload_n 1, 34, 1, 0, 0, 0), some (.iadd, 35, 0, 0, 0, 0), some (.aload_n 0, 36, 0, 0, 0, 0), some (.getfield 52, 39, 26, 2, 11, 0), none, none, some (.bipush 57, 41, 0, 0, 0, 0), none, some (.aload_n 0, 42, 0, 0, 0, 0), some (.getfield 269, 45, 27, 0, 11, 0), none, none, some (.imul, 46, 0, 0, 0, 0), some (.iload_n 1, 47, 1, 0, 0, 0), some (.iadd, 48, 0, 0, 0, 0)],
  [some (.iaload, 49, 0, 0, 0, 0), some (.iastore, 50, 0, 0, 0, 0), some (.iinc 1 1, 53, 1, 0, 0, 0), none, none, some (.goto (-32), 21, 0, 0, 0, 0), none, none, some (.aload_n 0, 57, 0, 0, 0, 0), some (.getfield 269, 60, 27, 0, 11, 0), none, none, some (.ireturn, 61, 0, 0, 1, 0)]]
def zt186 : ZT := [[some (.aload_n 0, 1, 0, 0, 0, 0), some (.invokevirtual 287, 4, 179, 1, 0, 0), none, none, some (.ifCond .eq 16, 7, 20, 0, 0, 0), none, none, some (.aload_n 0, 8, 0, 0, 0, 0), some (.getfield 39, 11, 20, 2, 11, 0), none, none, some (.bipush 10, 13, 0, 0, 0, 0), none, some (.iaload, 14, 0, 0, 0, 0), some (.sipush 999, 17, 0, 0, 0, 0), none],
  [none, some (.if_icmp .ne 5, 20, 22, 0, 0, 0), none, none, some (.iconst (-1), 21, 0, 0, 0, 0), some (.ireturn, 22, 0, 0, 1, 0), some (.aload_n 0, 23, 0, 0, 0, 0), some (.invokevirtual 369, 26, 187, 1, 0, 0), none, none, some (.aload_n 0, 27, 0, 0, 0, 0), some (.invokevirtual 366, 30, 188, 1, 0, 0), none, none, some (.ireturn, 31, 0, 0, 1, 0)]]
def zt187 : ZT := [[some (.aload_n 0, 1, 0, 0, 0, 0), some (.getfield 269, 4, 27, 0, 11, 0), none, none, some (.bipush 20, 6, 0, 0, 0, 0), none, some (.if_icmp .ne 44, 9, 50, 0, 0, 0), none, none, some (.bipush 57, 11, 0, 0, 0, 0), none, some (.istore_n 1, 12, 1, 0, 0, 0), some (.iload_n 1, 13, 1, 0, 0, 0), some (.sipush 1140, 16, 0, 0, 0, 0), none, none],
  [some (.if_icmp .ge 24, 19, 40, 0, 0, 0), none, none, some (.aload_n 0, 20, 0, 0, 0, 0), some (.getfield 52, 23, 26, 2, 11, 0), none, none, some (.iload_n 1, 24, 1, 0, 0, 0), some (.bipush 57, 26, 0, 0, 0, 0), none, some (.isub, 27, 0, 0, 0, 0), some (.aload_n 0, 28, 0, 0, 0, 0), some (.getfield 52, 31, 26, 2, 11, 0), none, none, some (.iload_n 1, 32, 1, 0, 0, 0)],
  [some (.iaload, 33, 0, 0, 0, 0), some (.iastore, 34, 0, 0, 0, 0), some (.iinc 1 1, 37, 1, 0, 0, 0), none, none, some (.goto (-25), 12, 0, 0, 0, 0), none, none, some (.aload_n 0, 41, 0, 0, 0, 0), some (.dup, 42, 0, 0, 0, 0), some (.getfield 269, 45, 27, 0, 11, 0), none, none, some (.iconst 1, 46, 0, 0, 0, 0), some (.isub, 47, 0, 0, 0, 0), some (.putfield 269, 50, 27, 0, 11, 0)],
  [none, none, some (.iconst 0, 51, 0, 0, 0, 0), some (.istore_n 1, 52, 1, 0, 0, 0), some (.iload_n 1, 53, 1, 0, 0, 0), some (.bipush 57, 55, 0, 0, 0, 0), none, some (.if_icmp .ge 32, 58, 87, 0, 0, 0), none, none, some (.aload_n 0, 59, 0, 0, 0, 0), some (.getfield 52, 62, 26, 2, 11, 0), none, none, some (.bipush 57, 64, 0, 0, 0, 0), none],
  [some (.aload_n 0, 65, 0, 0, 0, 0), some (.getfield 269, 68, 27, 0, 11, 0), none, none, some (.imul, 69, 0, 0, 0, 0), some (.iload_n 1, 70, 1, 0, 0, 0), some (.iadd, 71, 0, 0, 0, 0), some (.aload_n 0, 72, 0, 0, 0, 0), some (.getfield 39, 75, 20, 2, 11, 0), none, none, some (.bipush 10, 77, 0, 0, 0, 0), none, some (.iload_n 1, 78, 1, 0, 0, 0), some (.iadd, 79, 0, 0, 0, 0), some (.iaload, 80, 0, 0, 0, 0)],
  [some (.iastore, 81, 0, 0, 0, 0), some (.iinc 1 1, 84, 1, 0, 0, 0), none, none, some (.goto (-32), 52, 0, 0, 0, 0), none, none, some (.aload_n 0, 88, 0, 0, 0, 0), some (.dup, 89, 0, 0, 0, 0), some (.getfield 269, 92, 27, 0, 11, 0), none, none, some (.iconst 1, 93, 0, 0, 0, 0), some (.iadd, 94, 0, 0, 0, 0), some (.putfield 269, 97, 27, 0, 11, 0), none],
  [none, some (.return_, 98, 0, 0, 0, 0)]]
def zt188 : ZT := [[some (.iconst 0, 1, 0, 0, 0, 0), some (.istore_n 1, 2, 1, 0, 0, 0), some (.aload_n 0, 3, 0, 0, 0, 0), some (.iconst 0, 4, 0, 0, 0, 0), some (.putfield 350, 7, 25, 3, 11, 0), none, none, some (.iconst 0, 8, 0, 0, 0, 0), some (.istore_n 2, 9, 2, 0, 0, 0), some (.iload_n 2, 10, 2, 0, 0, 0), some (.bipush 6, 12, 0, 0, 0, 0), none, some (.if_icmp .ge 62, 15, 74, 0, 0, 0), none, none, some (.aload_n 0, 16, 0, 0, 0, 0)],
  [some (.iload_n 2, 17, 2, 0, 0, 0), some (.invokevirtual 295, 20, 180, 2, 0, 0), none, none, some (.ifCond .ne 6, 23, 26, 0, 0, 0), none, none, some (.goto 45, 68, 0, 0, 0, 0), none, none, some (.aload_n 0, 27, 0, 0, 0, 0), some (.iload_n 2, 28, 2, 0, 0, 0), some (.invokevirtual 331, 31, 189, 2, 0, 0), none, none, some (.ifCond .le 20, 34, 51, 0, 0, 0)],
  [none, none, some (.aload_n 0, 35, 0, 0, 0, 0), some (.iload_n 2, 36, 2, 0, 0, 0), some (.invokevirtual 357, 39, 190, 2, 0, 0), none, none, some (.ifCond .eq 12, 42, 51, 0, 0, 0), none, none, some (.iload_n 1, 43, 1, 0, 0, 0), some (.iconst 1, 44, 0, 0, 0, 0), some (.iload_n 2, 45, 2, 0, 0, 0), some (.ishl, 46, 0, 0, 0, 0), some (.ior, 47, 0, 0, 0, 0), some (.istore_n 1, 48, 1, 0, 0, 0)],
  [some (.goto 20, 68, 0, 0, 0, 0), none, none, some (.aload_n 0, 52, 0, 0, 0, 0), some (.getfield 39, 55, 20, 2, 11, 0), none, none, some (.bipush 12, 57, 0, 0, 0, 0), none, some (.iconst 5, 58, 0, 0, 0, 0), some (.iload_n 2, 59, 2, 0, 0, 0), some (.imul, 60, 0, 0, 0, 0), some (.iadd, 61, 0, 0, 0, 0), some (.iconst 4, 62, 0, 0, 0, 0), some (.iadd, 63, 0, 0, 0, 0), some (.dup2, 64, 0, 0, 0, 0)],
  [some (.iaload, 65, 0, 0, 0, 0), some (.iconst 1, 66, 0, 0, 0, 0), some (.iadd, 67, 0, 0, 0, 0), some (.iastore, 68, 0, 0, 0, 0), some (.iinc 2 1, 71, 2, 0, 0, 0), none, none, some (.goto (-62), 9, 0, 0, 0, 0), none, none, some (.iconst 0, 75, 0, 0, 0, 0), some (.istore_n 2, 76, 2, 0, 0, 0), some (.iload_n 2, 77, 2, 0, 0, 0), some (.aload_n 0, 78, 0, 0, 0, 0), some (.getfield 39, 81, 20, 2, 11, 0), none],
  [none, some (.iconst 2, 82, 0, 0, 0, 0), some (.iaload, 83, 0, 0, 0, 0), some (.if_icmp .ge 47, 86, 130, 0, 0, 0), none, none, some (.iload_n 2, 87, 2, 0, 0, 0), some (.aload_n 0, 88, 0, 0, 0, 0), some (.getfield 46, 91, 23, 0, 11, 0), none, none, some (.if_icmp .eq 28, 94, 119, 0, 0, 0), none, none, some (.aload_n 0, 95, 0, 0, 0, 0), some (.getfield 39, 98, 20, 2, 11, 0)],
  [none, none, some (.bipush 10, 100, 0, 0, 0, 0), none, some (.iaload, 101, 0, 0, 0, 0), some (.aload_n 0, 102, 0, 0, 0, 0), some (.getfield 39, 105, 20, 2, 11, 0), none, none, some (.bipush 72, 107, 0, 0, 0, 0), none, some (.iload_n 2, 108, 2, 0, 0, 0), some (.iadd, 109, 0, 0, 0, 0), some (.iaload, 110, 0, 0, 0, 0), some (.irem, 111, 0, 0, 0, 0), some (.ifCond .ne 8, 114, 119, 0, 0, 0)],
  [none, none, some (.aload_n 0, 115, 0, 0, 0, 0), some (.iload_n 2, 116, 2, 0, 0, 0), some (.invokevirtual 360, 119, 205, 2, 0, 0), none, none, some (.aload_n 0, 120, 0, 0, 0, 0), some (.iload_n 2, 121, 2, 0, 0, 0), some (.invokevirtual 363, 124, 206, 2, 0, 0), none, none, some (.iinc 2 1, 127, 2, 0, 0, 0), none, none, some (.goto (-51), 76, 0, 0, 0, 0)],
  [none, none, some (.aload_n 0, 131, 0, 0, 0, 0), some (.getfield 39, 134, 20, 2, 11, 0), none, none, some (.bipush 10, 136, 0, 0, 0, 0), none, some (.dup2, 137, 0, 0, 0, 0), some (.iaload, 138, 0, 0, 0, 0), some (.iconst 1, 139, 0, 0, 0, 0), some (.iadd, 140, 0, 0, 0, 0), some (.iastore, 141, 0, 0, 0, 0), some (.iload_n 1, 142, 1, 0, 0, 0), some (.ireturn, 143, 0, 0, 1, 0)]]
def zt189 : ZT := [[some (.aload_n 0, 1, 0, 0, 0, 0), some (.getfield 39, 4, 20, 2, 11, 0), none, none, some (.bipush 12, 6, 0, 0, 0, 0), none, some (.iconst 5, 7, 0, 0, 0, 0), some (.iload_n 1, 8, 1, 0, 0, 0), some (.imul, 9, 0, 0, 0, 0), some (.iadd, 10, 0, 0, 0, 0), some (.iconst 3, 11, 0, 0, 0, 0), some (.iadd, 12, 0, 0, 0, 0), some (.iaload, 13, 0, 0, 0, 0), some (.ireturn, 14, 0, 0, 1, 0)]]
def zt190 : ZT := [[some (.aload_n 0, 1, 0, 0, 0, 0), some (.iload_n 1, 2, 1, 0, 0, 0), some (.invokevirtual 298, 5, 191, 2, 0, 0), none, none, some (.aload_n 0, 6, 0, 0, 0, 0), some (.getfield 39, 9, 20, 2, 11, 0), none, none, some (.bipush 67, 11, 0, 0, 0, 0), none, some (.aload_n 0, 12, 0, 0, 0, 0), some (.iload_n 1, 13, 1, 0, 0, 0), some (.invokevirtual 328, 16, 192, 2, 0, 0), none, none],
  [some (.iadd, 17, 0, 0, 0, 0), some (.iaload, 18, 0, 0, 0, 0), some (.if_icmp .ne 23, 21, 41, 0, 0, 0), none, none, some (.aload_n 0, 22, 0, 0, 0, 0), some (.iload_n 1, 23, 1, 0, 0, 0), some (.invokevirtual 344, 26, 193, 2, 0, 0), none, none, some (.ifCond .eq 15, 29, 41, 0, 0, 0), none, none, some (.aload_n 0, 30, 0, 0, 0, 0), some (.iload_n 1, 31, 1, 0, 0, 0), some (.invokevirtual 347, 34, 203, 2, 0, 0)],
  [none, none, some (.aload_n 0, 35, 0, 0, 0, 0), some (.iconst 1, 36, 0, 0, 0, 0), some (.putfield 350, 39, 25, 3, 11, 0), none, none, some (.iconst 1, 40, 0, 0, 0, 0), some (.ireturn, 41, 0, 0, 2, 0), some (.aload_n 0, 42, 0, 0, 0, 0), some (.iload_n 1, 43, 1, 0, 0, 0), some (.invokevirtual 298, 46, 191, 2, 0, 0), none, none, some (.iconst 1, 47, 0, 0, 0, 0), some (.iadd, 48, 0, 0, 0, 0)],
  [some (.aload_n 0, 49, 0, 0, 0, 0), some (.getfield 39, 52, 20, 2, 11, 0), none, none, some (.iconst 1, 53, 0, 0, 0, 0), some (.iaload, 54, 0, 0, 0, 0), some (.irem, 55, 0, 0, 0, 0), some (.istore_n 2, 56, 2, 0, 0, 0), some (.aload_n 0, 57, 0, 0, 0, 0), some (.iload_n 2, 58, 2, 0, 0, 0), some (.invokevirtual 354, 61, 204, 2, 0, 0), none, none, some (.ifCond .eq 39, 64, 100, 0, 0, 0), none, none],
  [some (.aload_n 0, 65, 0, 0, 0, 0), some (.getfield 39, 68, 20, 2, 11, 0), none, none, some (.bipush 12, 70, 0, 0, 0, 0), none, some (.iconst 5, 71, 0, 0, 0, 0), some (.iload_n 1, 72, 1, 0, 0, 0), some (.imul, 73, 0, 0, 0, 0), some (.iadd, 74, 0, 0, 0, 0), some (.iconst 1, 75, 0, 0, 0, 0), some (.iadd, 76, 0, 0, 0, 0), some (.iload_n 2, 77, 2, 0, 0, 0), some (.iastore, 78, 0, 0, 0, 0), some (.aload_n 0, 79, 0, 0, 0, 0), some (.getfield 39, 82, 20, 2, 11, 0)],
  [none, none, some (.bipush 12, 84, 0, 0, 0, 0), none, some (.iconst 5, 85, 0, 0, 0, 0), some (.iload_n 1, 86, 1, 0, 0, 0), some (.imul, 87, 0, 0, 0, 0), some (.iadd, 88, 0, 0, 0, 0), some (.iconst 3, 89, 0, 0, 0, 0), some (.iadd, 90, 0, 0, 0, 0), some (.dup2, 91, 0, 0, 0, 0), some (.iaload, 92, 0, 0, 0, 0), some (.iconst 1, 93, 0, 0, 0, 0), some (.isub, 94, 0, 0, 0, 0), some (.iastore, 95, 0, 0, 0, 0), some (.aload_n 0, 96, 0, 0, 0, 0)],
  [some (.iconst 1, 97, 0, 0, 0, 0), some (.putfield 350, 100, 25, 3, 11, 0), none, none, some (.iconst 0, 101, 0, 0, 0, 0), some (.ireturn, 102, 0, 0, 2, 0)]]
def zt191 : ZT := [[some (.aload_n 0, 1, 0, 0, 0, 0), some (.getfield 39, 4, 20, 2, 11, 0), none, none, some (.bipush 12, 6, 0, 0, 0, 0), none, some (.iconst 5, 7, 0, 0, 0, 0), some (.iload_n 1, 8, 1, 0, 0, 0), some (.imul, 9, 0, 0, 0, 0), some (.iadd, 10, 0, 0, 0, 0), some (.iconst 1, 11, 0, 0, 0, 0), some (.iadd, 12, 0, 0, 0, 0), some (.iaload, 13, 0, 0, 0, 0), some (.ireturn, 14, 0, 0, 1, 0)]]
def zt192 : ZT := [[some (.aload_n 0, 1, 0, 0, 0, 0), some (.getfield 39, 4, 20, 2, 11, 0), none, none, some (.bipush 12, 6, 0, 0, 0, 0), none, some (.iconst 5, 7, 0, 0, 0, 0), some (.iload_n 1, 8, 1, 0, 0, 0), some (.imul, 9, 0, 0, 0, 0), some (.iadd, 10, 0, 0, 0, 0), some (.iconst 2, 11, 0, 0, 0, 0), some (.iadd, 12, 0, 0, 0, 0), some (.iaload, 13, 0, 0, 0, 0), some (.ireturn, 14, 0, 0, 1, 0)]]
def zt193 : ZT := [[some (.aload_n 0, 1, 0, 0, 0, 0), some (.getfield 49, 4, 24, 0, 11, 0), none, none, some (.ifCond .lt 12, 7, 16, 0, 0, 0), none, none, some (.aload_n 0, 8, 0, 0, 0, 0), some (.getfield 49, 11, 24, 0, 11, 0), none, none, some (.iload_n 1, 12, 1, 0, 0, 0), some (.invokestatic 325, 15, 194, 2, 0, 0), none, none, some (.ireturn, 16, 0, 0, 2, 0)],
  [some (.aload_n 0, 17, 0, 0, 0, 0), some (.getfield 42, 20, 21, 0, 11, 0), none, none, some (.ifCond .ge 25, 23, 45, 0, 0, 0), none, none, some (.aload_n 0, 24, 0, 0, 0, 0), some (.getfield 39, 27, 20, 2, 11, 0), none, none, some (.bipush 42, 29, 0, 0, 0, 0), none, some (.aload_n 0, 30, 0, 0, 0, 0), some (.iload_n 1, 31, 1, 0, 0, 0), some (.invokevirtual 328, 34, 192, 2, 0, 0)],
  [none, none, some (.iadd, 35, 0, 0, 0, 0), some (.iaload, 36, 0, 0, 0, 0), some (.ifCond .ne 7, 39, 43, 0, 0, 0), none, none, some (.iconst 1, 40, 0, 0, 0, 0), some (.goto 4, 44, 0, 0, 0, 0), none, none, some (.iconst 0, 44, 0, 0, 0, 0), some (.ireturn, 45, 0, 0, 2, 0), some (.aload_n 0, 46, 0, 0, 0, 0), some (.getfield 36, 49, 19, 2, 11, 0), none],
  [none, some (.iconst 0, 50, 0, 0, 0, 0), some (.iload_n 1, 51, 1, 0, 0, 0), some (.i2l, 52, 0, 0, 0, 0), some (.lastore, 53, 0, 0, 0, 0), some (.aload_n 0, 54, 0, 0, 0, 0), some (.getfield 36, 57, 19, 2, 11, 0), none, none, some (.iconst 1, 58, 0, 0, 0, 0), some (.aload_n 0, 59, 0, 0, 0, 0), some (.iload_n 1, 60, 1, 0, 0, 0), some (.invokevirtual 328, 63, 192, 2, 0, 0), none, none, some (.i2l, 64, 0, 0, 0, 0)],
  [some (.lastore, 65, 0, 0, 0, 0), some (.aload_n 0, 66, 0, 0, 0, 0), some (.getfield 36, 69, 19, 2, 11, 0), none, none, some (.iconst 2, 70, 0, 0, 0, 0), some (.aload_n 0, 71, 0, 0, 0, 0), some (.iload_n 1, 72, 1, 0, 0, 0), some (.invokevirtual 331, 75, 189, 2, 0, 0), none, none, some (.i2l, 76, 0, 0, 0, 0), some (.lastore, 77, 0, 0, 0, 0), some (.aload_n 0, 78, 0, 0, 0, 0), some (.getfield 36, 81, 19, 2, 11, 0), none],
  [none, some (.iconst 3, 82, 0, 0, 0, 0), some (.aload_n 0, 83, 0, 0, 0, 0), some (.getfield 39, 86, 20, 2, 11, 0), none, none, some (.bipush 42, 88, 0, 0, 0, 0), none, some (.aload_n 0, 89, 0, 0, 0, 0), some (.iload_n 1, 90, 1, 0, 0, 0), some (.invokevirtual 328, 93, 192, 2, 0, 0), none, none, some (.iadd, 94, 0, 0, 0, 0), some (.iaload, 95, 0, 0, 0, 0), some (.i2l, 96, 0, 0, 0, 0)],
  [some (.lastore, 97, 0, 0, 0, 0), some (.aload_n 0, 98, 0, 0, 0, 0), some (.getfield 36, 101, 19, 2, 11, 0), none, none, some (.iconst 4, 102, 0, 0, 0, 0), some (.aload_n 0, 103, 0, 0, 0, 0), some (.iload_n 1, 104, 1, 0, 0, 0), some (.invokevirtual 334, 107, 195, 2, 0, 0), none, none, some (.i2l, 108, 0, 0, 0, 0), some (.lastore, 109, 0, 0, 0, 0), some (.aload_n 0, 110, 0, 0, 0, 0), some (.getfield 36, 113, 19, 2, 11, 0), none],
  [none, some (.iconst 5, 114, 0, 0, 0, 0), some (.aload_n 0, 115, 0, 0, 0, 0), some (.invokevirtual 337, 118, 197, 1, 0, 0), none, none, some (.i2l, 119, 0, 0, 0, 0), some (.lastore, 120, 0, 0, 0, 0), some (.aload_n 0, 121, 0, 0, 0, 0), some (.getfield 36, 124, 19, 2, 11, 0), none, none, some (.bipush 6, 126, 0, 0, 0, 0), none, some (.aload_n 0, 127, 0, 0, 0, 0), some (.getfield 39, 130, 20, 2, 11, 0)],
  [none, none, some (.bipush 11, 132, 0, 0, 0, 0), none, some (.iaload, 133, 0, 0, 0, 0), some (.i2l, 134, 0, 0, 0, 0), some (.lastore, 135, 0, 0, 0, 0), some (.aload_n 0, 136, 0, 0, 0, 0), some (.getfield 36, 139, 19, 2, 11, 0), none, none, some (.bipush 7, 141, 0, 0, 0, 0), none, some (.aload_n 0, 142, 0, 0, 0, 0), some (.getfield 39, 145, 20, 2, 11, 0), none],
  [none, some (.bipush 12, 147, 0, 0, 0, 0), none, some (.iconst 5, 148, 0, 0, 0, 0), some (.iload_n 1, 149, 1, 0, 0, 0), some (.imul, 150, 0, 0, 0, 0), some (.iadd, 151, 0, 0, 0, 0), some (.iconst 4, 152, 0, 0, 0, 0), some (.iadd, 153, 0, 0, 0, 0), some (.iaload, 154, 0, 0, 0, 0), some (.aload_n 0, 155, 0, 0, 0, 0), some (.getfield 39, 158, 20, 2, 11, 0), none, none, some (.iconst 1, 159, 0, 0, 0, 0), some (.iaload, 160, 0, 0, 0, 0)],
  [some (.idiv, 161, 0, 0, 0, 0), some (.i2l, 162, 0, 0, 0, 0), some (.lastore, 163, 0, 0, 0, 0), some (.aload_n 0, 164, 0, 0, 0, 0), some (.getfield 36, 167, 19, 2, 11, 0), none, none, some (.bipush 8, 169, 0, 0, 0, 0), none, some (.aload_n 0, 170, 0, 0, 0, 0), some (.getfield 39, 173, 20, 2, 11, 0), none, none, some (.bipush 72, 175, 0, 0, 0, 0), none, some (.aload_n 0, 176, 0, 0, 0, 0)],
  [some (.iload_n 1, 177, 1, 0, 0, 0), some (.invokevirtual 328, 180, 192, 2, 0, 0), none, none, some (.iadd, 181, 0, 0, 0, 0), some (.iaload, 182, 0, 0, 0, 0), some (.i2l, 183, 0, 0, 0, 0), some (.lastore, 184, 0, 0, 0, 0), some (.aload_n 0, 185, 0, 0, 0, 0), some (.getfield 36, 188, 19, 2, 11, 0), none, none, some (.bipush 9, 190, 0, 0, 0, 0), none, some (.aload_n 0, 191, 0, 0, 0, 0), some (.getfield 39, 194, 20, 2, 11, 0)],
  [none, none, some (.bipush 10, 196, 0, 0, 0, 0), none, some (.iaload, 197, 0, 0, 0, 0), some (.i2l, 198, 0, 0, 0, 0), some (.lastore, 199, 0, 0, 0, 0), some (.aload_n 0, 200, 0, 0, 0, 0), some (.aload_n 0, 201, 0, 0, 0, 0), some (.getfield 42, 204, 21, 0, 11, 0), none, none, some (.invokevirtual 340, 207, 198, 2, 0, 0), none, none, some (.lconst 0, 208, 0, 0, 0, 0)],
  [some (.lcmp, 209, 0, 0, 0, 0), some (.ifCond .le 7, 212, 216, 0, 0, 0), none, none, some (.iconst 1, 213, 0, 0, 0, 0), some (.goto 4, 217, 0, 0, 0, 0), none, none, some (.iconst 0, 217, 0, 0, 0, 0), some (.ireturn, 218, 0, 0, 2, 0)]]
def zt194 : ZT := [[some (.iload_n 0, 1, 0, 0, 0, 0), some (.iload_n 1, 2, 1, 0, 0, 0), some (.ishr, 3, 0, 0, 0, 0), some (.iconst 1, 4, 0, 0, 0, 0), some (.iand, 5, 0, 0, 0, 0), some (.iconst 1, 6, 0, 0, 0, 0), some (.if_icmp .ne 7, 9, 13, 0, 0, 0), none, none, some (.iconst 1, 10, 0, 0, 0, 0), some (.goto 4, 14, 0, 0, 0, 0), none, none, some (.iconst 0, 14, 0, 0, 0, 0), some (.ireturn, 15, 0, 0, 2, 0)]]
def zt195 : ZT := [[some (.iconst 1, 1, 0, 0, 0, 0), some (.istore_n 2, 2, 2, 0, 0, 0), some (.iload_n 2, 3, 2, 0, 0, 0), some (.aload_n 0, 4, 0, 0, 0, 0), some (.getfield 39, 7, 20, 2, 11, 0), none, none, some (.iconst 1, 8, 0, 0, 0, 0), some (.iaload, 9, 0, 0, 0, 0), some (.if_icmp .ge 39, 12, 48, 0, 0, 0), none, none, some (.aload_n 0, 13, 0, 0, 0, 0), some (.aload_n 0, 14, 0, 0, 0, 0), some (.iload_n 1, 15, 1, 0, 0, 0), some (.invokevirtual 298, 18, 191, 2, 0, 0)],
  [none, none, some (.aload_n 0, 19, 0, 0, 0, 0), some (.getfield 39, 22, 20, 2, 11, 0), none, none, some (.iconst 1, 23, 0, 0, 0, 0), some (.iaload, 24, 0, 0, 0, 0), some (.iadd, 25, 0, 0, 0, 0), some (.iload_n 2, 26, 2, 0, 0, 0), some (.isub, 27, 0, 0, 0, 0), some (.aload_n 0, 28, 0, 0, 0, 0), some (.getfield 39, 31, 20, 2, 11, 0), none, none, some (.iconst 1, 32, 0, 0, 0, 0)],
  [some (.iaload, 33, 0, 0, 0, 0), some (.irem, 34, 0, 0, 0, 0), some (.invokevirtual 301, 37, 196, 2, 0, 0), none, none, some (.ifCond .lt 5, 40, 42, 0, 0, 0), none, none, some (.iload_n 2, 41, 2, 0, 0, 0), some (.ireturn, 42, 0, 0, 1, 0), some (.iinc 2 1, 45, 2, 0, 0, 0), none, none, some (.goto (-43), 2, 0, 0, 0, 0), none, none],
  [some (.aload_n 0, 49, 0, 0, 0, 0), some (.getfield 39, 52, 20, 2, 11, 0), none, none, some (.iconst 1, 53, 0, 0, 0, 0), some (.iaload, 54, 0, 0, 0, 0), some (.ireturn, 55, 0, 0, 1, 0)]]
def zt196 : ZT := [[some (.iconst 0, 1, 0, 0, 0, 0), some (.istore_n 2, 2, 2, 0, 0, 0), some (.iload_n 2, 3, 2, 0, 0, 0), some (.bipush 6, 5, 0, 0, 0, 0), none, some (.if_icmp .ge 28, 8, 33, 0, 0, 0), none, none, some (.aload_n 0, 9, 0, 0, 0, 0), some (.iload_n 2, 10, 2, 0, 0, 0), some (.invokevirtual 295, 13, 180, 2, 0, 0), none, none, some (.ifCond .eq 14, 16, 27, 0, 0, 0), none, none],
  [some (.aload_n 0, 17, 0, 0, 0, 0), some (.iload_n 2, 18, 2, 0, 0, 0), some (.invokevirtual 298, 21, 191, 2, 0, 0), none, none, some (.iload_n 1, 22, 1, 0, 0, 0), some (.if_icmp .ne 5, 25, 27, 0, 0, 0), none, none, some (.iload_n 2, 26, 2, 0, 0, 0), some (.ireturn, 27, 0, 0, 1, 0), some (.iinc 2 1, 30, 2, 0, 0, 0), none, none, some (.goto (-28), 2, 0, 0, 0, 0), none],
  [none, some (.iconst (-1), 34, 0, 0, 0, 0), some (.ireturn, 35, 0, 0, 1, 0)]]
def zt197 : ZT := [[some (.iconst 0, 1, 0, 0, 0, 0), some (.istore_n 1, 2, 1, 0, 0, 0), some (.iconst 0, 3, 0, 0, 0, 0), some (.istore_n 2, 4, 2, 0, 0, 0), some (.iload_n 2, 5, 2, 0, 0, 0), some (.bipush 6, 7, 0, 0, 0, 0), none, some (.if_icmp .ge 25, 10, 32, 0, 0, 0), none, none, some (.iload_n 1, 11, 1, 0, 0, 0), some (.aload_n 0, 12, 0, 0, 0, 0), some (.iload_n 2, 13, 2, 0, 0, 0), some (.invokevirtual 295, 16, 180, 2, 0, 0), none, none],
  [some (.ifCond .eq 7, 19, 23, 0, 0, 0), none, none, some (.iconst 1, 20, 0, 0, 0, 0), some (.goto 4, 24, 0, 0, 0, 0), none, none, some (.iconst 0, 24, 0, 0, 0, 0), some (.iadd, 25, 0, 0, 0, 0), some (.istore_n 1, 26, 1, 0, 0, 0), some (.iinc 2 1, 29, 2, 0, 0, 0), none, none, some (.goto (-25), 4, 0, 0, 0, 0), none, none],
  [some (.iload_n 1, 33, 1, 0, 0, 0), some (.ireturn, 34, 0, 0, 1, 0)]]
def zt198 : ZT := [[some (.iconst 0, 1, 0, 0, 0, 0), some (.istore_n 2, 2, 2, 0, 0, 0), some (.iload_n 2, 3, 2, 0, 0, 0), some (.aload_n 0, 4, 0, 0, 0, 0), some (.getfield 23, 7, 6, 2, 11, 0), none, none, some (.iload_n 1, 8, 1, 0, 0, 0), some (.iaload, 9, 0, 0, 0, 0), some (.if_icmp .ge 75, 12, 84, 0, 0, 0), none, none, some (.bipush 48, 14, 0, 0, 0, 0), none, some (.iload_n 1, 15, 1, 0, 0, 0), some (.imul, 16, 0, 0, 0, 0)],
  [some (.iconst 4, 17, 0, 0, 0, 0), some (.iload_n 2, 18, 2, 0, 0, 0), some (.imul, 19, 0, 0, 0, 0), some (.iadd, 20, 0, 0, 0, 0), some (.istore_n 3, 21, 3, 0, 0, 0), some (.aload_n 0, 22, 0, 0, 0, 0), some (.getfield 20, 25, 5, 2, 11, 0), none, none, some (.iload_n 3, 26, 3, 0, 0, 0), some (.iconst 2, 27, 0, 0, 0, 0), some (.iadd, 28, 0, 0, 0, 0), some (.iaload, 29, 0, 0, 0, 0), some (.ifCond .lt 29, 32, 58, 0, 0, 0), none, none],
  [some (.aload_n 0, 33, 0, 0, 0, 0), some (.iload_n 1, 34, 1, 0, 0, 0), some (.aload_n 0, 35, 0, 0, 0, 0), some (.getfield 20, 38, 5, 2, 11, 0), none, none, some (.iload_n 3, 39, 3, 0, 0, 0), some (.iconst 2, 40, 0, 0, 0, 0), some (.iadd, 41, 0, 0, 0, 0), some (.iaload, 42, 0, 0, 0, 0), some (.aload_n 0, 43, 0, 0, 0, 0), some (.getfield 20, 46, 5, 2, 11, 0), none, none, some (.iload_n 3, 47, 3, 0, 0, 0), some (.iconst 3, 48, 0, 0, 0, 0)],
  [some (.iadd, 49, 0, 0, 0, 0), some (.iaload, 50, 0, 0, 0, 0), some (.invokevirtual 321, 53, 199, 4, 0, 0), none, none, some (.lconst 1, 54, 0, 0, 0, 1), some (.lcmp, 55, 0, 0, 0, 0), some (.ifCond .ne 23, 58, 78, 0, 0, 0), none, none, some (.aload_n 0, 59, 0, 0, 0, 0), some (.iload_n 1, 60, 1, 0, 0, 0), some (.aload_n 0, 61, 0, 0, 0, 0), some (.getfield 20, 64, 5, 2, 11, 0), none, none],
  [some (.iload_n 3, 65, 3, 0, 0, 0), some (.iaload, 66, 0, 0, 0, 0), some (.aload_n 0, 67, 0, 0, 0, 0), some (.getfield 20, 70, 5, 2, 11, 0), none, none, some (.iload_n 3, 71, 3, 0, 0, 0), some (.iconst 1, 72, 0, 0, 0, 0), some (.iadd, 73, 0, 0, 0, 0), some (.iaload, 74, 0, 0, 0, 0), some (.invokevirtual 321, 77, 199, 4, 0, 0), none, none, some (.lreturn, 78, 0, 0, 3, 0), some (.iinc 2 1, 81, 2, 0, 0, 0), none],
  [none, some (.goto (-79), 2, 0, 0, 0, 0), none, none, some (.lconst 0, 85, 0, 0, 0, 0), some (.lreturn, 86, 0, 0, 3, 0)]]
def zt199 : ZT := [[some (.aload_n 0, 1, 0, 0, 0, 0), some (.iconst 0, 2, 0, 0, 0, 0), some (.putfield 272, 5, 18, 0, 11, 0), none, none, some (.iload_n 2, 6, 2, 0, 0, 0), some (.istore 4, 8, 4, 0, 0, 0), none, some (.iload 4, 10, 4, 0, 0, 0), none, some (.iload_n 3, 11, 3, 0, 0, 0), some (.if_icmp .ge 124, 14, 135, 0, 0, 0), none, none, some (.aload_n 0, 15, 0, 0, 0, 0), some (.getfield 13, 18, 3, 2, 11, 0)],
  [none, none, some (.sipush 400, 21, 0, 0, 0, 0), none, none, some (.iload_n 1, 22, 1, 0, 0, 0), some (.imul, 23, 0, 0, 0, 0), some (.iload 4, 25, 4, 0, 0, 0), none, some (.iadd, 26, 0, 0, 0, 0), some (.iaload, 27, 0, 0, 0, 0), some (.bipush 15, 29, 0, 0, 0, 0), none, some (.iand, 30, 0, 0, 0, 0), some (.istore 5, 32, 5, 0, 0, 0), none],
  [some (.aload_n 0, 33, 0, 0, 0, 0), some (.getfield 13, 36, 3, 2, 11, 0), none, none, some (.sipush 400, 39, 0, 0, 0, 0), none, none, some (.iload_n 1, 40, 1, 0, 0, 0), some (.imul, 41, 0, 0, 0, 0), some (.iload 4, 43, 4, 0, 0, 0), none, some (.iadd, 44, 0, 0, 0, 0), some (.iaload, 45, 0, 0, 0, 0), some (.iconst 4, 46, 0, 0, 0, 0), some (.ishr, 47, 0, 0, 0, 0), some (.istore 6, 49, 6, 0, 0, 0)],
  [none, some (.iload 5, 51, 5, 0, 0, 0), none, some (.ifCond .ne 13, 54, 64, 0, 0, 0), none, none, some (.aload_n 0, 55, 0, 0, 0, 0), some (.iload 6, 57, 6, 0, 0, 0), none, some (.i2l, 58, 0, 0, 0, 0), some (.invokevirtual 275, 61, 200, 2, 0, 0), none, none, some (.goto 68, 129, 0, 0, 0, 0), none, none],
  [some (.iload 5, 66, 5, 0, 0, 0), none, some (.iconst 1, 67, 0, 0, 0, 0), some (.if_icmp .ne 17, 70, 84, 0, 0, 0), none, none, some (.aload_n 0, 71, 0, 0, 0, 0), some (.aload_n 0, 72, 0, 0, 0, 0), some (.getfield 36, 75, 19, 2, 11, 0), none, none, some (.iload 6, 77, 6, 0, 0, 0), none, some (.laload, 78, 0, 0, 0, 0), some (.invokevirtual 275, 81, 200, 2, 0, 0), none],
  [none, some (.goto 48, 129, 0, 0, 0, 0), none, none, some (.iload 5, 86, 5, 0, 0, 0), none, some (.bipush 11, 88, 0, 0, 0, 0), none, some (.if_icmp .ne 16, 91, 104, 0, 0, 0), none, none, some (.aload_n 0, 92, 0, 0, 0, 0), some (.lconst 1, 93, 0, 0, 0, 1), some (.aload_n 0, 94, 0, 0, 0, 0), some (.invokevirtual 279, 97, 201, 1, 0, 0), none],
  [none, some (.lsub, 98, 0, 0, 0, 0), some (.invokevirtual 275, 101, 200, 2, 0, 0), none, none, some (.goto 28, 129, 0, 0, 0, 0), none, none, some (.aload_n 0, 105, 0, 0, 0, 0), some (.invokevirtual 279, 108, 201, 1, 0, 0), none, none, some (.lstore 7, 110, 7, 0, 0, 0), none, some (.aload_n 0, 111, 0, 0, 0, 0), some (.invokevirtual 279, 114, 201, 1, 0, 0)],
  [none, none, some (.lstore 9, 116, 9, 0, 0, 0), none, some (.aload_n 0, 117, 0, 0, 0, 0), some (.iload 5, 119, 5, 0, 0, 0), none, some (.lload 9, 121, 9, 0, 0, 0), none, some (.lload 7, 123, 7, 0, 0, 0), none, some (.invokestatic 283, 126, 202, 3, 0, 0), none, none, some (.invokevirtual 275, 129, 200, 2, 0, 0), none],
  [none, some (.iinc 4 1, 132, 4, 0, 0, 0), none, none, some (.goto (-124), 8, 0, 0, 0, 0), none, none, some (.aload_n 0, 136, 0, 0, 0, 0), some (.invokevirtual 279, 139, 201, 1, 0, 0), none, none, some (.lreturn, 140, 0, 0, 3, 0)]]
def zt200 : ZT := [[some (.aload_n 0, 1, 0, 0, 0, 0), some (.getfield 32, 4, 17, 2, 11, 0), none, none, some (.aload_n 0, 5, 0, 0, 0, 0), some (.getfield 272, 8, 18, 0, 11, 0), none, none, some (.lload_n 1, 9, 1, 0, 0, 0), some (.lastore, 10, 0, 0, 0, 0), some (.aload_n 0, 11, 0, 0, 0, 0), some (.dup, 12, 0, 0, 0, 0), some (.getfield 272, 15, 18, 0, 11, 0), none, none, some (.iconst 1, 16, 0, 0, 0, 0)],
  [some (.iadd, 17, 0, 0, 0, 0), some (.putfield 272, 20, 18, 0, 11, 0), none, none, some (.return_, 21, 0, 0, 0, 0)]]
def zt201 : ZT := [[some (.aload_n 0, 1, 0, 0, 0, 0), some (.dup, 2, 0, 0, 0, 0), some (.getfield 272, 5, 18, 0, 11, 0), none, none, some (.iconst 1, 6, 0, 0, 0, 0), some (.isub, 7, 0, 0, 0, 0), some (.putfield 272, 10, 18, 0, 11, 0), none, none, some (.aload_n 0, 11, 0, 0, 0, 0), some (.getfield 32, 14, 17, 2, 11, 0), none, none, some (.aload_n 0, 15, 0, 0, 0, 0), some (.getfield 272, 18, 18, 0, 11, 0)],
  [none, none, some (.laload, 19, 0, 0, 0, 0), some (.lreturn, 20, 0, 0, 3, 0)]]
def zt202 : ZT := [[some (.iload_n 0, 1, 0, 0, 0, 0), some (.tableswitch 171 2 14 #[67, 71, 75, 79, 107, 119, 131, 143, 155, 171, 167, 171, 93], 68, 0, 0, 0, 0), none, none, none, none, none, none, none, none, none, none, none, none, none, none],
  [none, none, none, none, none, none, none, none, none, none, none, none, none, none, none, none],
  [none, none, none, none, none, none, none, none, none, none, none, none, none, none, none, none],
  [none, none, none, none, none, none, none, none, none, none, none, none, none, none, none, none],
  [none, none, none, none, some (.lload_n 1, 69, 1, 0, 0, 0), some (.lload_n 3, 70, 3, 0, 0, 0), some (.ladd, 71, 0, 0, 0, 0), some (.lreturn, 72, 0, 0, 3, 0), some (.lload_n 1, 73, 1, 0, 0, 0), some (.lload_n 3, 74, 3, 0, 0, 0), some (.lsub, 75, 0, 0, 0, 0), some (.lreturn, 76, 0, 0, 3, 0), some (.lload_n 1, 77, 1, 0, 0, 0), some (.lload_n 3, 78, 3, 0, 0, 0), some (.lmul, 79, 0, 0, 0, 0), some (.lreturn, 80, 0, 0, 3, 0)],
  [some (.lload_n 3, 81, 3, 0, 0, 0), some (.lconst 0, 82, 0, 0, 0, 0), some (.lcmp, 83, 0, 0, 0, 0), some (.ifCond .ne 7, 86, 90, 0, 0, 0), none, none, some (.lconst 0, 87, 0, 0, 0, 0), some (.goto 6, 93, 0, 0, 0, 0), none, none, some (.lload_n 1, 91, 1, 0, 0, 0), some (.lload_n 3, 92, 3, 0, 0, 0), some (.ldiv, 93, 0, 0, 0, 0), some (.lreturn, 94, 0, 0, 3, 0), some (.lload_n 3, 95, 3, 0, 0, 0), some (.lconst 0, 96, 0, 0, 0, 0)],
  [some (.lcmp, 97, 0, 0, 0, 0), some (.ifCond .ne 7, 100, 104, 0, 0, 0), none, none, some (.lconst 0, 101, 0, 0, 0, 0), some (.goto 6, 107, 0, 0, 0, 0), none, none, some (.lload_n 1, 105, 1, 0, 0, 0), some (.lload_n 3, 106, 3, 0, 0, 0), some (.lrem, 107, 0, 0, 0, 0), some (.lreturn, 108, 0, 0, 3, 0), some (.lload_n 1, 109, 1, 0, 0, 0), some (.lload_n 3, 110, 3, 0, 0, 0), some (.lcmp, 111, 0, 0, 0, 0), some (.ifCond .ge 7, 114, 118, 0, 0, 0)],
  [none, none, some (.lconst 1, 115, 0, 0, 0, 1), some (.goto 4, 119, 0, 0, 0, 0), none, none, some (.lconst 0, 119, 0, 0, 0, 0), some (.lreturn, 120, 0, 0, 3, 0), some (.lload_n 1, 121, 1, 0, 0, 0), some (.lload_n 3, 122, 3, 0, 0, 0), some (.lcmp, 123, 0, 0, 0, 0), some (.ifCond .gt 7, 126, 130, 0, 0, 0), none, none, some (.lconst 1, 127, 0, 0, 0, 1), some (.goto 4, 131, 0, 0, 0, 0)],
  [none, none, some (.lconst 0, 131, 0, 0, 0, 0), some (.lreturn, 132, 0, 0, 3, 0), some (.lload_n 1, 133, 1, 0, 0, 0), some (.lload_n 3, 134, 3, 0, 0, 0), some (.lcmp, 135, 0, 0, 0, 0), some (.ifCond .ne 7, 138, 142, 0, 0, 0), none, none, some (.lconst 1, 139, 0, 0, 0, 1), some (.goto 4, 143, 0, 0, 0, 0), none, none, some (.lconst 0, 143, 0, 0, 0, 0), some (.lreturn, 144, 0, 0, 3, 0)],
  [some (.lload_n 1, 145, 1, 0, 0, 0), some (.lload_n 3, 146, 3, 0, 0, 0), some (.lcmp, 147, 0, 0, 0, 0), some (.ifCond .lt 7, 150, 154, 0, 0, 0), none, none, some (.lconst 1, 151, 0, 0, 0, 1), some (.goto 4, 155, 0, 0, 0, 0), none, none, some (.lconst 0, 155, 0, 0, 0, 0), some (.lreturn, 156, 0, 0, 3, 0), some (.lload_n 1, 157, 1, 0, 0, 0), some (.lload_n 3, 158, 3, 0, 0, 0), some (.lcmp, 159, 0, 0, 0, 0), some (.ifCond .le 7, 162, 166, 0, 0, 0)],
  [none, none, some (.lconst 1, 163, 0, 0, 0, 1), some (.goto 4, 167, 0, 0, 0, 0), none, none, some (.lconst 0, 167, 0, 0, 0, 0), some (.lreturn, 168, 0, 0, 3, 0), some (.lload_n 1, 169, 1, 0, 0, 0), some (.lload_n 3, 170, 3, 0, 0, 0), some (.land, 171, 0, 0, 0, 0), some (.lreturn, 172, 0, 0, 3, 0), some (.lload_n 1, 173, 1, 0, 0, 0), some (.lload_n 3, 174, 3, 0, 0, 0), some (.lor, 175, 0, 0, 0, 0), some (.lreturn, 176, 0, 0, 3, 0)]]
def zt203 : ZT := [[some (.aload_n 0, 1, 0, 0, 0, 0), some (.iload_n 1, 2, 1, 0, 0, 0), some (.iconst 0, 3, 0, 0, 0, 0), some (.iconst 0, 4, 0, 0, 0, 0), some (.iconst 0, 5, 0, 0, 0, 0), some (.iconst 0, 6, 0, 0, 0, 0), some (.invokevirtual 304, 9, 174, 6, 0, 0), none, none, some (.aload_n 0, 10, 0, 0, 0, 0), some (.getfield 39, 13, 20, 2, 11, 0), none, none, some (.bipush 11, 15, 0, 0, 0, 0), none, some (.dup2, 16, 0, 0, 0, 0)],
  [some (.iaload, 17, 0, 0, 0, 0), some (.iconst 1, 18, 0, 0, 0, 0), some (.iadd, 19, 0, 0, 0, 0), some (.iastore, 20, 0, 0, 0, 0), some (.return_, 21, 0, 0, 0, 0)]]
def zt204 : ZT := [[some (.aload_n 0, 1, 0, 0, 0, 0), some (.getfield 39, 4, 20, 2, 11, 0), none, none, some (.bipush 47, 6, 0, 0, 0, 0), none, some (.iload_n 1, 7, 1, 0, 0, 0), some (.iadd, 8, 0, 0, 0, 0), some (.iaload, 9, 0, 0, 0, 0), some (.ifCond .ne 15, 12, 24, 0, 0, 0), none, none, some (.aload_n 0, 13, 0, 0, 0, 0), some (.iload_n 1, 14, 1, 0, 0, 0), some (.invokevirtual 301, 17, 196, 2, 0, 0), none],
  [none, some (.ifCond .ge 7, 20, 24, 0, 0, 0), none, none, some (.iconst 1, 21, 0, 0, 0, 0), some (.goto 4, 25, 0, 0, 0, 0), none, none, some (.iconst 0, 25, 0, 0, 0, 0), some (.ireturn, 26, 0, 0, 2, 0)]]
def zt205 : ZT := [[some (.aload_n 0, 1, 0, 0, 0, 0), some (.getfield 39, 4, 20, 2, 11, 0), none, none, some (.bipush 42, 6, 0, 0, 0, 0), none, some (.iload_n 1, 7, 1, 0, 0, 0), some (.iadd, 8, 0, 0, 0, 0), some (.iaload, 9, 0, 0, 0, 0), some (.bipush 99, 11, 0, 0, 0, 0), none, some (.if_icmp .ge 16, 14, 27, 0, 0, 0), none, none, some (.aload_n 0, 15, 0, 0, 0, 0), some (.getfield 39, 18, 20, 2, 11, 0)],
  [none, none, some (.bipush 42, 20, 0, 0, 0, 0), none, some (.iload_n 1, 21, 1, 0, 0, 0), some (.iadd, 22, 0, 0, 0, 0), some (.dup2, 23, 0, 0, 0, 0), some (.iaload, 24, 0, 0, 0, 0), some (.iconst 1, 25, 0, 0, 0, 0), some (.iadd, 26, 0, 0, 0, 0), some (.iastore, 27, 0, 0, 0, 0), some (.return_, 28, 0, 0, 0, 0)]]
def zt206 : ZT := [[some (.aload_n 0, 1, 0, 0, 0, 0), some (.getfield 39, 4, 20, 2, 11, 0), none, none, some (.bipush 42, 6, 0, 0, 0, 0), none, some (.iload_n 1, 7, 1, 0, 0, 0), some (.iadd, 8, 0, 0, 0, 0), some (.iaload, 9, 0, 0, 0, 0), some (.ifCond .eq 28, 12, 37, 0, 0, 0), none, none, some (.aload_n 0, 13, 0, 0, 0, 0), some (.aload_n 0, 14, 0, 0, 0, 0), some (.getfield 39, 17, 20, 2, 11, 0), none],
  [none, some (.bipush 67, 19, 0, 0, 0, 0), none, some (.iload_n 1, 20, 1, 0, 0, 0), some (.iadd, 21, 0, 0, 0, 0), some (.iaload, 22, 0, 0, 0, 0), some (.invokevirtual 354, 25, 204, 2, 0, 0), none, none, some (.ifCond .eq 12, 28, 37, 0, 0, 0), none, none, some (.aload_n 0, 29, 0, 0, 0, 0), some (.invokevirtual 337, 32, 197, 1, 0, 0), none, none],
  [some (.bipush 6, 34, 0, 0, 0, 0), none, some (.if_icmp .ne 4, 37, 38, 0, 0, 0), none, none, some (.return_, 38, 0, 0, 0, 0), some (.iconst 0, 39, 0, 0, 0, 0), some (.istore_n 2, 40, 2, 0, 0, 0), some (.aload_n 0, 41, 0, 0, 0, 0), some (.iload_n 2, 42, 2, 0, 0, 0), some (.invokevirtual 295, 45, 180, 2, 0, 0), none, none, some (.ifCond .eq 9, 48, 54, 0, 0, 0), none, none],
  [some (.iinc 2 1, 51, 2, 0, 0, 0), none, none, some (.goto (-11), 40, 0, 0, 0, 0), none, none, some (.aload_n 0, 55, 0, 0, 0, 0), some (.iload_n 2, 56, 2, 0, 0, 0), some (.iconst 1, 57, 0, 0, 0, 0), some (.aload_n 0, 58, 0, 0, 0, 0), some (.getfield 39, 61, 20, 2, 11, 0), none, none, some (.bipush 67, 63, 0, 0, 0, 0), none, some (.iload_n 1, 64, 1, 0, 0, 0)],
  [some (.iadd, 65, 0, 0, 0, 0), some (.iaload, 66, 0, 0, 0, 0), some (.iload_n 1, 67, 1, 0, 0, 0), some (.iconst 1, 68, 0, 0, 0, 0), some (.iadd, 69, 0, 0, 0, 0), some (.aload_n 0, 70, 0, 0, 0, 0), some (.getfield 39, 73, 20, 2, 11, 0), none, none, some (.iconst 2, 74, 0, 0, 0, 0), some (.iaload, 75, 0, 0, 0, 0), some (.irem, 76, 0, 0, 0, 0), some (.bipush 20, 78, 0, 0, 0, 0), none, some (.invokevirtual 304, 81, 174, 6, 0, 0), none],
  [none, some (.aload_n 0, 82, 0, 0, 0, 0), some (.getfield 39, 85, 20, 2, 11, 0), none, none, some (.bipush 42, 87, 0, 0, 0, 0), none, some (.iload_n 1, 88, 1, 0, 0, 0), some (.iadd, 89, 0, 0, 0, 0), some (.dup2, 90, 0, 0, 0, 0), some (.iaload, 91, 0, 0, 0, 0), some (.iconst 1, 92, 0, 0, 0, 0), some (.isub, 93, 0, 0, 0, 0), some (.iastore, 94, 0, 0, 0, 0), some (.aload_n 0, 95, 0, 0, 0, 0), some (.iconst 1, 96, 0, 0, 0, 0)],
  [some (.putfield 350, 99, 25, 3, 11, 0), none, none, some (.return_, 100, 0, 0, 0, 0)]]
def zt207 : ZT := [[some (.aload_n 0, 1, 0, 0, 0, 0), some (.iload_n 1, 2, 1, 0, 0, 0), some (.invokevirtual 372, 5, 208, 2, 0, 0), none, none, some (.ifCond .eq 15, 8, 20, 0, 0, 0), none, none, some (.iload_n 2, 9, 2, 0, 0, 0), some (.i2l, 10, 0, 0, 0, 0), some (.lconst 1, 11, 0, 0, 0, 1), some (.ldc2_w 375, 14, 0, 0, 0, 20), none, none, some (.invokestatic 121, 17, 150, 3, 0, 0), none],
  [none, some (.ifCond .ne 5, 20, 22, 0, 0, 0), none, none, some (.iconst (-1), 21, 0, 0, 0, 0), some (.ireturn, 22, 0, 0, 1, 0), some (.aload_n 0, 23, 0, 0, 0, 0), some (.invokevirtual 369, 26, 187, 1, 0, 0), none, none, some (.aload_n 0, 27, 0, 0, 0, 0), some (.iload_n 1, 28, 1, 0, 0, 0), some (.invokevirtual 331, 31, 189, 2, 0, 0), none, none, some (.iload_n 2, 32, 2, 0, 0, 0)],
  [some (.iadd, 33, 0, 0, 0, 0), some (.istore_n 3, 34, 3, 0, 0, 0), some (.aload_n 0, 35, 0, 0, 0, 0), some (.getfield 39, 38, 20, 2, 11, 0), none, none, some (.bipush 12, 40, 0, 0, 0, 0), none, some (.iconst 5, 41, 0, 0, 0, 0), some (.iload_n 1, 42, 1, 0, 0, 0), some (.imul, 43, 0, 0, 0, 0), some (.iadd, 44, 0, 0, 0, 0), some (.iconst 3, 45, 0, 0, 0, 0), some (.iadd, 46, 0, 0, 0, 0), some (.iload_n 3, 47, 3, 0, 0, 0), some (.bipush 99, 49, 0, 0, 0, 0)],
  [none, some (.if_icmp .le 8, 52, 57, 0, 0, 0), none, none, some (.bipush 99, 54, 0, 0, 0, 0), none, some (.goto 4, 58, 0, 0, 0, 0), none, none, some (.iload_n 3, 58, 3, 0, 0, 0), some (.iastore, 59, 0, 0, 0, 0), some (.aload_n 0, 60, 0, 0, 0, 0), some (.iload_n 1, 61, 1, 0, 0, 0), some (.invokevirtual 331, 64, 189, 2, 0, 0), none, none],
  [some (.ireturn, 65, 0, 0, 1, 0)]]
def zt208 : ZT := [[some (.aload_n 0, 1, 0, 0, 0, 0), some (.iload_n 1, 2, 1, 0, 0, 0), some (.invokevirtual 292, 5, 178, 2, 0, 0), none, none, some (.ifCond .eq 15, 8, 20, 0, 0, 0), none, none, some (.aload_n 0, 9, 0, 0, 0, 0), some (.iload_n 1, 10, 1, 0, 0, 0), some (.invokevirtual 295, 13, 180, 2, 0, 0), none, none, some (.ifCond .eq 7, 16, 20, 0, 0, 0), none, none],
  [some (.iconst 1, 17, 0, 0, 0, 0), some (.goto 4, 21, 0, 0, 0, 0), none, none, some (.iconst 0, 21, 0, 0, 0, 0), some (.ireturn, 22, 0, 0, 2, 0)]]
def zt209 : ZT := [[some (.aload_n 0, 1, 0, 0, 0, 0), some (.iload_n 1, 2, 1, 0, 0, 0), some (.invokevirtual 372, 5, 208, 2, 0, 0), none, none, some (.ifCond .ne 5, 8, 10, 0, 0, 0), none, none, some (.iconst (-1), 9, 0, 0, 0, 0), some (.ireturn, 10, 0, 0, 1, 0), some (.aload_n 0, 11, 0, 0, 0, 0), some (.invokevirtual 369, 14, 187, 1, 0, 0), none, none, some (.aload_n 0, 15, 0, 0, 0, 0), some (.iload_n 1, 16, 1, 0, 0, 0)],
  [some (.invokevirtual 298, 19, 191, 2, 0, 0), none, none, some (.istore_n 2, 20, 2, 0, 0, 0), some (.aload_n 0, 21, 0, 0, 0, 0), some (.iload_n 1, 22, 1, 0, 0, 0), some (.invokevirtual 377, 25, 210, 2, 0, 0), none, none, some (.iload_n 2, 26, 2, 0, 0, 0), some (.ireturn, 27, 0, 0, 1, 0)]]
def zt210 : ZT := [[some (.aload_n 0, 1, 0, 0, 0, 0), some (.getfield 39, 4, 20, 2, 11, 0), none, none, some (.bipush 47, 6, 0, 0, 0, 0), none, some (.aload_n 0, 7, 0, 0, 0, 0), some (.iload_n 1, 8, 1, 0, 0, 0), some (.invokevirtual 298, 11, 191, 2, 0, 0), none, none, some (.iadd, 12, 0, 0, 0, 0), some (.iconst 1, 13, 0, 0, 0, 0), some (.iastore, 14, 0, 0, 0, 0), some (.aload_n 0, 15, 0, 0, 0, 0), some (.iload_n 1, 16, 1, 0, 0, 0)],
  [some (.invokevirtual 347, 19, 203, 2, 0, 0), none, none, some (.return_, 20, 0, 0, 0, 0)]]
def zt211 : ZT := [[some (.aload_n 0, 1, 0, 0, 0, 0), some (.iload_n 1, 2, 1, 0, 0, 0), some (.invokevirtual 318, 5, 184, 2, 0, 0), none, none, some (.ifCond .eq 15, 8, 20, 0, 0, 0), none, none, some (.aload_n 0, 9, 0, 0, 0, 0), some (.getfield 39, 12, 20, 2, 11, 0), none, none, some (.bipush 47, 14, 0, 0, 0, 0), none, some (.iload_n 1, 15, 1, 0, 0, 0), some (.iadd, 16, 0, 0, 0, 0)],
  [some (.iaload, 17, 0, 0, 0, 0), some (.ifCond .ne 5, 20, 22, 0, 0, 0), none, none, some (.iconst (-1), 21, 0, 0, 0, 0), some (.ireturn, 22, 0, 0, 1, 0), some (.aload_n 0, 23, 0, 0, 0, 0), some (.invokevirtual 369, 26, 187, 1, 0, 0), none, none, some (.aload_n 0, 27, 0, 0, 0, 0), some (.getfield 39, 30, 20, 2, 11, 0), none, none, some (.bipush 47, 32, 0, 0, 0, 0), none],
  [some (.iload_n 1, 33, 1, 0, 0, 0), some (.iadd, 34, 0, 0, 0, 0), some (.iconst 0, 35, 0, 0, 0, 0), some (.iastore, 36, 0, 0, 0, 0), some (.aload_n 0, 37, 0, 0, 0, 0), some (.invokevirtual 380, 40, 212, 1, 0, 0), none, none, some (.ireturn, 41, 0, 0, 1, 0)]]
def zt212 : ZT := [[some (.iconst 0, 1, 0, 0, 0, 0), some (.istore_n 1, 2, 1, 0, 0, 0), some (.iconst 0, 3, 0, 0, 0, 0), some (.istore_n 2, 4, 2, 0, 0, 0), some (.iload_n 2, 5, 2, 0, 0, 0), some (.bipush 20, 7, 0, 0, 0, 0), none, some (.if_icmp .ge 21, 10, 28, 0, 0, 0), none, none, some (.iload_n 1, 11, 1, 0, 0, 0), some (.aload_n 0, 12, 0, 0, 0, 0), some (.getfield 39, 15, 20, 2, 11, 0), none, none, some (.bipush 47, 17, 0, 0, 0, 0)],
  [none, some (.iload_n 2, 18, 2, 0, 0, 0), some (.iadd, 19, 0, 0, 0, 0), some (.iaload, 20, 0, 0, 0, 0), some (.iadd, 21, 0, 0, 0, 0), some (.istore_n 1, 22, 1, 0, 0, 0), some (.iinc 2 1, 25, 2, 0, 0, 0), none, none, some (.goto (-21), 4, 0, 0, 0, 0), none, none, some (.iload_n 1, 29, 1, 0, 0, 0), some (.ireturn, 30, 0, 0, 1, 0)]]
def zt213 : ZT := [[some (.aload_n 0, 1, 0, 0, 0, 0), some (.iload_n 1, 2, 1, 0, 0, 0), some (.invokevirtual 372, 5, 208, 2, 0, 0), none, none, some (.ifCond .eq 20, 8, 25, 0, 0, 0), none, none, some (.aload_n 0, 9, 0, 0, 0, 0), some (.iload_n 2, 10, 2, 0, 0, 0), some (.invokevirtual 313, 13, 182, 2, 0, 0), none, none, some (.ifCond .eq 12, 16, 25, 0, 0, 0), none, none],
  [some (.aload_n 0, 17, 0, 0, 0, 0), some (.iload_n 1, 18, 1, 0, 0, 0), some (.invokevirtual 328, 21, 192, 2, 0, 0), none, none, some (.iload_n 2, 22, 2, 0, 0, 0), some (.if_icmp .ne 5, 25, 27, 0, 0, 0), none, none, some (.iconst (-1), 26, 0, 0, 0, 0), some (.ireturn, 27, 0, 0, 1, 0), some (.aload_n 0, 28, 0, 0, 0, 0), some (.invokevirtual 369, 31, 187, 1, 0, 0), none, none, some (.aload_n 0, 32, 0, 0, 0, 0)],
  [some (.iload_n 1, 33, 1, 0, 0, 0), some (.invokevirtual 328, 36, 192, 2, 0, 0), none, none, some (.istore_n 3, 37, 3, 0, 0, 0), some (.aload_n 0, 38, 0, 0, 0, 0), some (.getfield 39, 41, 20, 2, 11, 0), none, none, some (.bipush 12, 43, 0, 0, 0, 0), none, some (.iconst 5, 44, 0, 0, 0, 0), some (.iload_n 1, 45, 1, 0, 0, 0), some (.imul, 46, 0, 0, 0, 0), some (.iadd, 47, 0, 0, 0, 0), some (.iconst 2, 48, 0, 0, 0, 0)],
  [some (.iadd, 49, 0, 0, 0, 0), some (.iload_n 2, 50, 2, 0, 0, 0), some (.iastore, 51, 0, 0, 0, 0), some (.iload_n 3, 52, 3, 0, 0, 0), some (.ireturn, 53, 0, 0, 1, 0)]]
def zt214 : ZT := [[some (.aload_n 0, 1, 0, 0, 0, 0), some (.invokevirtual 287, 4, 179, 1, 0, 0), none, none, some (.ifCond .eq 40, 7, 44, 0, 0, 0), none, none, some (.iload_n 2, 8, 2, 0, 0, 0), some (.i2l, 9, 0, 0, 0, 0), some (.lconst 0, 10, 0, 0, 0, 0), some (.ldc2_w 383, 13, 0, 0, 0, 100), none, none, some (.invokestatic 121, 16, 150, 3, 0, 0), none, none],
  [some (.ifCond .eq 28, 19, 44, 0, 0, 0), none, none, some (.iload_n 3, 20, 3, 0, 0, 0), some (.i2l, 21, 0, 0, 0, 0), some (.lconst 0, 22, 0, 0, 0, 0), some (.ldc2_w 316, 25, 0, 0, 0, 2), none, none, some (.invokestatic 121, 28, 150, 3, 0, 0), none, none, some (.ifCond .eq 16, 31, 44, 0, 0, 0), none, none, some (.iload_n 3, 32, 3, 0, 0, 0)],
  [some (.iconst 2, 33, 0, 0, 0, 0), some (.if_icmp .ge 14, 36, 47, 0, 0, 0), none, none, some (.aload_n 0, 37, 0, 0, 0, 0), some (.iload_n 1, 38, 1, 0, 0, 0), some (.invokevirtual 292, 41, 178, 2, 0, 0), none, none, some (.ifCond .ne 6, 44, 47, 0, 0, 0), none, none, some (.bipush (-2), 46, 0, 0, 0, 0), none, some (.ireturn, 47, 0, 0, 1, 0), some (.aload_n 0, 48, 0, 0, 0, 0)],
  [some (.invokevirtual 385, 51, 215, 1, 0, 0), none, none, some (.aload_n 0, 52, 0, 0, 0, 0), some (.iload_n 2, 53, 2, 0, 0, 0), some (.invokevirtual 388, 56, 216, 2, 0, 0), none, none, some (.iload_n 3, 57, 3, 0, 0, 0), some (.iconst 2, 58, 0, 0, 0, 0), some (.if_icmp .ne 13, 61, 71, 0, 0, 0), none, none, some (.aload_n 0, 62, 0, 0, 0, 0), some (.getfield 39, 65, 20, 2, 11, 0), none],
  [none, some (.bipush 11, 67, 0, 0, 0, 0), none, some (.iaload, 68, 0, 0, 0, 0), some (.goto 11, 79, 0, 0, 0, 0), none, none, some (.aload_n 0, 72, 0, 0, 0, 0), some (.iload_n 1, 73, 1, 0, 0, 0), some (.iconst 2, 74, 0, 0, 0, 0), some (.iload_n 3, 75, 3, 0, 0, 0), some (.imul, 76, 0, 0, 0, 0), some (.invokevirtual 391, 79, 177, 3, 0, 0), none, none, some (.istore 4, 81, 4, 0, 0, 0)],
  [none, some (.aload_n 0, 82, 0, 0, 0, 0), some (.invokevirtual 395, 85, 217, 1, 0, 0), none, none, some (.iload 4, 87, 4, 0, 0, 0), none, some (.ireturn, 88, 0, 0, 1, 0)]]
def zt215 : ZT := [[some (.iconst 0, 1, 0, 0, 0, 0), some (.istore_n 1, 2, 1, 0, 0, 0), some (.iload_n 1, 3, 1, 0, 0, 0), some (.bipush 57, 5, 0, 0, 0, 0), none, some (.if_icmp .ge 24, 8, 29, 0, 0, 0), none, none, some (.aload_n 0, 9, 0, 0, 0, 0), some (.getfield 55, 12, 28, 2, 11, 0), none, none, some (.iload_n 1, 13, 1, 0, 0, 0), some (.aload_n 0, 14, 0, 0, 0, 0), some (.getfield 39, 17, 20, 2, 11, 0), none],
  [none, some (.bipush 10, 19, 0, 0, 0, 0), none, some (.iload_n 1, 20, 1, 0, 0, 0), some (.iadd, 21, 0, 0, 0, 0), some (.iaload, 22, 0, 0, 0, 0), some (.iastore, 23, 0, 0, 0, 0), some (.iinc 1 1, 26, 1, 0, 0, 0), none, none, some (.goto (-24), 2, 0, 0, 0, 0), none, none, some (.return_, 30, 0, 0, 0, 0)]]
def zt216 : ZT := [[some (.iconst 0, 1, 0, 0, 0, 0), some (.istore_n 2, 2, 2, 0, 0, 0), some (.iload_n 2, 3, 2, 0, 0, 0), some (.iload_n 1, 4, 1, 0, 0, 0), some (.if_icmp .ge 14, 7, 18, 0, 0, 0), none, none, some (.aload_n 0, 8, 0, 0, 0, 0), some (.invokevirtual 366, 11, 188, 1, 0, 0), none, none, some (.pop, 12, 0, 0, 0, 0), some (.iinc 2 1, 15, 2, 0, 0, 0), none, none, some (.goto (-13), 2, 0, 0, 0, 0)],
  [none, none, some (.return_, 19, 0, 0, 0, 0)]]
def zt217 : ZT := [[some (.iconst 0, 1, 0, 0, 0, 0), some (.istore_n 1, 2, 1, 0, 0, 0), some (.iload_n 1, 3, 1, 0, 0, 0), some (.bipush 57, 5, 0, 0, 0, 0), none, some (.if_icmp .ge 24, 8, 29, 0, 0, 0), none, none, some (.aload_n 0, 9, 0, 0, 0, 0), some (.getfield 39, 12, 20, 2, 11, 0), none, none, some (.bipush 10, 14, 0, 0, 0, 0), none, some (.iload_n 1, 15, 1, 0, 0, 0), some (.iadd, 16, 0, 0, 0, 0)],
  [some (.aload_n 0, 17, 0, 0, 0, 0), some (.getfield 55, 20, 28, 2, 11, 0), none, none, some (.iload_n 1, 21, 1, 0, 0, 0), some (.iaload, 22, 0, 0, 0, 0), some (.iastore, 23, 0, 0, 0, 0), some (.iinc 1 1, 26, 1, 0, 0, 0), none, none, some (.goto (-24), 2, 0, 0, 0, 0), none, none, some (.return_, 30, 0, 0, 0, 0)]]
def zt218 : ZT := [[some (.aload_n 0, 1, 0, 0, 0, 0), some (.iload_n 1, 2, 1, 0, 0, 0), some (.invokevirtual 372, 5, 208, 2, 0, 0), none, none, some (.ifCond .ne 5, 8, 10, 0, 0, 0), none, none, some (.iconst (-1), 9, 0, 0, 0, 0), some (.ireturn, 10, 0, 0, 1, 0), some (.bipush (-2), 12, 0, 0, 0, 0), none, some (.istore_n 2, 13, 2, 0, 0, 0), some (.aload_n 0, 14, 0, 0, 0, 0), some (.invokevirtual 385, 17, 215, 1, 0, 0), none],
  [none, some (.iconst 0, 18, 0, 0, 0, 0), some (.istore_n 3, 19, 3, 0, 0, 0), some (.iload_n 3, 20, 3, 0, 0, 0), some (.sipush 200, 23, 0, 0, 0, 0), none, none, some (.if_icmp .ge 34, 26, 57, 0, 0, 0), none, none, some (.iload_n 2, 27, 2, 0, 0, 0), some (.ifCond .ge 30, 30, 57, 0, 0, 0), none, none, some (.aload_n 0, 31, 0, 0, 0, 0), some (.invokevirtual 366, 34, 188, 1, 0, 0)],
  [none, none, some (.iload_n 1, 35, 1, 0, 0, 0), some (.invokestatic 325, 38, 194, 2, 0, 0), none, none, some (.ifCond .eq 13, 41, 51, 0, 0, 0), none, none, some (.aload_n 0, 42, 0, 0, 0, 0), some (.getfield 39, 45, 20, 2, 11, 0), none, none, some (.bipush 10, 47, 0, 0, 0, 0), none, some (.iaload, 48, 0, 0, 0, 0)],
  [some (.iconst 1, 49, 0, 0, 0, 0), some (.isub, 50, 0, 0, 0, 0), some (.istore_n 2, 51, 2, 0, 0, 0), some (.iinc 3 1, 54, 3, 0, 0, 0), none, none, some (.goto (-35), 19, 0, 0, 0, 0), none, none, some (.aload_n 0, 58, 0, 0, 0, 0), some (.invokevirtual 395, 61, 217, 1, 0, 0), none, none, some (.iload_n 2, 62, 2, 0, 0, 0), some (.ireturn, 63, 0, 0, 1, 0)]]
def zt219 : ZT := [[some (.aload_n 0, 1, 0, 0, 0, 0), some (.invokevirtual 287, 4, 179, 1, 0, 0), none, none, some (.ifCond .ne 5, 7, 9, 0, 0, 0), none, none, some (.iconst (-1), 8, 0, 0, 0, 0), some (.ireturn, 9, 0, 0, 1, 0), some (.bipush (-2), 11, 0, 0, 0, 0), none, some (.istore_n 1, 12, 1, 0, 0, 0), some (.aload_n 0, 13, 0, 0, 0, 0), some (.invokevirtual 385, 16, 215, 1, 0, 0), none, none],
  [some (.iconst 0, 17, 0, 0, 0, 0), some (.istore_n 2, 18, 2, 0, 0, 0), some (.iload_n 2, 19, 2, 0, 0, 0), some (.sipush 200, 22, 0, 0, 0, 0), none, none, some (.if_icmp .ge 35, 25, 57, 0, 0, 0), none, none, some (.iload_n 1, 26, 1, 0, 0, 0), some (.ifCond .ge 31, 29, 57, 0, 0, 0), none, none, some (.aload_n 0, 30, 0, 0, 0, 0), some (.invokevirtual 366, 33, 188, 1, 0, 0), none],
  [none, some (.pop, 34, 0, 0, 0, 0), some (.aload_n 0, 35, 0, 0, 0, 0), some (.getfield 350, 38, 25, 3, 11, 0), none, none, some (.ifCond .ne 13, 41, 51, 0, 0, 0), none, none, some (.aload_n 0, 42, 0, 0, 0, 0), some (.getfield 39, 45, 20, 2, 11, 0), none, none, some (.bipush 10, 47, 0, 0, 0, 0), none, some (.iaload, 48, 0, 0, 0, 0)],
  [some (.iconst 1, 49, 0, 0, 0, 0), some (.isub, 50, 0, 0, 0, 0), some (.istore_n 1, 51, 1, 0, 0, 0), some (.iinc 2 1, 54, 2, 0, 0, 0), none, none, some (.goto (-36), 18, 0, 0, 0, 0), none, none, some (.aload_n 0, 58, 0, 0, 0, 0), some (.invokevirtual 395, 61, 217, 1, 0, 0), none, none, some (.iload_n 1, 62, 1, 0, 0, 0), some (.ireturn, 63, 0, 0, 1, 0)]]
def zt220 : ZT := [[some (.aload_n 0, 1, 0, 0, 0, 0), some (.iload_n 1, 2, 1, 0, 0, 0), some (.invokevirtual 372, 5, 208, 2, 0, 0), none, none, some (.ifCond .eq 15, 8, 20, 0, 0, 0), none, none, some (.iload_n 2, 9, 2, 0, 0, 0), some (.i2l, 10, 0, 0, 0, 0), some (.lconst 1, 11, 0, 0, 0, 1), some (.ldc2_w 383, 14, 0, 0, 0, 100), none, none, some (.invokestatic 121, 17, 150, 3, 0, 0), none],
  [none, some (.ifCond .ne 5, 20, 22, 0, 0, 0), none, none, some (.iconst (-1), 21, 0, 0, 0, 0), some (.ireturn, 22, 0, 0, 1, 0), some (.bipush (-2), 24, 0, 0, 0, 0), none, some (.istore_n 3, 25, 3, 0, 0, 0), some (.aload_n 0, 26, 0, 0, 0, 0), some (.invokevirtual 385, 29, 215, 1, 0, 0), none, none, some (.iconst 0, 30, 0, 0, 0, 0), some (.istore 4, 32, 4, 0, 0, 0), none],
  [some (.iload 4, 34, 4, 0, 0, 0), none, some (.bipush 60, 36, 0, 0, 0, 0), none, some (.if_icmp .gt 44, 39, 80, 0, 0, 0), none, none, some (.iload_n 3, 40, 3, 0, 0, 0), some (.ifCond .ge 40, 43, 80, 0, 0, 0), none, none, some (.aload_n 0, 44, 0, 0, 0, 0), some (.getfield 39, 47, 20, 2, 11, 0), none, none, some (.bipush 12, 49, 0, 0, 0, 0)],
  [none, some (.iconst 5, 50, 0, 0, 0, 0), some (.iload_n 1, 51, 1, 0, 0, 0), some (.imul, 52, 0, 0, 0, 0), some (.iadd, 53, 0, 0, 0, 0), some (.iconst 3, 54, 0, 0, 0, 0), some (.iadd, 55, 0, 0, 0, 0), some (.iload 4, 57, 4, 0, 0, 0), none, some (.iastore, 58, 0, 0, 0, 0), some (.aload_n 0, 59, 0, 0, 0, 0), some (.iload_n 1, 60, 1, 0, 0, 0), some (.iload_n 2, 61, 2, 0, 0, 0), some (.invokevirtual 398, 64, 221, 3, 0, 0), none, none],
  [some (.ifCond .le 6, 67, 70, 0, 0, 0), none, none, some (.iload 4, 69, 4, 0, 0, 0), none, some (.istore_n 3, 70, 3, 0, 0, 0), some (.aload_n 0, 71, 0, 0, 0, 0), some (.invokevirtual 395, 74, 217, 1, 0, 0), none, none, some (.iinc 4 1, 77, 4, 0, 0, 0), none, none, some (.goto (-45), 32, 0, 0, 0, 0), none, none],
  [some (.iload_n 3, 81, 3, 0, 0, 0), some (.ireturn, 82, 0, 0, 1, 0)]]
def zt221 : ZT := [[some (.iconst 1, 1, 0, 0, 0, 0), some (.istore_n 3, 2, 3, 0, 0, 0), some (.iload_n 3, 3, 3, 0, 0, 0), some (.iload_n 2, 4, 2, 0, 0, 0), some (.if_icmp .gt 22, 7, 26, 0, 0, 0), none, none, some (.aload_n 0, 8, 0, 0, 0, 0), some (.invokevirtual 366, 11, 188, 1, 0, 0), none, none, some (.iload_n 1, 12, 1, 0, 0, 0), some (.invokestatic 325, 15, 194, 2, 0, 0), none, none, some (.ifCond .eq 5, 18, 20, 0, 0, 0)],
  [none, none, some (.iload_n 3, 19, 3, 0, 0, 0), some (.ireturn, 20, 0, 0, 1, 0), some (.iinc 3 1, 23, 3, 0, 0, 0), none, none, some (.goto (-21), 2, 0, 0, 0, 0), none, none, some (.iconst 0, 27, 0, 0, 0, 0), some (.ireturn, 28, 0, 0, 1, 0)]]
def zt222 : ZT := [[some (.aload_n 0, 1, 0, 0, 0, 0), some (.invokevirtual 287, 4, 179, 1, 0, 0), none, none, some (.ifCond .eq 25, 7, 29, 0, 0, 0), none, none, some (.iload_n 1, 8, 1, 0, 0, 0), some (.i2l, 9, 0, 0, 0, 0), some (.lconst 1, 10, 0, 0, 0, 1), some (.ldc2_w 407, 13, 0, 0, 0, 40), none, none, some (.invokestatic 121, 16, 150, 3, 0, 0), none, none],
  [some (.ifCond .eq 13, 19, 29, 0, 0, 0), none, none, some (.iload_n 2, 20, 2, 0, 0, 0), some (.i2l, 21, 0, 0, 0, 0), some (.lconst 0, 22, 0, 0, 0, 0), some (.lconst 1, 23, 0, 0, 0, 1), some (.invokestatic 121, 26, 150, 3, 0, 0), none, none, some (.ifCond .ne 6, 29, 32, 0, 0, 0), none, none, some (.bipush (-2), 31, 0, 0, 0, 0), none, some (.ireturn, 32, 0, 0, 1, 0)],
  [some (.aload_n 0, 33, 0, 0, 0, 0), some (.invokevirtual 385, 36, 215, 1, 0, 0), none, none, some (.aload_n 0, 37, 0, 0, 0, 0), some (.iconst (-1), 38, 0, 0, 0, 0), some (.aload_n 0, 39, 0, 0, 0, 0), some (.iload_n 1, 40, 1, 0, 0, 0), some (.invokevirtual 409, 43, 223, 2, 0, 0), none, none, some (.invokevirtual 412, 46, 224, 3, 0, 0), none, none, some (.iconst 0, 47, 0, 0, 0, 0), some (.istore_n 3, 48, 3, 0, 0, 0)],
  [some (.iload_n 3, 49, 3, 0, 0, 0), some (.bipush 6, 51, 0, 0, 0, 0), none, some (.if_icmp .ge 35, 54, 86, 0, 0, 0), none, none, some (.aload_n 0, 55, 0, 0, 0, 0), some (.iload_n 3, 56, 3, 0, 0, 0), some (.invokevirtual 295, 59, 180, 2, 0, 0), none, none, some (.ifCond .ne 6, 62, 65, 0, 0, 0), none, none, some (.goto 18, 80, 0, 0, 0, 0), none],
  [none, some (.aload_n 0, 66, 0, 0, 0, 0), some (.iload_n 3, 67, 3, 0, 0, 0), some (.invokevirtual 377, 70, 210, 2, 0, 0), none, none, some (.aload_n 0, 71, 0, 0, 0, 0), some (.iload_n 3, 72, 3, 0, 0, 0), some (.aload_n 0, 73, 0, 0, 0, 0), some (.iload_n 1, 74, 1, 0, 0, 0), some (.invokevirtual 409, 77, 223, 2, 0, 0), none, none, some (.invokevirtual 412, 80, 224, 3, 0, 0), none, none],
  [some (.iinc 3 1, 83, 3, 0, 0, 0), none, none, some (.goto (-35), 48, 0, 0, 0, 0), none, none, some (.iload_n 2, 87, 2, 0, 0, 0), some (.ifCond .ne 10, 90, 97, 0, 0, 0), none, none, some (.aload_n 0, 91, 0, 0, 0, 0), some (.getfield 404, 94, 29, 0, 11, 0), none, none, some (.goto 7, 101, 0, 0, 0, 0), none],
  [none, some (.aload_n 0, 98, 0, 0, 0, 0), some (.getfield 401, 101, 30, 0, 11, 0), none, none, some (.ireturn, 102, 0, 0, 1, 0)]]
def zt223 : ZT := [[some (.aload_n 0, 1, 0, 0, 0, 0), some (.getfield 39, 4, 20, 2, 11, 0), none, none, some (.bipush 11, 6, 0, 0, 0, 0), none, some (.iaload, 7, 0, 0, 0, 0), some (.istore_n 2, 8, 2, 0, 0, 0), some (.aload_n 0, 9, 0, 0, 0, 0), some (.iload_n 1, 10, 1, 0, 0, 0), some (.invokevirtual 388, 13, 216, 2, 0, 0), none, none, some (.aload_n 0, 14, 0, 0, 0, 0), some (.getfield 39, 17, 20, 2, 11, 0), none],
  [none, some (.bipush 11, 19, 0, 0, 0, 0), none, some (.iaload, 20, 0, 0, 0, 0), some (.iload_n 2, 21, 2, 0, 0, 0), some (.isub, 22, 0, 0, 0, 0), some (.istore_n 3, 23, 3, 0, 0, 0), some (.aload_n 0, 24, 0, 0, 0, 0), some (.invokevirtual 395, 27, 217, 1, 0, 0), none, none, some (.iload_n 3, 28, 3, 0, 0, 0), some (.ireturn, 29, 0, 0, 1, 0)]]
def zt224 : ZT := [[some (.iload_n 1, 1, 1, 0, 0, 0), some (.ifCond .lt 12, 4, 13, 0, 0, 0), none, none, some (.iload_n 2, 5, 2, 0, 0, 0), some (.aload_n 0, 6, 0, 0, 0, 0), some (.getfield 401, 9, 30, 0, 11, 0), none, none, some (.if_icmp .gt 4, 12, 13, 0, 0, 0), none, none, some (.return_, 13, 0, 0, 0, 0), some (.aload_n 0, 14, 0, 0, 0, 0), some (.iload_n 1, 15, 1, 0, 0, 0), some (.putfield 404, 18, 29, 0, 11, 0)],
  [none, none, some (.aload_n 0, 19, 0, 0, 0, 0), some (.iload_n 2, 20, 2, 0, 0, 0), some (.putfield 401, 23, 30, 0, 11, 0), none, none, some (.return_, 24, 0, 0, 0, 0)]]
def zt225 : ZT := [[some (.aload_n 0, 1, 0, 0, 0, 0), some (.invokevirtual 287, 4, 179, 1, 0, 0), none, none, some (.ifCond .eq 25, 7, 29, 0, 0, 0), none, none, some (.iload_n 1, 8, 1, 0, 0, 0), some (.i2l, 9, 0, 0, 0, 0), some (.lconst 1, 10, 0, 0, 0, 1), some (.ldc2_w 407, 13, 0, 0, 0, 40), none, none, some (.invokestatic 121, 16, 150, 3, 0, 0), none, none],
  [some (.ifCond .eq 13, 19, 29, 0, 0, 0), none, none, some (.iload_n 2, 20, 2, 0, 0, 0), some (.i2l, 21, 0, 0, 0, 0), some (.lconst 0, 22, 0, 0, 0, 0), some (.lconst 1, 23, 0, 0, 0, 1), some (.invokestatic 121, 26, 150, 3, 0, 0), none, none, some (.ifCond .ne 6, 29, 32, 0, 0, 0), none, none, some (.bipush (-2), 31, 0, 0, 0, 0), none, some (.ireturn, 32, 0, 0, 1, 0)],
  [some (.aload_n 0, 33, 0, 0, 0, 0), some (.invokevirtual 385, 36, 215, 1, 0, 0), none, none, some (.aload_n 0, 37, 0, 0, 0, 0), some (.iconst (-1), 38, 0, 0, 0, 0), some (.aload_n 0, 39, 0, 0, 0, 0), some (.iload_n 1, 40, 1, 0, 0, 0), some (.invokevirtual 409, 43, 223, 2, 0, 0), none, none, some (.invokevirtual 412, 46, 224, 3, 0, 0), none, none, some (.iconst 0, 47, 0, 0, 0, 0), some (.istore_n 3, 48, 3, 0, 0, 0)],
  [some (.iload_n 3, 49, 3, 0, 0, 0), some (.aload_n 0, 50, 0, 0, 0, 0), some (.getfield 39, 53, 20, 2, 11, 0), none, none, some (.iconst 1, 54, 0, 0, 0, 0), some (.iaload, 55, 0, 0, 0, 0), some (.if_icmp .ge 44, 58, 99, 0, 0, 0), none, none, some (.aload_n 0, 59, 0, 0, 0, 0), some (.getfield 39, 62, 20, 2, 11, 0), none, none, some (.bipush 47, 64, 0, 0, 0, 0), none],
  [some (.iload_n 3, 65, 3, 0, 0, 0), some (.iadd, 66, 0, 0, 0, 0), some (.iaload, 67, 0, 0, 0, 0), some (.ifCond .ne 6, 70, 73, 0, 0, 0), none, none, some (.goto 23, 93, 0, 0, 0, 0), none, none, some (.aload_n 0, 74, 0, 0, 0, 0), some (.getfield 39, 77, 20, 2, 11, 0), none, none, some (.bipush 47, 79, 0, 0, 0, 0), none, some (.iload_n 3, 80, 3, 0, 0, 0)],
  [some (.iadd, 81, 0, 0, 0, 0), some (.iconst 0, 82, 0, 0, 0, 0), some (.iastore, 83, 0, 0, 0, 0), some (.aload_n 0, 84, 0, 0, 0, 0), some (.iload_n 3, 85, 3, 0, 0, 0), some (.aload_n 0, 86, 0, 0, 0, 0), some (.iload_n 1, 87, 1, 0, 0, 0), some (.invokevirtual 409, 90, 223, 2, 0, 0), none, none, some (.invokevirtual 412, 93, 224, 3, 0, 0), none, none, some (.iinc 3 1, 96, 3, 0, 0, 0), none, none],
  [some (.goto (-48), 48, 0, 0, 0, 0), none, none, some (.iload_n 2, 100, 2, 0, 0, 0), some (.ifCond .ne 10, 103, 110, 0, 0, 0), none, none, some (.aload_n 0, 104, 0, 0, 0, 0), some (.getfield 404, 107, 29, 0, 11, 0), none, none, some (.goto 7, 114, 0, 0, 0, 0), none, none, some (.aload_n 0, 111, 0, 0, 0, 0), some (.getfield 401, 114, 30, 0, 11, 0)],
  [none, none, some (.ireturn, 115, 0, 0, 1, 0)]]
def zt226 : ZT := [[some (.aload_n 0, 1, 0, 0, 0, 0), some (.invokevirtual 287, 4, 179, 1, 0, 0), none, none, some (.ifCond .eq 25, 7, 29, 0, 0, 0), none, none, some (.iload_n 1, 8, 1, 0, 0, 0), some (.i2l, 9, 0, 0, 0, 0), some (.lconst 1, 10, 0, 0, 0, 1), some (.ldc2_w 407, 13, 0, 0, 0, 40), none, none, some (.invokestatic 121, 16, 150, 3, 0, 0), none, none],
  [some (.ifCond .eq 13, 19, 29, 0, 0, 0), none, none, some (.iload_n 2, 20, 2, 0, 0, 0), some (.i2l, 21, 0, 0, 0, 0), some (.lconst 0, 22, 0, 0, 0, 0), some (.lconst 1, 23, 0, 0, 0, 1), some (.invokestatic 121, 26, 150, 3, 0, 0), none, none, some (.ifCond .ne 6, 29, 32, 0, 0, 0), none, none, some (.bipush (-2), 31, 0, 0, 0, 0), none, some (.ireturn, 32, 0, 0, 1, 0)],
  [some (.aload_n 0, 33, 0, 0, 0, 0), some (.invokevirtual 385, 36, 215, 1, 0, 0), none, none, some (.aload_n 0, 37, 0, 0, 0, 0), some (.iconst (-1), 38, 0, 0, 0, 0), some (.aload_n 0, 39, 0, 0, 0, 0), some (.iload_n 1, 40, 1, 0, 0, 0), some (.invokevirtual 409, 43, 223, 2, 0, 0), none, none, some (.invokevirtual 412, 46, 224, 3, 0, 0), none, none, some (.iconst 0, 47, 0, 0, 0, 0), some (.istore_n 3, 48, 3, 0, 0, 0)],
  [some (.iload_n 3, 49, 3, 0, 0, 0), some (.aload_n 0, 50, 0, 0, 0, 0), some (.getfield 39, 53, 20, 2, 11, 0), none, none, some (.iconst 2, 54, 0, 0, 0, 0), some (.iaload, 55, 0, 0, 0, 0), some (.if_icmp .ge 34, 58, 89, 0, 0, 0), none, none, some (.aload_n 0, 59, 0, 0, 0, 0), some (.iload_n 3, 60, 3, 0, 0, 0), some (.putfield 46, 63, 23, 0, 11, 0), none, none, some (.aload_n 0, 64, 0, 0, 0, 0)],
  [some (.getfield 39, 67, 20, 2, 11, 0), none, none, some (.bipush 42, 69, 0, 0, 0, 0), none, some (.iload_n 3, 70, 3, 0, 0, 0), some (.iadd, 71, 0, 0, 0, 0), some (.iconst 0, 72, 0, 0, 0, 0), some (.iastore, 73, 0, 0, 0, 0), some (.aload_n 0, 74, 0, 0, 0, 0), some (.iload_n 3, 75, 3, 0, 0, 0), some (.aload_n 0, 76, 0, 0, 0, 0), some (.iload_n 1, 77, 1, 0, 0, 0), some (.invokevirtual 409, 80, 223, 2, 0, 0), none, none],
  [some (.invokevirtual 412, 83, 224, 3, 0, 0), none, none, some (.iinc 3 1, 86, 3, 0, 0, 0), none, none, some (.goto (-38), 48, 0, 0, 0, 0), none, none, some (.aload_n 0, 90, 0, 0, 0, 0), some (.iconst (-1), 91, 0, 0, 0, 0), some (.putfield 46, 94, 23, 0, 11, 0), none, none, some (.iload_n 2, 95, 2, 0, 0, 0), some (.ifCond .ne 10, 98, 105, 0, 0, 0)],
  [none, none, some (.aload_n 0, 99, 0, 0, 0, 0), some (.getfield 404, 102, 29, 0, 11, 0), none, none, some (.goto 7, 109, 0, 0, 0, 0), none, none, some (.aload_n 0, 106, 0, 0, 0, 0), some (.getfield 401, 109, 30, 0, 11, 0), none, none, some (.ireturn, 110, 0, 0, 1, 0)]]
def zt227 : ZT := [[some (.aload_n 0, 1, 0, 0, 0, 0), some (.invokevirtual 287, 4, 179, 1, 0, 0), none, none, some (.ifCond .eq 27, 7, 31, 0, 0, 0), none, none, some (.iload_n 1, 8, 1, 0, 0, 0), some (.i2l, 9, 0, 0, 0, 0), some (.lconst 1, 10, 0, 0, 0, 1), some (.ldc2_w 311, 13, 0, 0, 0, 3), none, none, some (.invokestatic 121, 16, 150, 3, 0, 0), none, none],
  [some (.ifCond .eq 15, 19, 31, 0, 0, 0), none, none, some (.iload_n 2, 20, 2, 0, 0, 0), some (.i2l, 21, 0, 0, 0, 0), some (.lconst 0, 22, 0, 0, 0, 0), some (.ldc2_w 311, 25, 0, 0, 0, 3), none, none, some (.invokestatic 121, 28, 150, 3, 0, 0), none, none, some (.ifCond .ne 5, 31, 33, 0, 0, 0), none, none, some (.iconst (-1), 32, 0, 0, 0, 0)],
  [some (.ireturn, 33, 0, 0, 1, 0), some (.iconst (-1), 34, 0, 0, 0, 0), some (.istore_n 3, 35, 3, 0, 0, 0), some (.iconst (-1), 36, 0, 0, 0, 0), some (.istore 4, 38, 4, 0, 0, 0), none, some (.aload_n 0, 39, 0, 0, 0, 0), some (.invokevirtual 385, 42, 215, 1, 0, 0), none, none, some (.iconst 0, 43, 0, 0, 0, 0), some (.istore 5, 45, 5, 0, 0, 0), none, some (.iload 5, 47, 5, 0, 0, 0), none, some (.iconst 1, 48, 0, 0, 0, 0)],
  [some (.bipush 6, 50, 0, 0, 0, 0), none, some (.iload_n 1, 51, 1, 0, 0, 0), some (.imul, 52, 0, 0, 0, 0), some (.ishl, 53, 0, 0, 0, 0), some (.if_icmp .ge 35, 56, 88, 0, 0, 0), none, none, some (.aload_n 0, 57, 0, 0, 0, 0), some (.iload 5, 59, 5, 0, 0, 0), none, some (.iload_n 1, 60, 1, 0, 0, 0), some (.invokevirtual 415, 63, 228, 3, 0, 0), none, none, some (.istore 6, 65, 6, 0, 0, 0)],
  [none, some (.iload 6, 67, 6, 0, 0, 0), none, some (.iload 4, 69, 4, 0, 0, 0), none, some (.if_icmp .gt 6, 72, 75, 0, 0, 0), none, none, some (.goto 10, 82, 0, 0, 0, 0), none, none, some (.iload 5, 77, 5, 0, 0, 0), none, some (.istore_n 3, 78, 3, 0, 0, 0), some (.iload 6, 80, 6, 0, 0, 0), none],
  [some (.istore 4, 82, 4, 0, 0, 0), none, some (.iinc 5 1, 85, 5, 0, 0, 0), none, none, some (.goto (-40), 45, 0, 0, 0, 0), none, none, some (.iload_n 2, 89, 2, 0, 0, 0), some (.ifCond .ne 8, 92, 97, 0, 0, 0), none, none, some (.iload 4, 94, 4, 0, 0, 0), none, some (.goto 24, 118, 0, 0, 0, 0), none],
  [none, some (.iload_n 2, 98, 2, 0, 0, 0), some (.iload_n 1, 99, 1, 0, 0, 0), some (.if_icmp .gt 17, 102, 116, 0, 0, 0), none, none, some (.iload_n 3, 103, 3, 0, 0, 0), some (.bipush 6, 105, 0, 0, 0, 0), none, some (.iload_n 1, 106, 1, 0, 0, 0), some (.iload_n 2, 107, 2, 0, 0, 0), some (.isub, 108, 0, 0, 0, 0), some (.imul, 109, 0, 0, 0, 0), some (.ishr, 110, 0, 0, 0, 0), some (.bipush 63, 112, 0, 0, 0, 0), none],
  [some (.iand, 113, 0, 0, 0, 0), some (.goto 5, 118, 0, 0, 0, 0), none, none, some (.bipush (-2), 118, 0, 0, 0, 0), none, some (.ireturn, 119, 0, 0, 1, 0)]]
def zt228 : ZT := [[some (.aload_n 0, 1, 0, 0, 0, 0), some (.getfield 39, 4, 20, 2, 11, 0), none, none, some (.bipush 11, 6, 0, 0, 0, 0), none, some (.iaload, 7, 0, 0, 0, 0), some (.istore_n 3, 8, 3, 0, 0, 0), some (.iload_n 2, 9, 2, 0, 0, 0), some (.iconst 1, 10, 0, 0, 0, 0), some (.isub, 11, 0, 0, 0, 0), some (.istore 4, 13, 4, 0, 0, 0), none, some (.iload 4, 15, 4, 0, 0, 0), none, some (.ifCond .lt 28, 18, 43, 0, 0, 0)],
  [none, none, some (.aload_n 0, 19, 0, 0, 0, 0), some (.iload_n 1, 20, 1, 0, 0, 0), some (.bipush 6, 22, 0, 0, 0, 0), none, some (.iload 4, 24, 4, 0, 0, 0), none, some (.imul, 25, 0, 0, 0, 0), some (.ishr, 26, 0, 0, 0, 0), some (.bipush 63, 28, 0, 0, 0, 0), none, some (.iand, 29, 0, 0, 0, 0), some (.putfield 49, 32, 24, 0, 11, 0), none, none],
  [some (.aload_n 0, 33, 0, 0, 0, 0), some (.invokevirtual 366, 36, 188, 1, 0, 0), none, none, some (.pop, 37, 0, 0, 0, 0), some (.iinc 4 (-1), 40, 4, 0, 0, 0), none, none, some (.goto (-27), 13, 0, 0, 0, 0), none, none, some (.aload_n 0, 44, 0, 0, 0, 0), some (.iconst (-1), 45, 0, 0, 0, 0), some (.putfield 49, 48, 24, 0, 11, 0), none, none],
  [some (.aload_n 0, 49, 0, 0, 0, 0), some (.getfield 39, 52, 20, 2, 11, 0), none, none, some (.bipush 11, 54, 0, 0, 0, 0), none, some (.iaload, 55, 0, 0, 0, 0), some (.iload_n 3, 56, 3, 0, 0, 0), some (.isub, 57, 0, 0, 0, 0), some (.istore 4, 59, 4, 0, 0, 0), none, some (.aload_n 0, 60, 0, 0, 0, 0), some (.invokevirtual 395, 63, 217, 1, 0, 0), none, none, some (.iload 4, 65, 4, 0, 0, 0)],
  [none, some (.ireturn, 66, 0, 0, 1, 0)]]
def zt229 : ZT := [[some (.aload_n 0, 1, 0, 0, 0, 0), some (.invokevirtual 287, 4, 179, 1, 0, 0), none, none, some (.ifCond .eq 27, 7, 31, 0, 0, 0), none, none, some (.iload_n 1, 8, 1, 0, 0, 0), some (.i2l, 9, 0, 0, 0, 0), some (.lconst 1, 10, 0, 0, 0, 1), some (.ldc2_w 383, 13, 0, 0, 0, 100), none, none, some (.invokestatic 121, 16, 150, 3, 0, 0), none, none],
  [some (.ifCond .eq 15, 19, 31, 0, 0, 0), none, none, some (.iload_n 2, 20, 2, 0, 0, 0), some (.i2l, 21, 0, 0, 0, 0), some (.lconst 0, 22, 0, 0, 0, 0), some (.ldc2_w 316, 25, 0, 0, 0, 2), none, none, some (.invokestatic 121, 28, 150, 3, 0, 0), none, none, some (.ifCond .ne 5, 31, 33, 0, 0, 0), none, none, some (.iconst (-1), 32, 0, 0, 0, 0)],
  [some (.ireturn, 33, 0, 0, 1, 0), some (.iconst (-1), 34, 0, 0, 0, 0), some (.istore_n 3, 35, 3, 0, 0, 0), some (.bipush (-2), 37, 0, 0, 0, 0), none, some (.istore 4, 39, 4, 0, 0, 0), none, some (.bipush (-2), 41, 0, 0, 0, 0), none, some (.istore 5, 43, 5, 0, 0, 0), none, some (.aload_n 0, 44, 0, 0, 0, 0), some (.invokevirtual 385, 47, 215, 1, 0, 0), none, none, some (.iconst 0, 48, 0, 0, 0, 0)],
  [some (.istore 6, 50, 6, 0, 0, 0), none, some (.iload 6, 52, 6, 0, 0, 0), none, some (.iload_n 1, 53, 1, 0, 0, 0), some (.if_icmp .ge 77, 56, 130, 0, 0, 0), none, none, some (.aload_n 0, 57, 0, 0, 0, 0), some (.invokevirtual 366, 60, 188, 1, 0, 0), none, none, some (.pop, 61, 0, 0, 0, 0), some (.iconst 0, 62, 0, 0, 0, 0), some (.istore 7, 64, 7, 0, 0, 0), none],
  [some (.iload 7, 66, 7, 0, 0, 0), none, some (.aload_n 0, 67, 0, 0, 0, 0), some (.getfield 39, 70, 20, 2, 11, 0), none, none, some (.iconst 2, 71, 0, 0, 0, 0), some (.iaload, 72, 0, 0, 0, 0), some (.if_icmp .ge 52, 75, 124, 0, 0, 0), none, none, some (.aload_n 0, 76, 0, 0, 0, 0), some (.getfield 39, 79, 20, 2, 11, 0), none, none, some (.bipush 42, 81, 0, 0, 0, 0)],
  [none, some (.iload 7, 83, 7, 0, 0, 0), none, some (.iadd, 84, 0, 0, 0, 0), some (.iaload, 85, 0, 0, 0, 0), some (.iload_n 3, 86, 3, 0, 0, 0), some (.if_icmp .gt 6, 89, 92, 0, 0, 0), none, none, some (.goto 29, 118, 0, 0, 0, 0), none, none, some (.aload_n 0, 93, 0, 0, 0, 0), some (.getfield 39, 96, 20, 2, 11, 0), none, none],
  [some (.bipush 42, 98, 0, 0, 0, 0), none, some (.iload 7, 100, 7, 0, 0, 0), none, some (.iadd, 101, 0, 0, 0, 0), some (.iaload, 102, 0, 0, 0, 0), some (.istore_n 3, 103, 3, 0, 0, 0), some (.aload_n 0, 104, 0, 0, 0, 0), some (.getfield 39, 107, 20, 2, 11, 0), none, none, some (.bipush 10, 109, 0, 0, 0, 0), none, some (.iaload, 110, 0, 0, 0, 0), some (.iconst 1, 111, 0, 0, 0, 0), some (.isub, 112, 0, 0, 0, 0)],
  [some (.istore 4, 114, 4, 0, 0, 0), none, some (.iload 7, 116, 7, 0, 0, 0), none, some (.istore 5, 118, 5, 0, 0, 0), none, some (.iinc 7 1, 121, 7, 0, 0, 0), none, none, some (.goto (-57), 64, 0, 0, 0, 0), none, none, some (.iinc 6 1, 127, 6, 0, 0, 0), none, none, some (.goto (-77), 50, 0, 0, 0, 0)],
  [none, none, some (.aload_n 0, 131, 0, 0, 0, 0), some (.invokevirtual 395, 134, 217, 1, 0, 0), none, none, some (.iload_n 2, 135, 2, 0, 0, 0), some (.ifCond .ne 15, 138, 150, 0, 0, 0), none, none, some (.iload_n 3, 139, 3, 0, 0, 0), some (.ifCond .ge 7, 142, 146, 0, 0, 0), none, none, some (.iconst 0, 143, 0, 0, 0, 0), some (.goto 19, 162, 0, 0, 0, 0)],
  [none, none, some (.iload_n 3, 147, 3, 0, 0, 0), some (.goto 15, 162, 0, 0, 0, 0), none, none, some (.iload_n 2, 151, 2, 0, 0, 0), some (.iconst 1, 152, 0, 0, 0, 0), some (.if_icmp .ne 8, 155, 160, 0, 0, 0), none, none, some (.iload 4, 157, 4, 0, 0, 0), none, some (.goto 5, 162, 0, 0, 0, 0), none, none],
  [some (.iload 5, 162, 5, 0, 0, 0), none, some (.ireturn, 163, 0, 0, 1, 0)]]
def zt230 : ZT := [[some (.aload_n 0, 1, 0, 0, 0, 0), some (.iload_n 1, 2, 1, 0, 0, 0), some (.invokevirtual 372, 5, 208, 2, 0, 0), none, none, some (.ifCond .eq 41, 8, 46, 0, 0, 0), none, none, some (.aload_n 0, 9, 0, 0, 0, 0), some (.iload_n 2, 10, 2, 0, 0, 0), some (.invokevirtual 372, 13, 208, 2, 0, 0), none, none, some (.ifCond .eq 33, 16, 46, 0, 0, 0), none, none],
  [some (.iload_n 1, 17, 1, 0, 0, 0), some (.iload_n 2, 18, 2, 0, 0, 0), some (.if_icmp .eq 28, 21, 46, 0, 0, 0), none, none, some (.iload_n 3, 22, 3, 0, 0, 0), some (.i2l, 23, 0, 0, 0, 0), some (.lconst 1, 24, 0, 0, 0, 1), some (.ldc2_w 375, 27, 0, 0, 0, 20), none, none, some (.invokestatic 121, 30, 150, 3, 0, 0), none, none, some (.ifCond .eq 16, 33, 46, 0, 0, 0), none],
  [none, some (.iload 4, 35, 4, 0, 0, 0), none, some (.i2l, 36, 0, 0, 0, 0), some (.lconst 0, 37, 0, 0, 0, 0), some (.ldc2_w 316, 40, 0, 0, 0, 2), none, none, some (.invokestatic 121, 43, 150, 3, 0, 0), none, none, some (.ifCond .ne 5, 46, 48, 0, 0, 0), none, none, some (.iconst (-1), 47, 0, 0, 0, 0), some (.ireturn, 48, 0, 0, 1, 0)],
  [some (.aload_n 0, 49, 0, 0, 0, 0), some (.invokevirtual 385, 52, 215, 1, 0, 0), none, none, some (.iconst 0, 53, 0, 0, 0, 0), some (.istore 5, 55, 5, 0, 0, 0), none, some (.iload 5, 57, 5, 0, 0, 0), none, some (.bipush 25, 59, 0, 0, 0, 0), none, some (.if_icmp .ge 27, 62, 86, 0, 0, 0), none, none, some (.aload_n 0, 63, 0, 0, 0, 0), some (.iload 5, 65, 5, 0, 0, 0)],
  [none, some (.invokevirtual 418, 68, 231, 2, 0, 0), none, none, some (.ifCond .eq 12, 71, 80, 0, 0, 0), none, none, some (.aload_n 0, 72, 0, 0, 0, 0), some (.iload_n 1, 73, 1, 0, 0, 0), some (.iload_n 2, 74, 2, 0, 0, 0), some (.iload 5, 76, 5, 0, 0, 0), none, some (.iload_n 3, 77, 3, 0, 0, 0), some (.invokevirtual 421, 80, 232, 5, 0, 0), none, none],
  [some (.iinc 5 1, 83, 5, 0, 0, 0), none, none, some (.goto (-28), 55, 0, 0, 0, 0), none, none, some (.iconst 0, 87, 0, 0, 0, 0), some (.istore 5, 89, 5, 0, 0, 0), none, some (.iconst (-1), 90, 0, 0, 0, 0), some (.istore 6, 92, 6, 0, 0, 0), none, some (.bipush 24, 94, 0, 0, 0, 0), none, some (.istore 7, 96, 7, 0, 0, 0), none],
  [some (.iload 7, 98, 7, 0, 0, 0), none, some (.ifCond .lt 43, 101, 141, 0, 0, 0), none, none, some (.aload_n 0, 102, 0, 0, 0, 0), some (.iload 7, 104, 7, 0, 0, 0), none, some (.invokevirtual 418, 107, 231, 2, 0, 0), none, none, some (.ifCond .eq 28, 110, 135, 0, 0, 0), none, none, some (.aload_n 0, 111, 0, 0, 0, 0), some (.iload 7, 113, 7, 0, 0, 0)],
  [none, some (.iconst 5, 114, 0, 0, 0, 0), some (.idiv, 115, 0, 0, 0, 0), some (.iload 7, 117, 7, 0, 0, 0), none, some (.iconst 5, 118, 0, 0, 0, 0), some (.irem, 119, 0, 0, 0, 0), some (.invokevirtual 425, 122, 233, 3, 0, 0), none, none, some (.ifCond .ne 6, 125, 128, 0, 0, 0), none, none, some (.goto 10, 135, 0, 0, 0, 0), none, none],
  [some (.iload 7, 130, 7, 0, 0, 0), none, some (.istore 6, 132, 6, 0, 0, 0), none, some (.iinc 5 1, 135, 5, 0, 0, 0), none, none, some (.iinc 7 (-1), 138, 7, 0, 0, 0), none, none, some (.goto (-42), 96, 0, 0, 0, 0), none, none, some (.iload 4, 143, 4, 0, 0, 0), none, some (.ifCond .ne 6, 146, 149, 0, 0, 0)],
  [none, none, some (.iload 5, 148, 5, 0, 0, 0), none, some (.ireturn, 149, 0, 0, 1, 0), some (.iload 6, 151, 6, 0, 0, 0), none, some (.ifCond .ge 8, 154, 159, 0, 0, 0), none, none, some (.bipush (-2), 156, 0, 0, 0, 0), none, some (.goto 20, 176, 0, 0, 0, 0), none, none, some (.iload 4, 161, 4, 0, 0, 0)],
  [none, some (.iconst 1, 162, 0, 0, 0, 0), some (.if_icmp .ne 10, 165, 172, 0, 0, 0), none, none, some (.iload 6, 167, 6, 0, 0, 0), none, some (.iconst 5, 168, 0, 0, 0, 0), some (.idiv, 169, 0, 0, 0, 0), some (.goto 7, 176, 0, 0, 0, 0), none, none, some (.iload 6, 174, 6, 0, 0, 0), none, some (.iconst 5, 175, 0, 0, 0, 0), some (.irem, 176, 0, 0, 0, 0)],
  [some (.ireturn, 177, 0, 0, 1, 0)]]
def zt231 : ZT := [[some (.aload_n 0, 1, 0, 0, 0, 0), some (.iload_n 1, 2, 1, 0, 0, 0), some (.iconst 5, 3, 0, 0, 0, 0), some (.idiv, 4, 0, 0, 0, 0), some (.invokevirtual 313, 7, 182, 2, 0, 0), none, none, some (.ifCond .eq 17, 10, 24, 0, 0, 0), none, none, some (.aload_n 0, 11, 0, 0, 0, 0), some (.iload_n 1, 12, 1, 0, 0, 0), some (.iconst 5, 13, 0, 0, 0, 0), some (.irem, 14, 0, 0, 0, 0), some (.invokevirtual 313, 17, 182, 2, 0, 0), none],
  [none, some (.ifCond .eq 7, 20, 24, 0, 0, 0), none, none, some (.iconst 1, 21, 0, 0, 0, 0), some (.goto 4, 25, 0, 0, 0, 0), none, none, some (.iconst 0, 25, 0, 0, 0, 0), some (.ireturn, 26, 0, 0, 2, 0)]]
def zt232 : ZT := [[some (.aload_n 0, 1, 0, 0, 0, 0), some (.getfield 58, 4, 31, 2, 11, 0), none, none, some (.iconst 2, 5, 0, 0, 0, 0), some (.iload_n 3, 6, 3, 0, 0, 0), some (.imul, 7, 0, 0, 0, 0), some (.iconst 0, 8, 0, 0, 0, 0), some (.iastore, 9, 0, 0, 0, 0), some (.aload_n 0, 10, 0, 0, 0, 0), some (.getfield 58, 13, 31, 2, 11, 0), none, none, some (.iconst 2, 14, 0, 0, 0, 0), some (.iload_n 3, 15, 3, 0, 0, 0), some (.imul, 16, 0, 0, 0, 0)],
  [some (.iconst 1, 17, 0, 0, 0, 0), some (.iadd, 18, 0, 0, 0, 0), some (.iconst 0, 19, 0, 0, 0, 0), some (.iastore, 20, 0, 0, 0, 0), some (.aload_n 0, 21, 0, 0, 0, 0), some (.getfield 39, 24, 20, 2, 11, 0), none, none, some (.bipush 12, 26, 0, 0, 0, 0), none, some (.iconst 5, 27, 0, 0, 0, 0), some (.iload_n 1, 28, 1, 0, 0, 0), some (.imul, 29, 0, 0, 0, 0), some (.iadd, 30, 0, 0, 0, 0), some (.iconst 2, 31, 0, 0, 0, 0), some (.iadd, 32, 0, 0, 0, 0)],
  [some (.iload_n 3, 33, 3, 0, 0, 0), some (.iconst 5, 34, 0, 0, 0, 0), some (.idiv, 35, 0, 0, 0, 0), some (.iastore, 36, 0, 0, 0, 0), some (.aload_n 0, 37, 0, 0, 0, 0), some (.getfield 39, 40, 20, 2, 11, 0), none, none, some (.bipush 12, 42, 0, 0, 0, 0), none, some (.iconst 5, 43, 0, 0, 0, 0), some (.iload_n 2, 44, 2, 0, 0, 0), some (.imul, 45, 0, 0, 0, 0), some (.iadd, 46, 0, 0, 0, 0), some (.iconst 2, 47, 0, 0, 0, 0), some (.iadd, 48, 0, 0, 0, 0)],
  [some (.iload_n 3, 49, 3, 0, 0, 0), some (.iconst 5, 50, 0, 0, 0, 0), some (.irem, 51, 0, 0, 0, 0), some (.iastore, 52, 0, 0, 0, 0), some (.iconst 1, 53, 0, 0, 0, 0), some (.istore 5, 55, 5, 0, 0, 0), none, some (.iload 5, 57, 5, 0, 0, 0), none, some (.iload 4, 59, 4, 0, 0, 0), none, some (.if_icmp .gt 85, 62, 144, 0, 0, 0), none, none, some (.aload_n 0, 63, 0, 0, 0, 0), some (.invokevirtual 366, 66, 188, 1, 0, 0)],
  [none, none, some (.istore 6, 68, 6, 0, 0, 0), none, some (.aload_n 0, 69, 0, 0, 0, 0), some (.getfield 58, 72, 31, 2, 11, 0), none, none, some (.iconst 2, 73, 0, 0, 0, 0), some (.iload_n 3, 74, 3, 0, 0, 0), some (.imul, 75, 0, 0, 0, 0), some (.iaload, 76, 0, 0, 0, 0), some (.ifCond .ne 25, 79, 101, 0, 0, 0), none, none, some (.iload 6, 81, 6, 0, 0, 0)],
  [none, some (.iload_n 1, 82, 1, 0, 0, 0), some (.invokestatic 325, 85, 194, 2, 0, 0), none, none, some (.ifCond .eq 16, 88, 101, 0, 0, 0), none, none, some (.aload_n 0, 89, 0, 0, 0, 0), some (.getfield 58, 92, 31, 2, 11, 0), none, none, some (.iconst 2, 93, 0, 0, 0, 0), some (.iload_n 3, 94, 3, 0, 0, 0), some (.imul, 95, 0, 0, 0, 0), some (.bipush 100, 97, 0, 0, 0, 0)],
  [none, some (.iload 5, 99, 5, 0, 0, 0), none, some (.isub, 100, 0, 0, 0, 0), some (.iastore, 101, 0, 0, 0, 0), some (.aload_n 0, 102, 0, 0, 0, 0), some (.getfield 58, 105, 31, 2, 11, 0), none, none, some (.iconst 2, 106, 0, 0, 0, 0), some (.iload_n 3, 107, 3, 0, 0, 0), some (.imul, 108, 0, 0, 0, 0), some (.iconst 1, 109, 0, 0, 0, 0), some (.iadd, 110, 0, 0, 0, 0), some (.iaload, 111, 0, 0, 0, 0), some (.ifCond .ne 27, 114, 138, 0, 0, 0)],
  [none, none, some (.iload 6, 116, 6, 0, 0, 0), none, some (.iload_n 2, 117, 2, 0, 0, 0), some (.invokestatic 325, 120, 194, 2, 0, 0), none, none, some (.ifCond .eq 18, 123, 138, 0, 0, 0), none, none, some (.aload_n 0, 124, 0, 0, 0, 0), some (.getfield 58, 127, 31, 2, 11, 0), none, none, some (.iconst 2, 128, 0, 0, 0, 0)],
  [some (.iload_n 3, 129, 3, 0, 0, 0), some (.imul, 130, 0, 0, 0, 0), some (.iconst 1, 131, 0, 0, 0, 0), some (.iadd, 132, 0, 0, 0, 0), some (.bipush 100, 134, 0, 0, 0, 0), none, some (.iload 5, 136, 5, 0, 0, 0), none, some (.isub, 137, 0, 0, 0, 0), some (.iastore, 138, 0, 0, 0, 0), some (.iinc 5 1, 141, 5, 0, 0, 0), none, none, some (.goto (-86), 55, 0, 0, 0, 0), none, none],
  [some (.aload_n 0, 145, 0, 0, 0, 0), some (.invokevirtual 395, 148, 217, 1, 0, 0), none, none, some (.return_, 149, 0, 0, 0, 0)]]
def zt233 : ZT := [[some (.iconst 0, 1, 0, 0, 0, 0), some (.istore_n 3, 2, 3, 0, 0, 0), some (.iload_n 3, 3, 3, 0, 0, 0), some (.aload_n 0, 4, 0, 0, 0, 0), some (.getfield 39, 7, 20, 2, 11, 0), none, none, some (.iconst 2, 8, 0, 0, 0, 0), some (.iaload, 9, 0, 0, 0, 0), some (.if_icmp .ge 69, 12, 78, 0, 0, 0), none, none, some (.aload_n 0, 13, 0, 0, 0, 0), some (.getfield 58, 16, 31, 2, 11, 0), none, none],
  [some (.iconst 2, 17, 0, 0, 0, 0), some (.iconst 5, 18, 0, 0, 0, 0), some (.iload_n 3, 19, 3, 0, 0, 0), some (.imul, 20, 0, 0, 0, 0), some (.iload_n 2, 21, 2, 0, 0, 0), some (.iadd, 22, 0, 0, 0, 0), some (.imul, 23, 0, 0, 0, 0), some (.iaload, 24, 0, 0, 0, 0), some (.aload_n 0, 25, 0, 0, 0, 0), some (.getfield 58, 28, 31, 2, 11, 0), none, none, some (.iconst 2, 29, 0, 0, 0, 0), some (.iconst 5, 30, 0, 0, 0, 0), some (.iload_n 1, 31, 1, 0, 0, 0), some (.imul, 32, 0, 0, 0, 0)],
  [some (.iload_n 2, 33, 2, 0, 0, 0), some (.iadd, 34, 0, 0, 0, 0), some (.imul, 35, 0, 0, 0, 0), some (.iaload, 36, 0, 0, 0, 0), some (.if_icmp .gt 34, 39, 70, 0, 0, 0), none, none, some (.aload_n 0, 40, 0, 0, 0, 0), some (.getfield 58, 43, 31, 2, 11, 0), none, none, some (.iconst 2, 44, 0, 0, 0, 0), some (.iconst 5, 45, 0, 0, 0, 0), some (.iload_n 1, 46, 1, 0, 0, 0), some (.imul, 47, 0, 0, 0, 0), some (.iload_n 3, 48, 3, 0, 0, 0)],
  [some (.iadd, 49, 0, 0, 0, 0), some (.imul, 50, 0, 0, 0, 0), some (.iconst 1, 51, 0, 0, 0, 0), some (.iadd, 52, 0, 0, 0, 0), some (.iaload, 53, 0, 0, 0, 0), some (.aload_n 0, 54, 0, 0, 0, 0), some (.getfield 58, 57, 31, 2, 11, 0), none, none, some (.iconst 2, 58, 0, 0, 0, 0), some (.iconst 5, 59, 0, 0, 0, 0), some (.iload_n 1, 60, 1, 0, 0, 0), some (.imul, 61, 0, 0, 0, 0), some (.iload_n 2, 62, 2, 0, 0, 0), some (.iadd, 63, 0, 0, 0, 0), some (.imul, 64, 0, 0, 0, 0)],
  [some (.iconst 1, 65, 0, 0, 0, 0), some (.iadd, 66, 0, 0, 0, 0), some (.iaload, 67, 0, 0, 0, 0), some (.if_icmp .le 5, 70, 72, 0, 0, 0), none, none, some (.iconst 0, 71, 0, 0, 0, 0), some (.ireturn, 72, 0, 0, 2, 0), some (.iinc 3 1, 75, 3, 0, 0, 0), none, none, some (.goto (-73), 2, 0, 0, 0, 0), none, none, some (.iconst 1, 79, 0, 0, 0, 0), some (.ireturn, 80, 0, 0, 2, 0)]]
def zt234 : ZT := [[some (.aload_n 0, 1, 0, 0, 0, 0), some (.invokevirtual 287, 4, 179, 1, 0, 0), none, none, some (.ifCond .eq 13, 7, 17, 0, 0, 0), none, none, some (.iload_n 1, 8, 1, 0, 0, 0), some (.i2l, 9, 0, 0, 0, 0), some (.lconst 0, 10, 0, 0, 0, 0), some (.lconst 1, 11, 0, 0, 0, 1), some (.invokestatic 121, 14, 150, 3, 0, 0), none, none, some (.ifCond .ne 5, 17, 19, 0, 0, 0), none],
  [none, some (.iconst (-1), 18, 0, 0, 0, 0), some (.ireturn, 19, 0, 0, 1, 0), some (.aload_n 0, 20, 0, 0, 0, 0), some (.invokevirtual 385, 23, 215, 1, 0, 0), none, none, some (.iconst 0, 24, 0, 0, 0, 0), some (.istore_n 2, 25, 2, 0, 0, 0), some (.iload_n 2, 26, 2, 0, 0, 0), some (.bipush 60, 28, 0, 0, 0, 0), none, some (.if_icmp .gt 64, 31, 92, 0, 0, 0), none, none, some (.iconst 0, 32, 0, 0, 0, 0)],
  [some (.istore_n 3, 33, 3, 0, 0, 0), some (.iload_n 3, 34, 3, 0, 0, 0), some (.bipush 6, 36, 0, 0, 0, 0), none, some (.if_icmp .ge 45, 39, 81, 0, 0, 0), none, none, some (.aload_n 0, 40, 0, 0, 0, 0), some (.getfield 61, 43, 32, 2, 11, 0), none, none, some (.bipush 6, 45, 0, 0, 0, 0), none, some (.iload_n 2, 46, 2, 0, 0, 0), some (.imul, 47, 0, 0, 0, 0), some (.iload_n 3, 48, 3, 0, 0, 0)],
  [some (.iadd, 49, 0, 0, 0, 0), some (.aload_n 0, 50, 0, 0, 0, 0), some (.iload_n 3, 51, 3, 0, 0, 0), some (.invokevirtual 295, 54, 180, 2, 0, 0), none, none, some (.ifCond .eq 19, 57, 73, 0, 0, 0), none, none, some (.iconst 5, 58, 0, 0, 0, 0), some (.aload_n 0, 59, 0, 0, 0, 0), some (.iload_n 3, 60, 3, 0, 0, 0), some (.invokevirtual 298, 63, 191, 2, 0, 0), none, none, some (.imul, 64, 0, 0, 0, 0)],
  [some (.aload_n 0, 65, 0, 0, 0, 0), some (.iload_n 3, 66, 3, 0, 0, 0), some (.invokevirtual 328, 69, 192, 2, 0, 0), none, none, some (.iadd, 70, 0, 0, 0, 0), some (.goto 4, 74, 0, 0, 0, 0), none, none, some (.iconst (-1), 74, 0, 0, 0, 0), some (.iastore, 75, 0, 0, 0, 0), some (.iinc 3 1, 78, 3, 0, 0, 0), none, none, some (.goto (-45), 33, 0, 0, 0, 0), none],
  [none, some (.aload_n 0, 82, 0, 0, 0, 0), some (.invokevirtual 366, 85, 188, 1, 0, 0), none, none, some (.pop, 86, 0, 0, 0, 0), some (.iinc 2 1, 89, 2, 0, 0, 0), none, none, some (.goto (-64), 25, 0, 0, 0, 0), none, none, some (.aload_n 0, 93, 0, 0, 0, 0), some (.invokevirtual 395, 96, 217, 1, 0, 0), none, none],
  [some (.iconst 0, 97, 0, 0, 0, 0), some (.istore_n 2, 98, 2, 0, 0, 0), some (.iload_n 2, 99, 2, 0, 0, 0), some (.bipush 60, 101, 0, 0, 0, 0), none, some (.if_icmp .ge 54, 104, 155, 0, 0, 0), none, none, some (.iload_n 2, 105, 2, 0, 0, 0), some (.iconst 1, 106, 0, 0, 0, 0), some (.iadd, 107, 0, 0, 0, 0), some (.istore_n 3, 108, 3, 0, 0, 0), some (.iload_n 3, 109, 3, 0, 0, 0), some (.bipush 60, 111, 0, 0, 0, 0), none, some (.if_icmp .gt 38, 114, 149, 0, 0, 0)],
  [none, none, some (.aload_n 0, 115, 0, 0, 0, 0), some (.iload_n 2, 116, 2, 0, 0, 0), some (.iload_n 3, 117, 3, 0, 0, 0), some (.invokevirtual 428, 120, 235, 3, 0, 0), none, none, some (.ifCond .eq 23, 123, 143, 0, 0, 0), none, none, some (.iload_n 1, 124, 1, 0, 0, 0), some (.ifCond .ne 15, 127, 139, 0, 0, 0), none, none, some (.aload_n 0, 128, 0, 0, 0, 0)],
  [some (.getfield 39, 131, 20, 2, 11, 0), none, none, some (.bipush 10, 133, 0, 0, 0, 0), none, some (.iaload, 134, 0, 0, 0, 0), some (.iload_n 2, 135, 2, 0, 0, 0), some (.iadd, 136, 0, 0, 0, 0), some (.goto 6, 142, 0, 0, 0, 0), none, none, some (.iload_n 3, 140, 3, 0, 0, 0), some (.iload_n 2, 141, 2, 0, 0, 0), some (.isub, 142, 0, 0, 0, 0), some (.ireturn, 143, 0, 0, 1, 0), some (.iinc 3 1, 146, 3, 0, 0, 0)],
  [none, none, some (.goto (-38), 108, 0, 0, 0, 0), none, none, some (.iinc 2 1, 152, 2, 0, 0, 0), none, none, some (.goto (-54), 98, 0, 0, 0, 0), none, none, some (.bipush (-2), 157, 0, 0, 0, 0), none, some (.ireturn, 158, 0, 0, 1, 0)]]
def zt235 : ZT := [[some (.iconst 0, 1, 0, 0, 0, 0), some (.istore_n 3, 2, 3, 0, 0, 0), some (.iload_n 3, 3, 3, 0, 0, 0), some (.bipush 6, 5, 0, 0, 0, 0), none, some (.if_icmp .ge 36, 8, 41, 0, 0, 0), none, none, some (.aload_n 0, 9, 0, 0, 0, 0), some (.getfield 61, 12, 32, 2, 11, 0), none, none, some (.bipush 6, 14, 0, 0, 0, 0), none, some (.iload_n 1, 15, 1, 0, 0, 0), some (.imul, 16, 0, 0, 0, 0)],
  [some (.iload_n 3, 17, 3, 0, 0, 0), some (.iadd, 18, 0, 0, 0, 0), some (.iaload, 19, 0, 0, 0, 0), some (.aload_n 0, 20, 0, 0, 0, 0), some (.getfield 61, 23, 32, 2, 11, 0), none, none, some (.bipush 6, 25, 0, 0, 0, 0), none, some (.iload_n 2, 26, 2, 0, 0, 0), some (.imul, 27, 0, 0, 0, 0), some (.iload_n 3, 28, 3, 0, 0, 0), some (.iadd, 29, 0, 0, 0, 0), some (.iaload, 30, 0, 0, 0, 0), some (.if_icmp .eq 5, 33, 35, 0, 0, 0), none],
  [none, some (.iconst 0, 34, 0, 0, 0, 0), some (.ireturn, 35, 0, 0, 2, 0), some (.iinc 3 1, 38, 3, 0, 0, 0), none, none, some (.goto (-36), 2, 0, 0, 0, 0), none, none, some (.iconst 1, 42, 0, 0, 0, 0), some (.ireturn, 43, 0, 0, 2, 0)]]
def zt236 : ZT := [[some (.aload_n 0, 1, 0, 0, 0, 0), some (.iload_n 2, 2, 2, 0, 0, 0), some (.invokevirtual 292, 5, 178, 2, 0, 0), none, none, some (.ifCond .eq 15, 8, 20, 0, 0, 0), none, none, some (.iload_n 1, 9, 1, 0, 0, 0), some (.i2l, 10, 0, 0, 0, 0), some (.lconst 0, 11, 0, 0, 0, 0), some (.ldc2_w 431, 14, 0, 0, 0, 9999), none, none, some (.invokestatic 121, 17, 150, 3, 0, 0), none],
  [none, some (.ifCond .ne 5, 20, 22, 0, 0, 0), none, none, some (.iconst (-1), 21, 0, 0, 0, 0), some (.ireturn, 22, 0, 0, 1, 0), some (.iconst 0, 23, 0, 0, 0, 0), some (.istore_n 3, 24, 3, 0, 0, 0), some (.iconst 0, 25, 0, 0, 0, 0), some (.istore 4, 27, 4, 0, 0, 0), none, some (.iload 4, 29, 4, 0, 0, 0), none, some (.bipush 6, 31, 0, 0, 0, 0), none, some (.if_icmp .ge 18, 34, 49, 0, 0, 0)],
  [none, none, some (.iload_n 3, 35, 3, 0, 0, 0), some (.aload_n 0, 36, 0, 0, 0, 0), some (.iload 4, 38, 4, 0, 0, 0), none, some (.invokevirtual 433, 41, 237, 2, 0, 0), none, none, some (.iadd, 42, 0, 0, 0, 0), some (.istore_n 3, 43, 3, 0, 0, 0), some (.iinc 4 1, 46, 4, 0, 0, 0), none, none, some (.goto (-19), 27, 0, 0, 0, 0), none],
  [none, some (.iload_n 3, 50, 3, 0, 0, 0), some (.ifCond .eq 11, 53, 61, 0, 0, 0), none, none, some (.aload_n 0, 54, 0, 0, 0, 0), some (.iload_n 2, 55, 2, 0, 0, 0), some (.invokevirtual 295, 58, 180, 2, 0, 0), none, none, some (.ifCond .ne 5, 61, 63, 0, 0, 0), none, none, some (.iconst 0, 62, 0, 0, 0, 0), some (.ireturn, 63, 0, 0, 1, 0), some (.iload_n 1, 64, 1, 0, 0, 0)],
  [some (.aload_n 0, 65, 0, 0, 0, 0), some (.iload_n 2, 66, 2, 0, 0, 0), some (.invokevirtual 433, 69, 237, 2, 0, 0), none, none, some (.imul, 70, 0, 0, 0, 0), some (.istore 4, 72, 4, 0, 0, 0), none, some (.iload_n 1, 73, 1, 0, 0, 0), some (.istore 5, 75, 5, 0, 0, 0), none, some (.iconst 0, 76, 0, 0, 0, 0), some (.istore 6, 78, 6, 0, 0, 0), none, some (.iconst 0, 79, 0, 0, 0, 0), some (.istore 7, 81, 7, 0, 0, 0)],
  [none, some (.iload 7, 83, 7, 0, 0, 0), none, some (.bipush 6, 85, 0, 0, 0, 0), none, some (.if_icmp .ge 87, 88, 172, 0, 0, 0), none, none, some (.iload_n 1, 89, 1, 0, 0, 0), some (.aload_n 0, 90, 0, 0, 0, 0), some (.iload 7, 92, 7, 0, 0, 0), none, some (.invokevirtual 433, 95, 237, 2, 0, 0), none, none, some (.imul, 96, 0, 0, 0, 0)],
  [some (.istore 8, 98, 8, 0, 0, 0), none, some (.iload 5, 100, 5, 0, 0, 0), none, some (.iload 8, 102, 8, 0, 0, 0), none, some (.iload_n 3, 103, 3, 0, 0, 0), some (.idiv, 104, 0, 0, 0, 0), some (.isub, 105, 0, 0, 0, 0), some (.istore 5, 107, 5, 0, 0, 0), none, some (.iload 8, 109, 8, 0, 0, 0), none, some (.iload_n 3, 110, 3, 0, 0, 0), some (.irem, 111, 0, 0, 0, 0), some (.iload 4, 113, 4, 0, 0, 0)],
  [none, some (.iload_n 3, 114, 3, 0, 0, 0), some (.irem, 115, 0, 0, 0, 0), some (.if_icmp .gt 20, 118, 135, 0, 0, 0), none, none, some (.iload 8, 120, 8, 0, 0, 0), none, some (.iload_n 3, 121, 3, 0, 0, 0), some (.irem, 122, 0, 0, 0, 0), some (.iload 4, 124, 4, 0, 0, 0), none, some (.iload_n 3, 125, 3, 0, 0, 0), some (.irem, 126, 0, 0, 0, 0), some (.if_icmp .ne 13, 129, 139, 0, 0, 0), none],
  [none, some (.iload 7, 131, 7, 0, 0, 0), none, some (.iload_n 2, 132, 2, 0, 0, 0), some (.if_icmp .ge 7, 135, 139, 0, 0, 0), none, none, some (.iconst 1, 136, 0, 0, 0, 0), some (.goto 4, 140, 0, 0, 0, 0), none, none, some (.iconst 0, 140, 0, 0, 0, 0), some (.istore 9, 142, 9, 0, 0, 0), none, some (.iload 6, 144, 6, 0, 0, 0), none],
  [some (.iload 9, 146, 9, 0, 0, 0), none, some (.ifCond .eq 16, 149, 162, 0, 0, 0), none, none, some (.aload_n 0, 150, 0, 0, 0, 0), some (.iload 7, 152, 7, 0, 0, 0), none, some (.invokevirtual 295, 155, 180, 2, 0, 0), none, none, some (.ifCond .eq 7, 158, 162, 0, 0, 0), none, none, some (.iconst 1, 159, 0, 0, 0, 0), some (.goto 4, 163, 0, 0, 0, 0)],
  [none, none, some (.iconst 0, 163, 0, 0, 0, 0), some (.iadd, 164, 0, 0, 0, 0), some (.istore 6, 166, 6, 0, 0, 0), none, some (.iinc 7 1, 169, 7, 0, 0, 0), none, none, some (.goto (-88), 81, 0, 0, 0, 0), none, none, some (.iload 4, 174, 4, 0, 0, 0), none, some (.iload_n 3, 175, 3, 0, 0, 0), some (.idiv, 176, 0, 0, 0, 0)],
  [some (.iload 6, 178, 6, 0, 0, 0), none, some (.iload 5, 180, 5, 0, 0, 0), none, some (.if_icmp .ge 7, 183, 187, 0, 0, 0), none, none, some (.iconst 1, 184, 0, 0, 0, 0), some (.goto 4, 188, 0, 0, 0, 0), none, none, some (.iconst 0, 188, 0, 0, 0, 0), some (.iadd, 189, 0, 0, 0, 0), some (.ireturn, 190, 0, 0, 1, 0)]]
def zt237 : ZT := [[some (.aload_n 0, 1, 0, 0, 0, 0), some (.iload_n 1, 2, 1, 0, 0, 0), some (.invokevirtual 295, 5, 180, 2, 0, 0), none, none, some (.ifCond .eq 14, 8, 19, 0, 0, 0), none, none, some (.bipush 99, 10, 0, 0, 0, 0), none, some (.aload_n 0, 11, 0, 0, 0, 0), some (.iload_n 1, 12, 1, 0, 0, 0), some (.invokevirtual 331, 15, 189, 2, 0, 0), none, none, some (.isub, 16, 0, 0, 0, 0)],
  [some (.goto 4, 20, 0, 0, 0, 0), none, none, some (.iconst 0, 20, 0, 0, 0, 0), some (.ireturn, 21, 0, 0, 1, 0)]]
def zt238 : ZT := [[some (.iload_n 1, 1, 1, 0, 0, 0), some (.iconst (-1), 2, 0, 0, 0, 0), some (.if_icmp .ne 14, 5, 16, 0, 0, 0), none, none, some (.aload_n 0, 6, 0, 0, 0, 0), some (.getfield 39, 9, 20, 2, 11, 0), none, none, some (.sipush 145, 12, 0, 0, 0, 0), none, none, some (.iconst 0, 13, 0, 0, 0, 0), some (.iastore, 14, 0, 0, 0, 0), some (.iconst 0, 15, 0, 0, 0, 0), some (.ireturn, 16, 0, 0, 1, 0)],
  [some (.iload_n 1, 17, 1, 0, 0, 0), some (.i2l, 18, 0, 0, 0, 0), some (.lconst 0, 19, 0, 0, 0, 0), some (.ldc2_w 436, 22, 0, 0, 0, 60), none, none, some (.invokestatic 121, 25, 150, 3, 0, 0), none, none, some (.ifCond .eq 37, 28, 62, 0, 0, 0), none, none, some (.aload_n 0, 29, 0, 0, 0, 0), some (.iload_n 2, 30, 2, 0, 0, 0), some (.invokevirtual 292, 33, 178, 2, 0, 0), none],
  [none, some (.ifCond .eq 29, 36, 62, 0, 0, 0), none, none, some (.iload_n 3, 37, 3, 0, 0, 0), some (.iconst (-1), 38, 0, 0, 0, 0), some (.if_icmp .eq 11, 41, 49, 0, 0, 0), none, none, some (.aload_n 0, 42, 0, 0, 0, 0), some (.iload_n 3, 43, 3, 0, 0, 0), some (.invokevirtual 318, 46, 184, 2, 0, 0), none, none, some (.ifCond .eq 16, 49, 62, 0, 0, 0), none],
  [none, some (.aload_n 0, 50, 0, 0, 0, 0), some (.getfield 39, 53, 20, 2, 11, 0), none, none, some (.sipush 145, 56, 0, 0, 0, 0), none, none, some (.iaload, 57, 0, 0, 0, 0), some (.bipush 10, 59, 0, 0, 0, 0), none, some (.if_icmp .ne 6, 62, 65, 0, 0, 0), none, none, some (.bipush (-2), 64, 0, 0, 0, 0), none],
  [some (.ireturn, 65, 0, 0, 1, 0), some (.bipush 115, 67, 0, 0, 0, 0), none, some (.iconst 3, 68, 0, 0, 0, 0), some (.aload_n 0, 69, 0, 0, 0, 0), some (.getfield 39, 72, 20, 2, 11, 0), none, none, some (.sipush 145, 75, 0, 0, 0, 0), none, none, some (.iaload, 76, 0, 0, 0, 0), some (.imul, 77, 0, 0, 0, 0), some (.iadd, 78, 0, 0, 0, 0), some (.istore 4, 80, 4, 0, 0, 0), none],
  [some (.aload_n 0, 81, 0, 0, 0, 0), some (.getfield 39, 84, 20, 2, 11, 0), none, none, some (.iload 4, 86, 4, 0, 0, 0), none, some (.iload_n 1, 87, 1, 0, 0, 0), some (.iastore, 88, 0, 0, 0, 0), some (.aload_n 0, 89, 0, 0, 0, 0), some (.getfield 39, 92, 20, 2, 11, 0), none, none, some (.iload 4, 94, 4, 0, 0, 0), none, some (.iconst 1, 95, 0, 0, 0, 0), some (.iadd, 96, 0, 0, 0, 0)],
  [some (.iload_n 2, 97, 2, 0, 0, 0), some (.iastore, 98, 0, 0, 0, 0), some (.aload_n 0, 99, 0, 0, 0, 0), some (.getfield 39, 102, 20, 2, 11, 0), none, none, some (.iload 4, 104, 4, 0, 0, 0), none, some (.iconst 2, 105, 0, 0, 0, 0), some (.iadd, 106, 0, 0, 0, 0), some (.iload_n 3, 107, 3, 0, 0, 0), some (.iastore, 108, 0, 0, 0, 0), some (.aload_n 0, 109, 0, 0, 0, 0), some (.getfield 39, 112, 20, 2, 11, 0), none, none],
  [some (.sipush 145, 115, 0, 0, 0, 0), none, none, some (.dup2, 116, 0, 0, 0, 0), some (.iaload, 117, 0, 0, 0, 0), some (.iconst 1, 118, 0, 0, 0, 0), some (.iadd, 119, 0, 0, 0, 0), some (.iastore, 120, 0, 0, 0, 0), some (.aload_n 0, 121, 0, 0, 0, 0), some (.getfield 39, 124, 20, 2, 11, 0), none, none, some (.sipush 145, 127, 0, 0, 0, 0), none, none, some (.iaload, 128, 0, 0, 0, 0)],
  [some (.ireturn, 129, 0, 0, 1, 0)]]
def zt239 : ZT := [[some (.aload_n 0, 1, 0, 0, 0, 0), some (.invokevirtual 287, 4, 179, 1, 0, 0), none, none, some (.ifCond .eq 31, 7, 35, 0, 0, 0), none, none, some (.iload_n 1, 8, 1, 0, 0, 0), some (.i2l, 9, 0, 0, 0, 0), some (.lconst 0, 10, 0, 0, 0, 0), some (.aload_n 0, 11, 0, 0, 0, 0), some (.getfield 39, 14, 20, 2, 11, 0), none, none, some (.iconst 3, 15, 0, 0, 0, 0), some (.iaload, 16, 0, 0, 0, 0)],
  [some (.iconst 1, 17, 0, 0, 0, 0), some (.isub, 18, 0, 0, 0, 0), some (.i2l, 19, 0, 0, 0, 0), some (.invokestatic 121, 22, 150, 3, 0, 0), none, none, some (.ifCond .eq 13, 25, 35, 0, 0, 0), none, none, some (.iload_n 2, 26, 2, 0, 0, 0), some (.i2l, 27, 0, 0, 0, 0), some (.lconst 0, 28, 0, 0, 0, 0), some (.lconst 1, 29, 0, 0, 0, 1), some (.invokestatic 121, 32, 150, 3, 0, 0), none, none],
  [some (.ifCond .ne 5, 35, 37, 0, 0, 0), none, none, some (.iconst (-1), 36, 0, 0, 0, 0), some (.ireturn, 37, 0, 0, 1, 0), some (.iconst 0, 38, 0, 0, 0, 0), some (.istore_n 3, 39, 3, 0, 0, 0), some (.iconst 0, 40, 0, 0, 0, 0), some (.istore 4, 42, 4, 0, 0, 0), none, some (.aload_n 0, 43, 0, 0, 0, 0), some (.invokevirtual 385, 46, 215, 1, 0, 0), none, none, some (.iconst 0, 47, 0, 0, 0, 0), some (.istore 5, 49, 5, 0, 0, 0)],
  [none, some (.iload 5, 51, 5, 0, 0, 0), none, some (.aload_n 0, 52, 0, 0, 0, 0), some (.getfield 39, 55, 20, 2, 11, 0), none, none, some (.iconst 2, 56, 0, 0, 0, 0), some (.iaload, 57, 0, 0, 0, 0), some (.if_icmp .ge 52, 60, 109, 0, 0, 0), none, none, some (.aload_n 0, 61, 0, 0, 0, 0), some (.invokevirtual 266, 64, 173, 1, 0, 0), none, none],
  [some (.aload_n 0, 65, 0, 0, 0, 0), some (.getfield 39, 68, 20, 2, 11, 0), none, none, some (.bipush 12, 70, 0, 0, 0, 0), none, some (.iconst 5, 71, 0, 0, 0, 0), some (.iload_n 1, 72, 1, 0, 0, 0), some (.imul, 73, 0, 0, 0, 0), some (.iadd, 74, 0, 0, 0, 0), some (.iconst 2, 75, 0, 0, 0, 0), some (.iadd, 76, 0, 0, 0, 0), some (.iload 5, 78, 5, 0, 0, 0), none, some (.iastore, 79, 0, 0, 0, 0), some (.aload_n 0, 80, 0, 0, 0, 0)],
  [some (.iconst 0, 81, 0, 0, 0, 0), some (.iconst (-1), 82, 0, 0, 0, 0), some (.invokevirtual 444, 85, 240, 3, 0, 0), none, none, some (.ifCond .ne 6, 88, 91, 0, 0, 0), none, none, some (.goto 15, 103, 0, 0, 0, 0), none, none, some (.iinc 3 1, 94, 3, 0, 0, 0), none, none, some (.iload 4, 96, 4, 0, 0, 0), none],
  [some (.iconst 1, 97, 0, 0, 0, 0), some (.iload 5, 99, 5, 0, 0, 0), none, some (.ishl, 100, 0, 0, 0, 0), some (.ior, 101, 0, 0, 0, 0), some (.istore 4, 103, 4, 0, 0, 0), none, some (.iinc 5 1, 106, 5, 0, 0, 0), none, none, some (.goto (-57), 49, 0, 0, 0, 0), none, none, some (.aload_n 0, 110, 0, 0, 0, 0), some (.invokevirtual 395, 113, 217, 1, 0, 0), none],
  [none, some (.iload_n 2, 114, 2, 0, 0, 0), some (.ifCond .ne 7, 117, 121, 0, 0, 0), none, none, some (.iload_n 3, 118, 3, 0, 0, 0), some (.goto 5, 123, 0, 0, 0, 0), none, none, some (.iload 4, 123, 4, 0, 0, 0), none, some (.ireturn, 124, 0, 0, 1, 0)]]
def zt240 : ZT := [[some (.iconst 1, 1, 0, 0, 0, 0), some (.istore_n 3, 2, 3, 0, 0, 0), some (.iconst 0, 3, 0, 0, 0, 0), some (.istore 4, 5, 4, 0, 0, 0), none, some (.iload 4, 7, 4, 0, 0, 0), none, some (.bipush 60, 9, 0, 0, 0, 0), none, some (.if_icmp .gt 73, 12, 82, 0, 0, 0), none, none, some (.iload_n 3, 13, 3, 0, 0, 0), some (.ifCond .eq 16, 16, 29, 0, 0, 0), none, none],
  [some (.aload_n 0, 17, 0, 0, 0, 0), some (.iload 4, 19, 4, 0, 0, 0), none, some (.invokevirtual 441, 22, 241, 2, 0, 0), none, none, some (.ifCond .eq 7, 25, 29, 0, 0, 0), none, none, some (.iconst 1, 26, 0, 0, 0, 0), some (.goto 4, 30, 0, 0, 0, 0), none, none, some (.iconst 0, 30, 0, 0, 0, 0), some (.istore_n 3, 31, 3, 0, 0, 0), some (.iconst 0, 32, 0, 0, 0, 0)],
  [some (.istore 5, 34, 5, 0, 0, 0), none, some (.iload 5, 36, 5, 0, 0, 0), none, some (.bipush 6, 38, 0, 0, 0, 0), none, some (.if_icmp .ge 33, 41, 71, 0, 0, 0), none, none, some (.iload 4, 43, 4, 0, 0, 0), none, some (.iload_n 2, 44, 2, 0, 0, 0), some (.if_icmp .ne 27, 47, 71, 0, 0, 0), none, none, some (.aload_n 0, 48, 0, 0, 0, 0)],
  [some (.getfield 68, 51, 34, 2, 11, 0), none, none, some (.bipush 6, 53, 0, 0, 0, 0), none, some (.iload_n 1, 54, 1, 0, 0, 0), some (.imul, 55, 0, 0, 0, 0), some (.iload 5, 57, 5, 0, 0, 0), none, some (.iadd, 58, 0, 0, 0, 0), some (.aload_n 0, 59, 0, 0, 0, 0), some (.iload 5, 61, 5, 0, 0, 0), none, some (.invokevirtual 438, 64, 242, 2, 0, 0), none, none],
  [some (.iastore, 65, 0, 0, 0, 0), some (.iinc 5 1, 68, 5, 0, 0, 0), none, none, some (.goto (-34), 34, 0, 0, 0, 0), none, none, some (.aload_n 0, 72, 0, 0, 0, 0), some (.invokevirtual 366, 75, 188, 1, 0, 0), none, none, some (.pop, 76, 0, 0, 0, 0), some (.iinc 4 1, 79, 4, 0, 0, 0), none, none, some (.goto (-74), 5, 0, 0, 0, 0)],
  [none, none, some (.iload_n 3, 83, 3, 0, 0, 0), some (.ireturn, 84, 0, 0, 2, 0)]]
def zt241 : ZT := [[some (.iconst 0, 1, 0, 0, 0, 0), some (.istore_n 2, 2, 2, 0, 0, 0), some (.iload_n 2, 3, 2, 0, 0, 0), some (.iconst 3, 4, 0, 0, 0, 0), some (.aload_n 0, 5, 0, 0, 0, 0), some (.getfield 39, 8, 20, 2, 11, 0), none, none, some (.sipush 145, 11, 0, 0, 0, 0), none, none, some (.iaload, 12, 0, 0, 0, 0), some (.imul, 13, 0, 0, 0, 0), some (.if_icmp .ge 53, 16, 66, 0, 0, 0), none, none],
  [some (.aload_n 0, 17, 0, 0, 0, 0), some (.getfield 39, 20, 20, 2, 11, 0), none, none, some (.bipush 115, 22, 0, 0, 0, 0), none, some (.iload_n 2, 23, 2, 0, 0, 0), some (.iadd, 24, 0, 0, 0, 0), some (.iaload, 25, 0, 0, 0, 0), some (.iload_n 1, 26, 1, 0, 0, 0), some (.if_icmp .ne 34, 29, 60, 0, 0, 0), none, none, some (.aload_n 0, 30, 0, 0, 0, 0), some (.aload_n 0, 31, 0, 0, 0, 0), some (.getfield 39, 34, 20, 2, 11, 0)],
  [none, none, some (.bipush 115, 36, 0, 0, 0, 0), none, some (.iload_n 2, 37, 2, 0, 0, 0), some (.iadd, 38, 0, 0, 0, 0), some (.iconst 1, 39, 0, 0, 0, 0), some (.iadd, 40, 0, 0, 0, 0), some (.iaload, 41, 0, 0, 0, 0), some (.invokevirtual 438, 44, 242, 2, 0, 0), none, none, some (.aload_n 0, 45, 0, 0, 0, 0), some (.getfield 39, 48, 20, 2, 11, 0), none, none],
  [some (.bipush 115, 50, 0, 0, 0, 0), none, some (.iload_n 2, 51, 2, 0, 0, 0), some (.iadd, 52, 0, 0, 0, 0), some (.iconst 2, 53, 0, 0, 0, 0), some (.iadd, 54, 0, 0, 0, 0), some (.iaload, 55, 0, 0, 0, 0), some (.if_icmp .eq 5, 58, 60, 0, 0, 0), none, none, some (.iconst 0, 59, 0, 0, 0, 0), some (.ireturn, 60, 0, 0, 2, 0), some (.iinc 2 3, 63, 2, 0, 0, 0), none, none, some (.goto (-61), 2, 0, 0, 0, 0)],
  [none, none, some (.iconst 1, 67, 0, 0, 0, 0), some (.ireturn, 68, 0, 0, 2, 0)]]
def zt242 : ZT := [[some (.aload_n 0, 1, 0, 0, 0, 0), some (.iload_n 1, 2, 1, 0, 0, 0), some (.invokevirtual 295, 5, 180, 2, 0, 0), none, none, some (.ifCond .eq 11, 8, 16, 0, 0, 0), none, none, some (.aload_n 0, 9, 0, 0, 0, 0), some (.iload_n 1, 10, 1, 0, 0, 0), some (.invokevirtual 298, 13, 191, 2, 0, 0), none, none, some (.goto 4, 17, 0, 0, 0, 0), none, none],
  [some (.iconst (-1), 17, 0, 0, 0, 0), some (.ireturn, 18, 0, 0, 1, 0)]]
def zt243 : ZT := [[some (.aload_n 0, 1, 0, 0, 0, 0), some (.invokevirtual 287, 4, 179, 1, 0, 0), none, none, some (.ifCond .eq 13, 7, 17, 0, 0, 0), none, none, some (.iload_n 1, 8, 1, 0, 0, 0), some (.i2l, 9, 0, 0, 0, 0), some (.lconst 0, 10, 0, 0, 0, 0), some (.lconst 1, 11, 0, 0, 0, 1), some (.invokestatic 121, 14, 150, 3, 0, 0), none, none, some (.ifCond .ne 6, 17, 20, 0, 0, 0), none],
  [none, some (.bipush (-3), 19, 0, 0, 0, 0), none, some (.ireturn, 20, 0, 0, 1, 0), some (.aload_n 0, 21, 0, 0, 0, 0), some (.iconst 0, 22, 0, 0, 0, 0), some (.invokevirtual 447, 25, 244, 2, 0, 0), none, none, some (.iconst 0, 26, 0, 0, 0, 0), some (.istore_n 2, 27, 2, 0, 0, 0), some (.bipush (-2), 29, 0, 0, 0, 0), none, some (.istore_n 3, 30, 3, 0, 0, 0), some (.aload_n 0, 31, 0, 0, 0, 0), some (.getfield 260, 34, 2, 0, 11, 0)],
  [none, none, some (.istore 4, 36, 4, 0, 0, 0), none, some (.iload 4, 38, 4, 0, 0, 0), none, some (.ifCond .lt 30, 41, 68, 0, 0, 0), none, none, some (.aload_n 0, 42, 0, 0, 0, 0), some (.getfield 64, 45, 33, 2, 11, 0), none, none, some (.iload 4, 47, 4, 0, 0, 0), none, some (.baload, 48, 1, 0, 0, 0)],
  [some (.ifCond .ne 6, 51, 54, 0, 0, 0), none, none, some (.goto 11, 62, 0, 0, 0, 0), none, none, some (.iload 4, 56, 4, 0, 0, 0), none, some (.iconst 1, 57, 0, 0, 0, 0), some (.isub, 58, 0, 0, 0, 0), some (.istore_n 3, 59, 3, 0, 0, 0), some (.iinc 2 1, 62, 2, 0, 0, 0), none, none, some (.iinc 4 (-1), 65, 4, 0, 0, 0), none],
  [none, some (.goto (-29), 36, 0, 0, 0, 0), none, none, some (.iload_n 1, 69, 1, 0, 0, 0), some (.ifCond .ne 7, 72, 76, 0, 0, 0), none, none, some (.iload_n 2, 73, 2, 0, 0, 0), some (.goto 4, 77, 0, 0, 0, 0), none, none, some (.iload_n 3, 77, 3, 0, 0, 0), some (.ireturn, 78, 0, 0, 1, 0)]]
def zt244 : ZT := [[some (.aload_n 0, 1, 0, 0, 0, 0), some (.getfield 42, 4, 21, 0, 11, 0), none, none, some (.istore_n 2, 5, 2, 0, 0, 0), some (.aload_n 0, 6, 0, 0, 0, 0), some (.invokevirtual 385, 9, 215, 1, 0, 0), none, none, some (.iconst 0, 10, 0, 0, 0, 0), some (.istore_n 3, 11, 3, 0, 0, 0), some (.iload_n 3, 12, 3, 0, 0, 0), some (.aload_n 0, 13, 0, 0, 0, 0), some (.getfield 260, 16, 2, 0, 11, 0), none, none],
  [some (.if_icmp .gt 32, 19, 48, 0, 0, 0), none, none, some (.aload_n 0, 20, 0, 0, 0, 0), some (.iload_n 3, 21, 3, 0, 0, 0), some (.iconst 1, 22, 0, 0, 0, 0), some (.isub, 23, 0, 0, 0, 0), some (.putfield 42, 26, 21, 0, 11, 0), none, none, some (.aload_n 0, 27, 0, 0, 0, 0), some (.invokevirtual 266, 30, 173, 1, 0, 0), none, none, some (.aload_n 0, 31, 0, 0, 0, 0), some (.getfield 64, 34, 33, 2, 11, 0)],
  [none, none, some (.iload_n 3, 35, 3, 0, 0, 0), some (.aload_n 0, 36, 0, 0, 0, 0), some (.iload_n 3, 37, 3, 0, 0, 0), some (.iload_n 1, 38, 1, 0, 0, 0), some (.invokevirtual 444, 41, 240, 3, 0, 0), none, none, some (.bastore, 42, 1, 0, 0, 0), some (.iinc 3 1, 45, 3, 0, 0, 0), none, none, some (.goto (-34), 11, 0, 0, 0, 0), none, none],
  [some (.aload_n 0, 49, 0, 0, 0, 0), some (.iload_n 2, 50, 2, 0, 0, 0), some (.putfield 42, 53, 21, 0, 11, 0), none, none, some (.aload_n 0, 54, 0, 0, 0, 0), some (.invokevirtual 395, 57, 217, 1, 0, 0), none, none, some (.return_, 58, 0, 0, 0, 0)]]
def zt245 : ZT := [[some (.aload_n 0, 1, 0, 0, 0, 0), some (.invokevirtual 287, 4, 179, 1, 0, 0), none, none, some (.ifCond .eq 25, 7, 29, 0, 0, 0), none, none, some (.iload_n 1, 8, 1, 0, 0, 0), some (.i2l, 9, 0, 0, 0, 0), some (.lconst 0, 10, 0, 0, 0, 0), some (.ldc2_w 436, 13, 0, 0, 0, 60), none, none, some (.invokestatic 121, 16, 150, 3, 0, 0), none, none],
  [some (.ifCond .eq 13, 19, 29, 0, 0, 0), none, none, some (.iload_n 2, 20, 2, 0, 0, 0), some (.i2l, 21, 0, 0, 0, 0), some (.lconst 0, 22, 0, 0, 0, 0), some (.lconst 1, 23, 0, 0, 0, 1), some (.invokestatic 121, 26, 150, 3, 0, 0), none, none, some (.ifCond .ne 5, 29, 31, 0, 0, 0), none, none, some (.iconst (-1), 30, 0, 0, 0, 0), some (.ireturn, 31, 0, 0, 1, 0), some (.aload_n 0, 32, 0, 0, 0, 0)],
  [some (.iload_n 1, 33, 1, 0, 0, 0), some (.invokevirtual 447, 36, 244, 2, 0, 0), none, none, some (.bipush (-2), 38, 0, 0, 0, 0), none, some (.istore_n 3, 39, 3, 0, 0, 0), some (.bipush (-2), 41, 0, 0, 0, 0), none, some (.istore 4, 43, 4, 0, 0, 0), none, some (.iconst 0, 44, 0, 0, 0, 0), some (.istore 5, 46, 5, 0, 0, 0), none, some (.iload 5, 48, 5, 0, 0, 0), none],
  [some (.bipush 6, 50, 0, 0, 0, 0), none, some (.if_icmp .ge 43, 53, 93, 0, 0, 0), none, none, some (.aload_n 0, 54, 0, 0, 0, 0), some (.iload 5, 56, 5, 0, 0, 0), none, some (.invokevirtual 450, 59, 246, 2, 0, 0), none, none, some (.istore 6, 61, 6, 0, 0, 0), none, some (.iload 6, 63, 6, 0, 0, 0), none, some (.ifCond .eq 24, 66, 87, 0, 0, 0)],
  [none, none, some (.iload_n 3, 67, 3, 0, 0, 0), some (.ifCond .lt 13, 70, 80, 0, 0, 0), none, none, some (.iload 6, 72, 6, 0, 0, 0), none, some (.iload 4, 74, 4, 0, 0, 0), none, some (.if_icmp .lt 6, 77, 80, 0, 0, 0), none, none, some (.goto 10, 87, 0, 0, 0, 0), none, none],
  [some (.iload 5, 82, 5, 0, 0, 0), none, some (.istore_n 3, 83, 3, 0, 0, 0), some (.iload 6, 85, 6, 0, 0, 0), none, some (.istore 4, 87, 4, 0, 0, 0), none, some (.iinc 5 1, 90, 5, 0, 0, 0), none, none, some (.goto (-44), 46, 0, 0, 0, 0), none, none, some (.iload_n 2, 94, 2, 0, 0, 0), some (.ifCond .ne 7, 97, 101, 0, 0, 0), none],
  [none, some (.iload_n 3, 98, 3, 0, 0, 0), some (.goto 5, 103, 0, 0, 0, 0), none, none, some (.iload 4, 103, 4, 0, 0, 0), none, some (.ireturn, 104, 0, 0, 1, 0)]]
def zt246 : ZT := [[some (.iconst 0, 1, 0, 0, 0, 0), some (.istore_n 2, 2, 2, 0, 0, 0), some (.iconst 0, 3, 0, 0, 0, 0), some (.istore_n 3, 4, 3, 0, 0, 0), some (.iload_n 3, 5, 3, 0, 0, 0), some (.aload_n 0, 6, 0, 0, 0, 0), some (.getfield 260, 9, 2, 0, 11, 0), none, none, some (.if_icmp .gt 98, 12, 107, 0, 0, 0), none, none, some (.iconst 0, 13, 0, 0, 0, 0), some (.istore 4, 15, 4, 0, 0, 0), none, some (.iconst 0, 16, 0, 0, 0, 0)],
  [some (.istore 5, 18, 5, 0, 0, 0), none, some (.iload 5, 20, 5, 0, 0, 0), none, some (.aload_n 0, 21, 0, 0, 0, 0), some (.getfield 260, 24, 2, 0, 11, 0), none, none, some (.if_icmp .gt 64, 27, 88, 0, 0, 0), none, none, some (.aload_n 0, 28, 0, 0, 0, 0), some (.getfield 64, 31, 33, 2, 11, 0), none, none, some (.iload_n 3, 32, 3, 0, 0, 0)],
  [some (.baload, 33, 1, 0, 0, 0), some (.ifCond .eq 55, 36, 88, 0, 0, 0), none, none, some (.iload 4, 38, 4, 0, 0, 0), none, some (.aload_n 0, 39, 0, 0, 0, 0), some (.getfield 64, 42, 33, 2, 11, 0), none, none, some (.iload 5, 44, 5, 0, 0, 0), none, some (.baload, 45, 1, 0, 0, 0), some (.ifCond .eq 33, 48, 78, 0, 0, 0), none, none],
  [some (.aload_n 0, 49, 0, 0, 0, 0), some (.getfield 68, 52, 34, 2, 11, 0), none, none, some (.bipush 6, 54, 0, 0, 0, 0), none, some (.iload_n 3, 55, 3, 0, 0, 0), some (.imul, 56, 0, 0, 0, 0), some (.iload_n 1, 57, 1, 0, 0, 0), some (.iadd, 58, 0, 0, 0, 0), some (.iaload, 59, 0, 0, 0, 0), some (.aload_n 0, 60, 0, 0, 0, 0), some (.getfield 68, 63, 34, 2, 11, 0), none, none, some (.bipush 6, 65, 0, 0, 0, 0)],
  [none, some (.iload 5, 67, 5, 0, 0, 0), none, some (.imul, 68, 0, 0, 0, 0), some (.iload_n 1, 69, 1, 0, 0, 0), some (.iadd, 70, 0, 0, 0, 0), some (.iaload, 71, 0, 0, 0, 0), some (.if_icmp .ne 7, 74, 78, 0, 0, 0), none, none, some (.iconst 1, 75, 0, 0, 0, 0), some (.goto 4, 79, 0, 0, 0, 0), none, none, some (.iconst 0, 79, 0, 0, 0, 0), some (.iadd, 80, 0, 0, 0, 0)],
  [some (.istore 4, 82, 4, 0, 0, 0), none, some (.iinc 5 1, 85, 5, 0, 0, 0), none, none, some (.goto (-67), 18, 0, 0, 0, 0), none, none, some (.iload 4, 90, 4, 0, 0, 0), none, some (.iload_n 2, 91, 2, 0, 0, 0), some (.if_icmp .le 8, 94, 99, 0, 0, 0), none, none, some (.iload 4, 96, 4, 0, 0, 0), none],
  [some (.goto 4, 100, 0, 0, 0, 0), none, none, some (.iload_n 2, 100, 2, 0, 0, 0), some (.istore_n 2, 101, 2, 0, 0, 0), some (.iinc 3 1, 104, 3, 0, 0, 0), none, none, some (.goto (-100), 4, 0, 0, 0, 0), none, none, some (.iload_n 2, 108, 2, 0, 0, 0), some (.ireturn, 109, 0, 0, 1, 0)]]
def zt247 : ZT := [[some (.iload_n 1, 1, 1, 0, 0, 0), some (.ifCond .ge 5, 4, 6, 0, 0, 0), none, none, some (.iconst (-1), 5, 0, 0, 0, 0), some (.ireturn, 6, 0, 0, 1, 0), some (.aload_n 0, 7, 0, 0, 0, 0), some (.getfield 453, 10, 22, 0, 11, 0), none, none, some (.istore_n 2, 11, 2, 0, 0, 0), some (.aload_n 0, 12, 0, 0, 0, 0), some (.iload_n 1, 13, 1, 0, 0, 0), some (.putfield 453, 16, 22, 0, 11, 0), none, none],
  [some (.iload_n 2, 17, 2, 0, 0, 0), some (.ireturn, 18, 0, 0, 1, 0)]]
def zt248 : ZT := [[some (.aload_n 0, 1, 0, 0, 0, 0), some (.invokevirtual 287, 4, 179, 1, 0, 0), none, none, some (.ifCond .eq 50, 7, 54, 0, 0, 0), none, none, some (.iload_n 1, 8, 1, 0, 0, 0), some (.i2l, 9, 0, 0, 0, 0), some (.lconst 1, 10, 0, 0, 0, 1), some (.ldc2_w 468, 13, 0, 0, 0, 10), none, none, some (.invokestatic 121, 16, 150, 3, 0, 0), none, none],
  [some (.ifCond .eq 38, 19, 54, 0, 0, 0), none, none, some (.iload_n 2, 20, 2, 0, 0, 0), some (.i2l, 21, 0, 0, 0, 0), some (.lconst 1, 22, 0, 0, 0, 1), some (.ldc2_w 436, 25, 0, 0, 0, 60), none, none, some (.invokestatic 121, 28, 150, 3, 0, 0), none, none, some (.ifCond .eq 26, 31, 54, 0, 0, 0), none, none, some (.iload_n 3, 32, 3, 0, 0, 0)],
  [some (.i2l, 33, 0, 0, 0, 0), some (.lconst 0, 34, 0, 0, 0, 0), some (.ldc2_w 383, 37, 0, 0, 0, 100), none, none, some (.invokestatic 121, 40, 150, 3, 0, 0), none, none, some (.ifCond .eq 14, 43, 54, 0, 0, 0), none, none, some (.iload 4, 45, 4, 0, 0, 0), none, some (.i2l, 46, 0, 0, 0, 0), some (.lconst 0, 47, 0, 0, 0, 0), some (.lconst 1, 48, 0, 0, 0, 1)],
  [some (.invokestatic 121, 51, 150, 3, 0, 0), none, none, some (.ifCond .ne 5, 54, 56, 0, 0, 0), none, none, some (.iconst (-1), 55, 0, 0, 0, 0), some (.ireturn, 56, 0, 0, 1, 0), some (.aload_n 0, 57, 0, 0, 0, 0), some (.aload_n 0, 58, 0, 0, 0, 0), some (.getfield 453, 61, 22, 0, 11, 0), none, none, some (.i2l, 62, 0, 0, 0, 0), some (.putfield 456, 65, 35, 1, 11, 0), none],
  [none, some (.iconst 0, 66, 0, 0, 0, 0), some (.istore 5, 68, 5, 0, 0, 0), none, some (.iconst 0, 69, 0, 0, 0, 0), some (.istore 6, 71, 6, 0, 0, 0), none, some (.aload_n 0, 72, 0, 0, 0, 0), some (.getfield 39, 75, 20, 2, 11, 0), none, none, some (.bipush 11, 77, 0, 0, 0, 0), none, some (.iaload, 78, 0, 0, 0, 0), some (.istore 7, 80, 7, 0, 0, 0), none],
  [some (.aload_n 0, 81, 0, 0, 0, 0), some (.invokevirtual 385, 84, 215, 1, 0, 0), none, none, some (.iconst 0, 85, 0, 0, 0, 0), some (.istore 8, 87, 8, 0, 0, 0), none, some (.iload 8, 89, 8, 0, 0, 0), none, some (.iload_n 1, 90, 1, 0, 0, 0), some (.if_icmp .ge 90, 93, 180, 0, 0, 0), none, none, some (.iconst 0, 94, 0, 0, 0, 0), some (.istore 9, 96, 9, 0, 0, 0), none],
  [some (.iload 9, 98, 9, 0, 0, 0), none, some (.iload_n 2, 99, 2, 0, 0, 0), some (.if_icmp .ge 47, 102, 146, 0, 0, 0), none, none, some (.aload_n 0, 103, 0, 0, 0, 0), some (.bipush 100, 105, 0, 0, 0, 0), none, some (.invokevirtual 470, 108, 249, 2, 0, 0), none, none, some (.iload_n 3, 109, 3, 0, 0, 0), some (.if_icmp .ge 26, 112, 135, 0, 0, 0), none, none],
  [some (.aload_n 0, 113, 0, 0, 0, 0), some (.getfield 39, 116, 20, 2, 11, 0), none, none, some (.iconst 2, 117, 0, 0, 0, 0), some (.iaload, 118, 0, 0, 0, 0), some (.ifCond .le 17, 121, 135, 0, 0, 0), none, none, some (.aload_n 0, 122, 0, 0, 0, 0), some (.aload_n 0, 123, 0, 0, 0, 0), some (.aload_n 0, 124, 0, 0, 0, 0), some (.getfield 39, 127, 20, 2, 11, 0), none, none, some (.iconst 2, 128, 0, 0, 0, 0)],
  [some (.iaload, 129, 0, 0, 0, 0), some (.invokevirtual 470, 132, 249, 2, 0, 0), none, none, some (.invokevirtual 360, 135, 205, 2, 0, 0), none, none, some (.aload_n 0, 136, 0, 0, 0, 0), some (.invokevirtual 366, 139, 188, 1, 0, 0), none, none, some (.pop, 140, 0, 0, 0, 0), some (.iinc 9 1, 143, 9, 0, 0, 0), none, none, some (.goto (-47), 96, 0, 0, 0, 0)],
  [none, none, some (.iload 5, 148, 5, 0, 0, 0), none, some (.aload_n 0, 149, 0, 0, 0, 0), some (.getfield 39, 152, 20, 2, 11, 0), none, none, some (.bipush 11, 154, 0, 0, 0, 0), none, some (.iaload, 155, 0, 0, 0, 0), some (.iload 7, 157, 7, 0, 0, 0), none, some (.isub, 158, 0, 0, 0, 0), some (.iadd, 159, 0, 0, 0, 0), some (.istore 5, 161, 5, 0, 0, 0)],
  [none, some (.iload 6, 163, 6, 0, 0, 0), none, some (.aload_n 0, 164, 0, 0, 0, 0), some (.invokevirtual 473, 167, 250, 1, 0, 0), none, none, some (.iadd, 168, 0, 0, 0, 0), some (.istore 6, 170, 6, 0, 0, 0), none, some (.aload_n 0, 171, 0, 0, 0, 0), some (.invokevirtual 395, 174, 217, 1, 0, 0), none, none, some (.iinc 8 1, 177, 8, 0, 0, 0), none],
  [none, some (.goto (-90), 87, 0, 0, 0, 0), none, none, some (.iload 4, 182, 4, 0, 0, 0), none, some (.ifCond .ne 8, 185, 190, 0, 0, 0), none, none, some (.iload 5, 187, 5, 0, 0, 0), none, some (.goto 5, 192, 0, 0, 0, 0), none, none, some (.iload 6, 192, 6, 0, 0, 0), none],
  [some (.ireturn, 193, 0, 0, 1, 0)]]
def zt249 : ZT := [[some (.aload_n 0, 1, 0, 0, 0, 0), some (.aload_n 0, 2, 0, 0, 0, 0), some (.getfield 456, 5, 35, 1, 11, 0), none, none, some (.ldc2_w 460, 8, 0, 0, 0, 1103515245), none, none, some (.lmul, 9, 0, 0, 0, 0), some (.ldc2_w 462, 12, 0, 0, 0, 12345), none, none, some (.ladd, 13, 0, 0, 0, 0), some (.ldc2_w 464, 16, 0, 0, 0, 2147483648), none, none],
  [some (.lrem, 17, 0, 0, 0, 0), some (.putfield 456, 20, 35, 1, 11, 0), none, none, some (.aload_n 0, 21, 0, 0, 0, 0), some (.getfield 456, 24, 35, 1, 11, 0), none, none, some (.ldc2_w 466, 27, 0, 0, 0, 65536), none, none, some (.ldiv, 28, 0, 0, 0, 0), some (.iload_n 1, 29, 1, 0, 0, 0), some (.i2l, 30, 0, 0, 0, 0), some (.lrem, 31, 0, 0, 0, 0), some (.l2i, 32, 0, 0, 0, 0)],
  [some (.ireturn, 33, 0, 0, 1, 0)]]
def zt250 : ZT := [[some (.iconst 0, 1, 0, 0, 0, 0), some (.istore_n 1, 2, 1, 0, 0, 0), some (.iconst 0, 3, 0, 0, 0, 0), some (.istore_n 2, 4, 2, 0, 0, 0), some (.iload_n 2, 5, 2, 0, 0, 0), some (.aload_n 0, 6, 0, 0, 0, 0), some (.getfield 39, 9, 20, 2, 11, 0), none, none, some (.iconst 2, 10, 0, 0, 0, 0), some (.iaload, 11, 0, 0, 0, 0), some (.if_icmp .ge 21, 14, 32, 0, 0, 0), none, none, some (.iload_n 1, 15, 1, 0, 0, 0), some (.aload_n 0, 16, 0, 0, 0, 0)],
  [some (.getfield 39, 19, 20, 2, 11, 0), none, none, some (.bipush 42, 21, 0, 0, 0, 0), none, some (.iload_n 2, 22, 2, 0, 0, 0), some (.iadd, 23, 0, 0, 0, 0), some (.iaload, 24, 0, 0, 0, 0), some (.iadd, 25, 0, 0, 0, 0), some (.istore_n 1, 26, 1, 0, 0, 0), some (.iinc 2 1, 29, 2, 0, 0, 0), none, none, some (.goto (-25), 4, 0, 0, 0, 0), none, none],
  [some (.iload_n 1, 33, 1, 0, 0, 0), some (.ireturn, 34, 0, 0, 1, 0)]]
def zt251 : ZT := [[some (.iload_n 1, 1, 1, 0, 0, 0), some (.tableswitch 145 0 13 #[71, 71, 71, 80, 85, 90, 98, 103, 111, 116, 121, 130, 135, 140], 72, 0, 0, 0, 0), none, none, none, none, none, none, none, none, none, none, none, none, none, none],
  [none, none, none, none, none, none, none, none, none, none, none, none, none, none, none, none],
  [none, none, none, none, none, none, none, none, none, none, none, none, none, none, none, none],
  [none, none, none, none, none, none, none, none, none, none, none, none, none, none, none, none],
  [none, none, none, none, none, none, none, none, some (.aload_n 0, 73, 0, 0, 0, 0), some (.getfield 39, 76, 20, 2, 11, 0), none, none, some (.iload_n 1, 77, 1, 0, 0, 0), some (.iconst 1, 78, 0, 0, 0, 0), some (.iadd, 79, 0, 0, 0, 0), some (.iaload, 80, 0, 0, 0, 0)],
  [some (.ireturn, 81, 0, 0, 1, 0), some (.aload_n 0, 82, 0, 0, 0, 0), some (.getfield 260, 85, 2, 0, 11, 0), none, none, some (.ireturn, 86, 0, 0, 1, 0), some (.aload_n 0, 87, 0, 0, 0, 0), some (.getfield 42, 90, 21, 0, 11, 0), none, none, some (.ireturn, 91, 0, 0, 1, 0), some (.aload_n 0, 92, 0, 0, 0, 0), some (.getfield 39, 95, 20, 2, 11, 0), none, none, some (.bipush 10, 97, 0, 0, 0, 0)],
  [none, some (.iaload, 98, 0, 0, 0, 0), some (.ireturn, 99, 0, 0, 1, 0), some (.aload_n 0, 100, 0, 0, 0, 0), some (.invokevirtual 476, 103, 252, 1, 0, 0), none, none, some (.ireturn, 104, 0, 0, 1, 0), some (.aload_n 0, 105, 0, 0, 0, 0), some (.getfield 39, 108, 20, 2, 11, 0), none, none, some (.bipush 11, 110, 0, 0, 0, 0), none, some (.iaload, 111, 0, 0, 0, 0), some (.ireturn, 112, 0, 0, 1, 0)],
  [some (.aload_n 0, 113, 0, 0, 0, 0), some (.invokevirtual 380, 116, 212, 1, 0, 0), none, none, some (.ireturn, 117, 0, 0, 1, 0), some (.aload_n 0, 118, 0, 0, 0, 0), some (.invokevirtual 473, 121, 250, 1, 0, 0), none, none, some (.ireturn, 122, 0, 0, 1, 0), some (.aload_n 0, 123, 0, 0, 0, 0), some (.getfield 39, 126, 20, 2, 11, 0), none, none, some (.sipush 145, 129, 0, 0, 0, 0), none],
  [none, some (.iaload, 130, 0, 0, 0, 0), some (.ireturn, 131, 0, 0, 1, 0), some (.aload_n 0, 132, 0, 0, 0, 0), some (.getfield 269, 135, 27, 0, 11, 0), none, none, some (.ireturn, 136, 0, 0, 1, 0), some (.aload_n 0, 137, 0, 0, 0, 0), some (.getfield 453, 140, 22, 0, 11, 0), none, none, some (.ireturn, 141, 0, 0, 1, 0), some (.aload_n 0, 142, 0, 0, 0, 0), some (.getfield 83, 145, 1, 0, 11, 0), none],
  [none, some (.ireturn, 146, 0, 0, 1, 0), some (.iconst (-1), 147, 0, 0, 0, 0), some (.ireturn, 148, 0, 0, 1, 0)]]
def zt252 : ZT := [[some (.iconst 0, 1, 0, 0, 0, 0), some (.istore_n 1, 2, 1, 0, 0, 0), some (.iconst 0, 3, 0, 0, 0, 0), some (.istore_n 2, 4, 2, 0, 0, 0), some (.iload_n 2, 5, 2, 0, 0, 0), some (.bipush 6, 7, 0, 0, 0, 0), none, some (.if_icmp .ge 27, 10, 34, 0, 0, 0), none, none, some (.iload_n 1, 11, 1, 0, 0, 0), some (.aload_n 0, 12, 0, 0, 0, 0), some (.iload_n 2, 13, 2, 0, 0, 0), some (.invokevirtual 295, 16, 180, 2, 0, 0), none, none],
  [some (.ifCond .eq 9, 19, 25, 0, 0, 0), none, none, some (.iconst 1, 20, 0, 0, 0, 0), some (.iload_n 2, 21, 2, 0, 0, 0), some (.ishl, 22, 0, 0, 0, 0), some (.goto 4, 26, 0, 0, 0, 0), none, none, some (.iconst 0, 26, 0, 0, 0, 0), some (.ior, 27, 0, 0, 0, 0), some (.istore_n 1, 28, 1, 0, 0, 0), some (.iinc 2 1, 31, 2, 0, 0, 0), none, none, some (.goto (-27), 4, 0, 0, 0, 0)],
  [none, none, some (.iload_n 1, 35, 1, 0, 0, 0), some (.ireturn, 36, 0, 0, 1, 0)]]
def zt253 : ZT := [[some (.iload_n 1, 1, 1, 0, 0, 0), some (.i2l, 2, 0, 0, 0, 0), some (.lconst 0, 3, 0, 0, 0, 0), some (.ldc2_w 311, 6, 0, 0, 0, 3), none, none, some (.invokestatic 121, 9, 150, 3, 0, 0), none, none, some (.ifCond .ne 5, 12, 14, 0, 0, 0), none, none, some (.iconst (-1), 13, 0, 0, 0, 0), some (.ireturn, 14, 0, 0, 1, 0), some (.aload_n 0, 15, 0, 0, 0, 0), some (.getfield 80, 18, 39, 2, 11, 0)],
  [none, none, some (.iload_n 1, 19, 1, 0, 0, 0), some (.iconst 1, 20, 0, 0, 0, 0), some (.bastore, 21, 1, 0, 0, 0), some (.aload_n 0, 22, 0, 0, 0, 0), some (.getfield 74, 25, 37, 2, 11, 0), none, none, some (.iload_n 1, 26, 1, 0, 0, 0), some (.aload_n 0, 27, 0, 0, 0, 0), some (.getfield 42, 30, 21, 0, 11, 0), none, none, some (.iastore, 31, 0, 0, 0, 0), some (.aload_n 0, 32, 0, 0, 0, 0)],
  [some (.getfield 77, 35, 38, 2, 11, 0), none, none, some (.iload_n 1, 36, 1, 0, 0, 0), some (.aload_n 0, 37, 0, 0, 0, 0), some (.getfield 453, 40, 22, 0, 11, 0), none, none, some (.iastore, 41, 0, 0, 0, 0), some (.iconst 0, 42, 0, 0, 0, 0), some (.istore_n 2, 43, 2, 0, 0, 0), some (.iload_n 2, 44, 2, 0, 0, 0), some (.sipush 146, 47, 0, 0, 0, 0), none, none, some (.if_icmp .ge 27, 50, 74, 0, 0, 0)],
  [none, none, some (.aload_n 0, 51, 0, 0, 0, 0), some (.getfield 71, 54, 36, 2, 11, 0), none, none, some (.sipush 146, 57, 0, 0, 0, 0), none, none, some (.iload_n 1, 58, 1, 0, 0, 0), some (.imul, 59, 0, 0, 0, 0), some (.iload_n 2, 60, 2, 0, 0, 0), some (.iadd, 61, 0, 0, 0, 0), some (.aload_n 0, 62, 0, 0, 0, 0), some (.getfield 39, 65, 20, 2, 11, 0), none],
  [none, some (.iload_n 2, 66, 2, 0, 0, 0), some (.iaload, 67, 0, 0, 0, 0), some (.iastore, 68, 0, 0, 0, 0), some (.iinc 2 1, 71, 2, 0, 0, 0), none, none, some (.goto (-28), 43, 0, 0, 0, 0), none, none, some (.aload_n 0, 75, 0, 0, 0, 0), some (.getfield 39, 78, 20, 2, 11, 0), none, none, some (.bipush 10, 80, 0, 0, 0, 0), none],
  [some (.iaload, 81, 0, 0, 0, 0), some (.ireturn, 82, 0, 0, 1, 0)]]
def zt254 : ZT := [[some (.iload_n 1, 1, 1, 0, 0, 0), some (.i2l, 2, 0, 0, 0, 0), some (.lconst 0, 3, 0, 0, 0, 0), some (.ldc2_w 311, 6, 0, 0, 0, 3), none, none, some (.invokestatic 121, 9, 150, 3, 0, 0), none, none, some (.ifCond .eq 12, 12, 21, 0, 0, 0), none, none, some (.aload_n 0, 13, 0, 0, 0, 0), some (.getfield 80, 16, 39, 2, 11, 0), none, none],
  [some (.iload_n 1, 17, 1, 0, 0, 0), some (.baload, 18, 1, 0, 0, 0), some (.ifCond .ne 5, 21, 23, 0, 0, 0), none, none, some (.iconst (-1), 22, 0, 0, 0, 0), some (.ireturn, 23, 0, 0, 1, 0), some (.aload_n 0, 24, 0, 0, 0, 0), some (.aload_n 0, 25, 0, 0, 0, 0), some (.getfield 74, 28, 37, 2, 11, 0), none, none, some (.iload_n 1, 29, 1, 0, 0, 0), some (.iaload, 30, 0, 0, 0, 0), some (.putfield 42, 33, 21, 0, 11, 0), none],
  [none, some (.aload_n 0, 34, 0, 0, 0, 0), some (.aload_n 0, 35, 0, 0, 0, 0), some (.getfield 77, 38, 38, 2, 11, 0), none, none, some (.iload_n 1, 39, 1, 0, 0, 0), some (.iaload, 40, 0, 0, 0, 0), some (.putfield 453, 43, 22, 0, 11, 0), none, none, some (.aload_n 0, 44, 0, 0, 0, 0), some (.iconst 0, 45, 0, 0, 0, 0), some (.putfield 269, 48, 27, 0, 11, 0), none, none],
  [some (.iconst 0, 49, 0, 0, 0, 0), some (.istore_n 2, 50, 2, 0, 0, 0), some (.iload_n 2, 51, 2, 0, 0, 0), some (.sipush 146, 54, 0, 0, 0, 0), none, none, some (.if_icmp .ge 27, 57, 81, 0, 0, 0), none, none, some (.aload_n 0, 58, 0, 0, 0, 0), some (.getfield 39, 61, 20, 2, 11, 0), none, none, some (.iload_n 2, 62, 2, 0, 0, 0), some (.aload_n 0, 63, 0, 0, 0, 0), some (.getfield 71, 66, 36, 2, 11, 0)],
  [none, none, some (.sipush 146, 69, 0, 0, 0, 0), none, none, some (.iload_n 1, 70, 1, 0, 0, 0), some (.imul, 71, 0, 0, 0, 0), some (.iload_n 2, 72, 2, 0, 0, 0), some (.iadd, 73, 0, 0, 0, 0), some (.iaload, 74, 0, 0, 0, 0), some (.iastore, 75, 0, 0, 0, 0), some (.iinc 2 1, 78, 2, 0, 0, 0), none, none, some (.goto (-28), 50, 0, 0, 0, 0), none],
  [none, some (.aload_n 0, 82, 0, 0, 0, 0), some (.getfield 39, 85, 20, 2, 11, 0), none, none, some (.bipush 10, 87, 0, 0, 0, 0), none, some (.iaload, 88, 0, 0, 0, 0), some (.ireturn, 89, 0, 0, 1, 0)]]
def zt255 : ZT := [[some (.new 7, 3, 10, 20, 0, 0), none, none, some (.dup, 4, 0, 0, 0, 0), some (.invokespecial 9, 7, 0, 1, 0, 0), none, none, some (.astore_n 1, 8, 1, 0, 0, 0), some (.new 10, 11, 11, 40, 0, 0), none, none, some (.dup, 12, 0, 0, 0, 0), some (.invokespecial 12, 15, 132, 1, 0, 0), none, none, some (.astore_n 2, 16, 2, 0, 0, 0)],
  [some (.iconst 0, 17, 0, 0, 0, 0), some (.istore_n 3, 18, 3, 0, 0, 0), some (.iload_n 3, 19, 3, 0, 0, 0), some (.aload_n 0, 20, 0, 0, 0, 0), some (.arraylength, 21, 0, 0, 0, 0), some (.bipush 6, 23, 0, 0, 0, 0), none, some (.isub, 24, 0, 0, 0, 0), some (.if_icmp .gt 1195, 27, 1219, 0, 0, 0), none, none, some (.aload_n 0, 28, 0, 0, 0, 0), some (.iload_n 3, 29, 3, 0, 0, 0), some (.iaload, 30, 0, 0, 0, 0), some (.bipush 63, 32, 0, 0, 0, 0), none],
  [some (.iand, 33, 0, 0, 0, 0), some (.tableswitch 1180 0 34 #[155, 218, 241, 254, 267, 290, 323, 356, 379, 392, 425, 448, 471, 504, 517, 560, 583, 596, 629, 662, 695, 728, 761, 794, 827, 880, 903, 936, 979, 1002, 1035, 1058, 1111, 1134, 1157], 188, 0, 0, 0, 0), none, none, none, none, none, none, none, none, none, none, none, none, none, none],
  [none, none, none, none, none, none, none, none, none, none, none, none, none, none, none, none],
  [none, none, none, none, none, none, none, none, none, none, none, none, none, none, none, none],
  [none, none, none, none, none, none, none, none, none, none, none, none, none, none, none, none],
  [none, none, none, none, none, none, none, none, none, none, none, none, none, none, none, none],
  [none, none, none, none, none, none, none, none, none, none, none, none, none, none, none, none],
  [none, none, none, none, none, none, none, none, none, none, none, none, none, none, none, none],
  [none, none, none, none, none, none, none, none, none, none, none, none, none, none, none, none],
  [none, none, none, none, none, none, none, none, none, none, none, none, none, none, none, none],
  [none, none, none, none, none, none, none, none, none, none, none, none, some (.aload_n 1, 189, 1, 0, 0, 0), some (.aload_n 0, 190, 0, 0, 0, 0), some (.iload_n 3, 191, 3, 0, 0, 0), some (.iconst 1, 192, 0, 0, 0, 0)],
  [some (.iadd, 193, 0, 0, 0, 0), some (.iaload, 194, 0, 0, 0, 0), some (.aload_n 0, 195, 0, 0, 0, 0), some (.iload_n 3, 196, 3, 0, 0, 0), some (.iconst 2, 197, 0, 0, 0, 0), some (.iadd, 198, 0, 0, 0, 0), some (.iaload, 199, 0, 0, 0, 0), some (.aload_n 0, 200, 0, 0, 0, 0), some (.iload_n 3, 201, 3, 0, 0, 0), some (.iconst 3, 202, 0, 0, 0, 0), some (.iadd, 203, 0, 0, 0, 0), some (.iaload, 204, 0, 0, 0, 0), some (.aload_n 0, 205, 0, 0, 0, 0), some (.iload_n 3, 206, 3, 0, 0, 0), some (.iconst 4, 207, 0, 0, 0, 0), some (.iadd, 208, 0, 0, 0, 0)],
  [some (.iaload, 209, 0, 0, 0, 0), some (.aload_n 0, 210, 0, 0, 0, 0), some (.iload_n 3, 211, 3, 0, 0, 0), some (.iconst 5, 212, 0, 0, 0, 0), some (.iadd, 213, 0, 0, 0, 0), some (.iaload, 214, 0, 0, 0, 0), some (.invokevirtual 13, 217, 9, 6, 0, 0), none, none, some (.aload_n 2, 218, 2, 0, 0, 0), some (.aload_n 0, 219, 0, 0, 0, 0), some (.iload_n 3, 220, 3, 0, 0, 0), some (.iconst 1, 221, 0, 0, 0, 0), some (.iadd, 222, 0, 0, 0, 0), some (.iaload, 223, 0, 0, 0, 0), some (.aload_n 0, 224, 0, 0, 0, 0)],
  [some (.iload_n 3, 225, 3, 0, 0, 0), some (.iconst 2, 226, 0, 0, 0, 0), some (.iadd, 227, 0, 0, 0, 0), some (.iaload, 228, 0, 0, 0, 0), some (.aload_n 0, 229, 0, 0, 0, 0), some (.iload_n 3, 230, 3, 0, 0, 0), some (.iconst 3, 231, 0, 0, 0, 0), some (.iadd, 232, 0, 0, 0, 0), some (.iaload, 233, 0, 0, 0, 0), some (.aload_n 0, 234, 0, 0, 0, 0), some (.iload_n 3, 235, 3, 0, 0, 0), some (.iconst 4, 236, 0, 0, 0, 0), some (.iadd, 237, 0, 0, 0, 0), some (.iaload, 238, 0, 0, 0, 0), some (.aload_n 0, 239, 0, 0, 0, 0), some (.iload_n 3, 240, 3, 0, 0, 0)],
  [some (.iconst 5, 241, 0, 0, 0, 0), some (.iadd, 242, 0, 0, 0, 0), some (.iaload, 243, 0, 0, 0, 0), some (.invokevirtual 17, 246, 133, 6, 0, 0), none, none, some (.if_icmp .eq 967, 249, 1213, 0, 0, 0), none, none, some (.iconst 0, 250, 0, 0, 0, 0), some (.ireturn, 251, 0, 0, 2, 0), some (.aload_n 1, 252, 1, 0, 0, 0), some (.aload_n 0, 253, 0, 0, 0, 0), some (.iload_n 3, 254, 3, 0, 0, 0), some (.iconst 1, 255, 0, 0, 0, 0), some (.iadd, 256, 0, 0, 0, 0)],
  [some (.iaload, 257, 0, 0, 0, 0), some (.invokevirtual 18, 260, 11, 2, 0, 0), none, none, some (.aload_n 2, 261, 2, 0, 0, 0), some (.aload_n 0, 262, 0, 0, 0, 0), some (.iload_n 3, 263, 3, 0, 0, 0), some (.iconst 1, 264, 0, 0, 0, 0), some (.iadd, 265, 0, 0, 0, 0), some (.iaload, 266, 0, 0, 0, 0), some (.invokevirtual 22, 269, 135, 2, 0, 0), none, none, some (.if_icmp .eq 944, 272, 1213, 0, 0, 0), none, none],
  [some (.iconst 0, 273, 0, 0, 0, 0), some (.ireturn, 274, 0, 0, 2, 0), some (.aload_n 1, 275, 1, 0, 0, 0), some (.invokevirtual 23, 278, 12, 1, 0, 0), none, none, some (.aload_n 2, 279, 2, 0, 0, 0), some (.invokevirtual 27, 282, 172, 1, 0, 0), none, none, some (.if_icmp .eq 931, 285, 1213, 0, 0, 0), none, none, some (.iconst 0, 286, 0, 0, 0, 0), some (.ireturn, 287, 0, 0, 2, 0), some (.aload_n 1, 288, 1, 0, 0, 0)],
  [some (.invokevirtual 28, 291, 33, 1, 0, 0), none, none, some (.aload_n 2, 292, 2, 0, 0, 0), some (.invokevirtual 31, 295, 136, 1, 0, 0), none, none, some (.if_icmp .eq 918, 298, 1213, 0, 0, 0), none, none, some (.iconst 0, 299, 0, 0, 0, 0), some (.ireturn, 300, 0, 0, 2, 0), some (.aload_n 1, 301, 1, 0, 0, 0), some (.aload_n 0, 302, 0, 0, 0, 0), some (.iload_n 3, 303, 3, 0, 0, 0), some (.iconst 1, 304, 0, 0, 0, 0)],
  [some (.iadd, 305, 0, 0, 0, 0), some (.iaload, 306, 0, 0, 0, 0), some (.invokevirtual 32, 309, 46, 2, 0, 0), none, none, some (.aload_n 2, 310, 2, 0, 0, 0), some (.aload_n 0, 311, 0, 0, 0, 0), some (.iload_n 3, 312, 3, 0, 0, 0), some (.iconst 1, 313, 0, 0, 0, 0), some (.iadd, 314, 0, 0, 0, 0), some (.iaload, 315, 0, 0, 0, 0), some (.invokevirtual 35, 318, 175, 2, 0, 0), none, none, some (.if_icmp .eq 895, 321, 1213, 0, 0, 0), none],
  [none, some (.iconst 0, 322, 0, 0, 0, 0), some (.ireturn, 323, 0, 0, 2, 0), some (.aload_n 1, 324, 1, 0, 0, 0), some (.aload_n 0, 325, 0, 0, 0, 0), some (.iload_n 3, 326, 3, 0, 0, 0), some (.iconst 1, 327, 0, 0, 0, 0), some (.iadd, 328, 0, 0, 0, 0), some (.iaload, 329, 0, 0, 0, 0), some (.aload_n 0, 330, 0, 0, 0, 0), some (.iload_n 3, 331, 3, 0, 0, 0), some (.iconst 2, 332, 0, 0, 0, 0), some (.iadd, 333, 0, 0, 0, 0), some (.iaload, 334, 0, 0, 0, 0), some (.invokevirtual 36, 337, 47, 3, 0, 0), none],
  [none, some (.aload_n 2, 338, 2, 0, 0, 0), some (.aload_n 0, 339, 0, 0, 0, 0), some (.iload_n 3, 340, 3, 0, 0, 0), some (.iconst 1, 341, 0, 0, 0, 0), some (.iadd, 342, 0, 0, 0, 0), some (.iaload, 343, 0, 0, 0, 0), some (.aload_n 0, 344, 0, 0, 0, 0), some (.iload_n 3, 345, 3, 0, 0, 0), some (.iconst 2, 346, 0, 0, 0, 0), some (.iadd, 347, 0, 0, 0, 0), some (.iaload, 348, 0, 0, 0, 0), some (.invokevirtual 40, 351, 177, 3, 0, 0), none, none, some (.if_icmp .eq 862, 354, 1213, 0, 0, 0)],
  [none, none, some (.iconst 0, 355, 0, 0, 0, 0), some (.ireturn, 356, 0, 0, 2, 0), some (.aload_n 1, 357, 1, 0, 0, 0), some (.aload_n 0, 358, 0, 0, 0, 0), some (.iload_n 3, 359, 3, 0, 0, 0), some (.iconst 1, 360, 0, 0, 0, 0), some (.iadd, 361, 0, 0, 0, 0), some (.iaload, 362, 0, 0, 0, 0), some (.aload_n 0, 363, 0, 0, 0, 0), some (.iload_n 3, 364, 3, 0, 0, 0), some (.iconst 2, 365, 0, 0, 0, 0), some (.iadd, 366, 0, 0, 0, 0), some (.iaload, 367, 0, 0, 0, 0), some (.invokevirtual 41, 370, 49, 3, 0, 0)],
  [none, none, some (.aload_n 2, 371, 2, 0, 0, 0), some (.aload_n 0, 372, 0, 0, 0, 0), some (.iload_n 3, 373, 3, 0, 0, 0), some (.iconst 1, 374, 0, 0, 0, 0), some (.iadd, 375, 0, 0, 0, 0), some (.iaload, 376, 0, 0, 0, 0), some (.aload_n 0, 377, 0, 0, 0, 0), some (.iload_n 3, 378, 3, 0, 0, 0), some (.iconst 2, 379, 0, 0, 0, 0), some (.iadd, 380, 0, 0, 0, 0), some (.iaload, 381, 0, 0, 0, 0), some (.invokevirtual 44, 384, 181, 3, 0, 0), none, none],
  [some (.if_icmp .eq 829, 387, 1213, 0, 0, 0), none, none, some (.iconst 0, 388, 0, 0, 0, 0), some (.ireturn, 389, 0, 0, 2, 0), some (.aload_n 1, 390, 1, 0, 0, 0), some (.aload_n 0, 391, 0, 0, 0, 0), some (.iload_n 3, 392, 3, 0, 0, 0), some (.iconst 1, 393, 0, 0, 0, 0), some (.iadd, 394, 0, 0, 0, 0), some (.iaload, 395, 0, 0, 0, 0), some (.invokevirtual 45, 398, 51, 2, 0, 0), none, none, some (.aload_n 2, 399, 2, 0, 0, 0), some (.aload_n 0, 400, 0, 0, 0, 0)],
  [some (.iload_n 3, 401, 3, 0, 0, 0), some (.iconst 1, 402, 0, 0, 0, 0), some (.iadd, 403, 0, 0, 0, 0), some (.iaload, 404, 0, 0, 0, 0), some (.invokevirtual 48, 407, 183, 2, 0, 0), none, none, some (.if_icmp .eq 806, 410, 1213, 0, 0, 0), none, none, some (.iconst 0, 411, 0, 0, 0, 0), some (.ireturn, 412, 0, 0, 2, 0), some (.aload_n 1, 413, 1, 0, 0, 0), some (.invokevirtual 49, 416, 58, 1, 0, 0), none, none],
  [some (.aload_n 2, 417, 2, 0, 0, 0), some (.invokevirtual 52, 420, 186, 1, 0, 0), none, none, some (.if_icmp .eq 793, 423, 1213, 0, 0, 0), none, none, some (.iconst 0, 424, 0, 0, 0, 0), some (.ireturn, 425, 0, 0, 2, 0), some (.aload_n 1, 426, 1, 0, 0, 0), some (.aload_n 0, 427, 0, 0, 0, 0), some (.iload_n 3, 428, 3, 0, 0, 0), some (.iconst 1, 429, 0, 0, 0, 0), some (.iadd, 430, 0, 0, 0, 0), some (.iaload, 431, 0, 0, 0, 0), some (.aload_n 0, 432, 0, 0, 0, 0)],
  [some (.iload_n 3, 433, 3, 0, 0, 0), some (.iconst 2, 434, 0, 0, 0, 0), some (.iadd, 435, 0, 0, 0, 0), some (.iaload, 436, 0, 0, 0, 0), some (.invokevirtual 53, 439, 76, 3, 0, 0), none, none, some (.aload_n 2, 440, 2, 0, 0, 0), some (.aload_n 0, 441, 0, 0, 0, 0), some (.iload_n 3, 442, 3, 0, 0, 0), some (.iconst 1, 443, 0, 0, 0, 0), some (.iadd, 444, 0, 0, 0, 0), some (.iaload, 445, 0, 0, 0, 0), some (.aload_n 0, 446, 0, 0, 0, 0), some (.iload_n 3, 447, 3, 0, 0, 0), some (.iconst 2, 448, 0, 0, 0, 0)],
  [some (.iadd, 449, 0, 0, 0, 0), some (.iaload, 450, 0, 0, 0, 0), some (.invokevirtual 56, 453, 207, 3, 0, 0), none, none, some (.if_icmp .eq 760, 456, 1213, 0, 0, 0), none, none, some (.iconst 0, 457, 0, 0, 0, 0), some (.ireturn, 458, 0, 0, 2, 0), some (.aload_n 1, 459, 1, 0, 0, 0), some (.aload_n 0, 460, 0, 0, 0, 0), some (.iload_n 3, 461, 3, 0, 0, 0), some (.iconst 1, 462, 0, 0, 0, 0), some (.iadd, 463, 0, 0, 0, 0), some (.iaload, 464, 0, 0, 0, 0)],
  [some (.invokevirtual 57, 467, 79, 2, 0, 0), none, none, some (.aload_n 2, 468, 2, 0, 0, 0), some (.aload_n 0, 469, 0, 0, 0, 0), some (.iload_n 3, 470, 3, 0, 0, 0), some (.iconst 1, 471, 0, 0, 0, 0), some (.iadd, 472, 0, 0, 0, 0), some (.iaload, 473, 0, 0, 0, 0), some (.invokevirtual 60, 476, 209, 2, 0, 0), none, none, some (.if_icmp .eq 737, 479, 1213, 0, 0, 0), none, none, some (.iconst 0, 480, 0, 0, 0, 0)],
  [some (.ireturn, 481, 0, 0, 2, 0), some (.aload_n 1, 482, 1, 0, 0, 0), some (.aload_n 0, 483, 0, 0, 0, 0), some (.iload_n 3, 484, 3, 0, 0, 0), some (.iconst 1, 485, 0, 0, 0, 0), some (.iadd, 486, 0, 0, 0, 0), some (.iaload, 487, 0, 0, 0, 0), some (.invokevirtual 61, 490, 81, 2, 0, 0), none, none, some (.aload_n 2, 491, 2, 0, 0, 0), some (.aload_n 0, 492, 0, 0, 0, 0), some (.iload_n 3, 493, 3, 0, 0, 0), some (.iconst 1, 494, 0, 0, 0, 0), some (.iadd, 495, 0, 0, 0, 0), some (.iaload, 496, 0, 0, 0, 0)],
  [some (.invokevirtual 64, 499, 211, 2, 0, 0), none, none, some (.if_icmp .eq 714, 502, 1213, 0, 0, 0), none, none, some (.iconst 0, 503, 0, 0, 0, 0), some (.ireturn, 504, 0, 0, 2, 0), some (.aload_n 1, 505, 1, 0, 0, 0), some (.aload_n 0, 506, 0, 0, 0, 0), some (.iload_n 3, 507, 3, 0, 0, 0), some (.iconst 1, 508, 0, 0, 0, 0), some (.iadd, 509, 0, 0, 0, 0), some (.iaload, 510, 0, 0, 0, 0), some (.aload_n 0, 511, 0, 0, 0, 0), some (.iload_n 3, 512, 3, 0, 0, 0)],
  [some (.iconst 2, 513, 0, 0, 0, 0), some (.iadd, 514, 0, 0, 0, 0), some (.iaload, 515, 0, 0, 0, 0), some (.invokevirtual 65, 518, 83, 3, 0, 0), none, none, some (.aload_n 2, 519, 2, 0, 0, 0), some (.aload_n 0, 520, 0, 0, 0, 0), some (.iload_n 3, 521, 3, 0, 0, 0), some (.iconst 1, 522, 0, 0, 0, 0), some (.iadd, 523, 0, 0, 0, 0), some (.iaload, 524, 0, 0, 0, 0), some (.aload_n 0, 525, 0, 0, 0, 0), some (.iload_n 3, 526, 3, 0, 0, 0), some (.iconst 2, 527, 0, 0, 0, 0), some (.iadd, 528, 0, 0, 0, 0)],
  [some (.iaload, 529, 0, 0, 0, 0), some (.invokevirtual 68, 532, 213, 3, 0, 0), none, none, some (.if_icmp .eq 681, 535, 1213, 0, 0, 0), none, none, some (.iconst 0, 536, 0, 0, 0, 0), some (.ireturn, 537, 0, 0, 2, 0), some (.aload_n 1, 538, 1, 0, 0, 0), some (.invokevirtual 69, 541, 84, 1, 0, 0), none, none, some (.aload_n 2, 542, 2, 0, 0, 0), some (.invokevirtual 72, 545, 185, 1, 0, 0), none],
  [none, some (.if_icmp .eq 668, 548, 1213, 0, 0, 0), none, none, some (.iconst 0, 549, 0, 0, 0, 0), some (.ireturn, 550, 0, 0, 2, 0), some (.aload_n 1, 551, 1, 0, 0, 0), some (.aload_n 0, 552, 0, 0, 0, 0), some (.iload_n 3, 553, 3, 0, 0, 0), some (.iconst 1, 554, 0, 0, 0, 0), some (.iadd, 555, 0, 0, 0, 0), some (.iaload, 556, 0, 0, 0, 0), some (.aload_n 0, 557, 0, 0, 0, 0), some (.iload_n 3, 558, 3, 0, 0, 0), some (.iconst 2, 559, 0, 0, 0, 0), some (.iadd, 560, 0, 0, 0, 0)],
  [some (.iaload, 561, 0, 0, 0, 0), some (.aload_n 0, 562, 0, 0, 0, 0), some (.iload_n 3, 563, 3, 0, 0, 0), some (.iconst 3, 564, 0, 0, 0, 0), some (.iadd, 565, 0, 0, 0, 0), some (.iaload, 566, 0, 0, 0, 0), some (.invokevirtual 73, 569, 86, 4, 0, 0), none, none, some (.aload_n 2, 570, 2, 0, 0, 0), some (.aload_n 0, 571, 0, 0, 0, 0), some (.iload_n 3, 572, 3, 0, 0, 0), some (.iconst 1, 573, 0, 0, 0, 0), some (.iadd, 574, 0, 0, 0, 0), some (.iaload, 575, 0, 0, 0, 0), some (.aload_n 0, 576, 0, 0, 0, 0)],
  [some (.iload_n 3, 577, 3, 0, 0, 0), some (.iconst 2, 578, 0, 0, 0, 0), some (.iadd, 579, 0, 0, 0, 0), some (.iaload, 580, 0, 0, 0, 0), some (.aload_n 0, 581, 0, 0, 0, 0), some (.iload_n 3, 582, 3, 0, 0, 0), some (.iconst 3, 583, 0, 0, 0, 0), some (.iadd, 584, 0, 0, 0, 0), some (.iaload, 585, 0, 0, 0, 0), some (.invokevirtual 77, 588, 214, 4, 0, 0), none, none, some (.if_icmp .eq 625, 591, 1213, 0, 0, 0), none, none, some (.iconst 0, 592, 0, 0, 0, 0)],
  [some (.ireturn, 593, 0, 0, 2, 0), some (.aload_n 1, 594, 1, 0, 0, 0), some (.aload_n 0, 595, 0, 0, 0, 0), some (.iload_n 3, 596, 3, 0, 0, 0), some (.iconst 1, 597, 0, 0, 0, 0), some (.iadd, 598, 0, 0, 0, 0), some (.iaload, 599, 0, 0, 0, 0), some (.invokevirtual 78, 602, 89, 2, 0, 0), none, none, some (.aload_n 2, 603, 2, 0, 0, 0), some (.aload_n 0, 604, 0, 0, 0, 0), some (.iload_n 3, 605, 3, 0, 0, 0), some (.iconst 1, 606, 0, 0, 0, 0), some (.iadd, 607, 0, 0, 0, 0), some (.iaload, 608, 0, 0, 0, 0)],
  [some (.invokevirtual 81, 611, 218, 2, 0, 0), none, none, some (.if_icmp .eq 602, 614, 1213, 0, 0, 0), none, none, some (.iconst 0, 615, 0, 0, 0, 0), some (.ireturn, 616, 0, 0, 2, 0), some (.aload_n 1, 617, 1, 0, 0, 0), some (.invokevirtual 82, 620, 91, 1, 0, 0), none, none, some (.aload_n 2, 621, 2, 0, 0, 0), some (.invokevirtual 85, 624, 219, 1, 0, 0), none, none],
  [some (.if_icmp .eq 589, 627, 1213, 0, 0, 0), none, none, some (.iconst 0, 628, 0, 0, 0, 0), some (.ireturn, 629, 0, 0, 2, 0), some (.aload_n 1, 630, 1, 0, 0, 0), some (.aload_n 0, 631, 0, 0, 0, 0), some (.iload_n 3, 632, 3, 0, 0, 0), some (.iconst 1, 633, 0, 0, 0, 0), some (.iadd, 634, 0, 0, 0, 0), some (.iaload, 635, 0, 0, 0, 0), some (.aload_n 0, 636, 0, 0, 0, 0), some (.iload_n 3, 637, 3, 0, 0, 0), some (.iconst 2, 638, 0, 0, 0, 0), some (.iadd, 639, 0, 0, 0, 0), some (.iaload, 640, 0, 0, 0, 0)],
  [some (.invokevirtual 86, 643, 92, 3, 0, 0), none, none, some (.aload_n 2, 644, 2, 0, 0, 0), some (.aload_n 0, 645, 0, 0, 0, 0), some (.iload_n 3, 646, 3, 0, 0, 0), some (.iconst 1, 647, 0, 0, 0, 0), some (.iadd, 648, 0, 0, 0, 0), some (.iaload, 649, 0, 0, 0, 0), some (.aload_n 0, 650, 0, 0, 0, 0), some (.iload_n 3, 651, 3, 0, 0, 0), some (.iconst 2, 652, 0, 0, 0, 0), some (.iadd, 653, 0, 0, 0, 0), some (.iaload, 654, 0, 0, 0, 0), some (.invokevirtual 89, 657, 220, 3, 0, 0), none],
  [none, some (.if_icmp .eq 556, 660, 1213, 0, 0, 0), none, none, some (.iconst 0, 661, 0, 0, 0, 0), some (.ireturn, 662, 0, 0, 2, 0), some (.aload_n 1, 663, 1, 0, 0, 0), some (.aload_n 0, 664, 0, 0, 0, 0), some (.iload_n 3, 665, 3, 0, 0, 0), some (.iconst 1, 666, 0, 0, 0, 0), some (.iadd, 667, 0, 0, 0, 0), some (.iaload, 668, 0, 0, 0, 0), some (.aload_n 0, 669, 0, 0, 0, 0), some (.iload_n 3, 670, 3, 0, 0, 0), some (.iconst 2, 671, 0, 0, 0, 0), some (.iadd, 672, 0, 0, 0, 0)],
  [some (.iaload, 673, 0, 0, 0, 0), some (.invokevirtual 90, 676, 93, 3, 0, 0), none, none, some (.aload_n 2, 677, 2, 0, 0, 0), some (.aload_n 0, 678, 0, 0, 0, 0), some (.iload_n 3, 679, 3, 0, 0, 0), some (.iconst 1, 680, 0, 0, 0, 0), some (.iadd, 681, 0, 0, 0, 0), some (.iaload, 682, 0, 0, 0, 0), some (.aload_n 0, 683, 0, 0, 0, 0), some (.iload_n 3, 684, 3, 0, 0, 0), some (.iconst 2, 685, 0, 0, 0, 0), some (.iadd, 686, 0, 0, 0, 0), some (.iaload, 687, 0, 0, 0, 0), some (.invokevirtual 93, 690, 222, 3, 0, 0)],
  [none, none, some (.if_icmp .eq 523, 693, 1213, 0, 0, 0), none, none, some (.iconst 0, 694, 0, 0, 0, 0), some (.ireturn, 695, 0, 0, 2, 0), some (.aload_n 1, 696, 1, 0, 0, 0), some (.aload_n 0, 697, 0, 0, 0, 0), some (.iload_n 3, 698, 3, 0, 0, 0), some (.iconst 1, 699, 0, 0, 0, 0), some (.iadd, 700, 0, 0, 0, 0), some (.iaload, 701, 0, 0, 0, 0), some (.aload_n 0, 702, 0, 0, 0, 0), some (.iload_n 3, 703, 3, 0, 0, 0), some (.iconst 2, 704, 0, 0, 0, 0)],
  [some (.iadd, 705, 0, 0, 0, 0), some (.iaload, 706, 0, 0, 0, 0), some (.invokevirtual 94, 709, 96, 3, 0, 0), none, none, some (.aload_n 2, 710, 2, 0, 0, 0), some (.aload_n 0, 711, 0, 0, 0, 0), some (.iload_n 3, 712, 3, 0, 0, 0), some (.iconst 1, 713, 0, 0, 0, 0), some (.iadd, 714, 0, 0, 0, 0), some (.iaload, 715, 0, 0, 0, 0), some (.aload_n 0, 716, 0, 0, 0, 0), some (.iload_n 3, 717, 3, 0, 0, 0), some (.iconst 2, 718, 0, 0, 0, 0), some (.iadd, 719, 0, 0, 0, 0), some (.iaload, 720, 0, 0, 0, 0)],
  [some (.invokevirtual 97, 723, 225, 3, 0, 0), none, none, some (.if_icmp .eq 490, 726, 1213, 0, 0, 0), none, none, some (.iconst 0, 727, 0, 0, 0, 0), some (.ireturn, 728, 0, 0, 2, 0), some (.aload_n 1, 729, 1, 0, 0, 0), some (.aload_n 0, 730, 0, 0, 0, 0), some (.iload_n 3, 731, 3, 0, 0, 0), some (.iconst 1, 732, 0, 0, 0, 0), some (.iadd, 733, 0, 0, 0, 0), some (.iaload, 734, 0, 0, 0, 0), some (.aload_n 0, 735, 0, 0, 0, 0), some (.iload_n 3, 736, 3, 0, 0, 0)],
  [some (.iconst 2, 737, 0, 0, 0, 0), some (.iadd, 738, 0, 0, 0, 0), some (.iaload, 739, 0, 0, 0, 0), some (.invokevirtual 98, 742, 97, 3, 0, 0), none, none, some (.aload_n 2, 743, 2, 0, 0, 0), some (.aload_n 0, 744, 0, 0, 0, 0), some (.iload_n 3, 745, 3, 0, 0, 0), some (.iconst 1, 746, 0, 0, 0, 0), some (.iadd, 747, 0, 0, 0, 0), some (.iaload, 748, 0, 0, 0, 0), some (.aload_n 0, 749, 0, 0, 0, 0), some (.iload_n 3, 750, 3, 0, 0, 0), some (.iconst 2, 751, 0, 0, 0, 0), some (.iadd, 752, 0, 0, 0, 0)],
  [some (.iaload, 753, 0, 0, 0, 0), some (.invokevirtual 101, 756, 226, 3, 0, 0), none, none, some (.if_icmp .eq 457, 759, 1213, 0, 0, 0), none, none, some (.iconst 0, 760, 0, 0, 0, 0), some (.ireturn, 761, 0, 0, 2, 0), some (.aload_n 1, 762, 1, 0, 0, 0), some (.aload_n 0, 763, 0, 0, 0, 0), some (.iload_n 3, 764, 3, 0, 0, 0), some (.iconst 1, 765, 0, 0, 0, 0), some (.iadd, 766, 0, 0, 0, 0), some (.iaload, 767, 0, 0, 0, 0), some (.aload_n 0, 768, 0, 0, 0, 0)],
  [some (.iload_n 3, 769, 3, 0, 0, 0), some (.iconst 2, 770, 0, 0, 0, 0), some (.iadd, 771, 0, 0, 0, 0), some (.iaload, 772, 0, 0, 0, 0), some (.invokevirtual 102, 775, 98, 3, 0, 0), none, none, some (.aload_n 2, 776, 2, 0, 0, 0), some (.aload_n 0, 777, 0, 0, 0, 0), some (.iload_n 3, 778, 3, 0, 0, 0), some (.iconst 1, 779, 0, 0, 0, 0), some (.iadd, 780, 0, 0, 0, 0), some (.iaload, 781, 0, 0, 0, 0), some (.aload_n 0, 782, 0, 0, 0, 0), some (.iload_n 3, 783, 3, 0, 0, 0), some (.iconst 2, 784, 0, 0, 0, 0)],
  [some (.iadd, 785, 0, 0, 0, 0), some (.iaload, 786, 0, 0, 0, 0), some (.invokevirtual 105, 789, 227, 3, 0, 0), none, none, some (.if_icmp .eq 424, 792, 1213, 0, 0, 0), none, none, some (.iconst 0, 793, 0, 0, 0, 0), some (.ireturn, 794, 0, 0, 2, 0), some (.aload_n 1, 795, 1, 0, 0, 0), some (.aload_n 0, 796, 0, 0, 0, 0), some (.iload_n 3, 797, 3, 0, 0, 0), some (.iconst 1, 798, 0, 0, 0, 0), some (.iadd, 799, 0, 0, 0, 0), some (.iaload, 800, 0, 0, 0, 0)],
  [some (.aload_n 0, 801, 0, 0, 0, 0), some (.iload_n 3, 802, 3, 0, 0, 0), some (.iconst 2, 803, 0, 0, 0, 0), some (.iadd, 804, 0, 0, 0, 0), some (.iaload, 805, 0, 0, 0, 0), some (.invokevirtual 106, 808, 115, 3, 0, 0), none, none, some (.aload_n 2, 809, 2, 0, 0, 0), some (.aload_n 0, 810, 0, 0, 0, 0), some (.iload_n 3, 811, 3, 0, 0, 0), some (.iconst 1, 812, 0, 0, 0, 0), some (.iadd, 813, 0, 0, 0, 0), some (.iaload, 814, 0, 0, 0, 0), some (.aload_n 0, 815, 0, 0, 0, 0), some (.iload_n 3, 816, 3, 0, 0, 0)],
  [some (.iconst 2, 817, 0, 0, 0, 0), some (.iadd, 818, 0, 0, 0, 0), some (.iaload, 819, 0, 0, 0, 0), some (.invokevirtual 109, 822, 239, 3, 0, 0), none, none, some (.if_icmp .eq 391, 825, 1213, 0, 0, 0), none, none, some (.iconst 0, 826, 0, 0, 0, 0), some (.ireturn, 827, 0, 0, 2, 0), some (.aload_n 1, 828, 1, 0, 0, 0), some (.aload_n 0, 829, 0, 0, 0, 0), some (.iload_n 3, 830, 3, 0, 0, 0), some (.iconst 1, 831, 0, 0, 0, 0), some (.iadd, 832, 0, 0, 0, 0)],
  [some (.iaload, 833, 0, 0, 0, 0), some (.aload_n 0, 834, 0, 0, 0, 0), some (.iload_n 3, 835, 3, 0, 0, 0), some (.iconst 2, 836, 0, 0, 0, 0), some (.iadd, 837, 0, 0, 0, 0), some (.iaload, 838, 0, 0, 0, 0), some (.invokevirtual 110, 841, 103, 3, 0, 0), none, none, some (.aload_n 2, 842, 2, 0, 0, 0), some (.aload_n 0, 843, 0, 0, 0, 0), some (.iload_n 3, 844, 3, 0, 0, 0), some (.iconst 1, 845, 0, 0, 0, 0), some (.iadd, 846, 0, 0, 0, 0), some (.iaload, 847, 0, 0, 0, 0), some (.aload_n 0, 848, 0, 0, 0, 0)],
  [some (.iload_n 3, 849, 3, 0, 0, 0), some (.iconst 2, 850, 0, 0, 0, 0), some (.iadd, 851, 0, 0, 0, 0), some (.iaload, 852, 0, 0, 0, 0), some (.invokevirtual 113, 855, 229, 3, 0, 0), none, none, some (.if_icmp .eq 358, 858, 1213, 0, 0, 0), none, none, some (.iconst 0, 859, 0, 0, 0, 0), some (.ireturn, 860, 0, 0, 2, 0), some (.aload_n 1, 861, 1, 0, 0, 0), some (.aload_n 0, 862, 0, 0, 0, 0), some (.iload_n 3, 863, 3, 0, 0, 0), some (.iconst 1, 864, 0, 0, 0, 0)],
  [some (.iadd, 865, 0, 0, 0, 0), some (.iaload, 866, 0, 0, 0, 0), some (.aload_n 0, 867, 0, 0, 0, 0), some (.iload_n 3, 868, 3, 0, 0, 0), some (.iconst 2, 869, 0, 0, 0, 0), some (.iadd, 870, 0, 0, 0, 0), some (.iaload, 871, 0, 0, 0, 0), some (.aload_n 0, 872, 0, 0, 0, 0), some (.iload_n 3, 873, 3, 0, 0, 0), some (.iconst 3, 874, 0, 0, 0, 0), some (.iadd, 875, 0, 0, 0, 0), some (.iaload, 876, 0, 0, 0, 0), some (.aload_n 0, 877, 0, 0, 0, 0), some (.iload_n 3, 878, 3, 0, 0, 0), some (.iconst 4, 879, 0, 0, 0, 0), some (.iadd, 880, 0, 0, 0, 0)],
  [some (.iaload, 881, 0, 0, 0, 0), some (.invokevirtual 114, 884, 104, 5, 0, 0), none, none, some (.aload_n 2, 885, 2, 0, 0, 0), some (.aload_n 0, 886, 0, 0, 0, 0), some (.iload_n 3, 887, 3, 0, 0, 0), some (.iconst 1, 888, 0, 0, 0, 0), some (.iadd, 889, 0, 0, 0, 0), some (.iaload, 890, 0, 0, 0, 0), some (.aload_n 0, 891, 0, 0, 0, 0), some (.iload_n 3, 892, 3, 0, 0, 0), some (.iconst 2, 893, 0, 0, 0, 0), some (.iadd, 894, 0, 0, 0, 0), some (.iaload, 895, 0, 0, 0, 0), some (.aload_n 0, 896, 0, 0, 0, 0)],
  [some (.iload_n 3, 897, 3, 0, 0, 0), some (.iconst 3, 898, 0, 0, 0, 0), some (.iadd, 899, 0, 0, 0, 0), some (.iaload, 900, 0, 0, 0, 0), some (.aload_n 0, 901, 0, 0, 0, 0), some (.iload_n 3, 902, 3, 0, 0, 0), some (.iconst 4, 903, 0, 0, 0, 0), some (.iadd, 904, 0, 0, 0, 0), some (.iaload, 905, 0, 0, 0, 0), some (.invokevirtual 118, 908, 230, 5, 0, 0), none, none, some (.if_icmp .eq 305, 911, 1213, 0, 0, 0), none, none, some (.iconst 0, 912, 0, 0, 0, 0)],
  [some (.ireturn, 913, 0, 0, 2, 0), some (.aload_n 1, 914, 1, 0, 0, 0), some (.aload_n 0, 915, 0, 0, 0, 0), some (.iload_n 3, 916, 3, 0, 0, 0), some (.iconst 1, 917, 0, 0, 0, 0), some (.iadd, 918, 0, 0, 0, 0), some (.iaload, 919, 0, 0, 0, 0), some (.invokevirtual 119, 922, 109, 2, 0, 0), none, none, some (.aload_n 2, 923, 2, 0, 0, 0), some (.aload_n 0, 924, 0, 0, 0, 0), some (.iload_n 3, 925, 3, 0, 0, 0), some (.iconst 1, 926, 0, 0, 0, 0), some (.iadd, 927, 0, 0, 0, 0), some (.iaload, 928, 0, 0, 0, 0)],
  [some (.invokevirtual 122, 931, 234, 2, 0, 0), none, none, some (.if_icmp .eq 282, 934, 1213, 0, 0, 0), none, none, some (.iconst 0, 935, 0, 0, 0, 0), some (.ireturn, 936, 0, 0, 2, 0), some (.aload_n 1, 937, 1, 0, 0, 0), some (.aload_n 0, 938, 0, 0, 0, 0), some (.iload_n 3, 939, 3, 0, 0, 0), some (.iconst 1, 940, 0, 0, 0, 0), some (.iadd, 941, 0, 0, 0, 0), some (.iaload, 942, 0, 0, 0, 0), some (.aload_n 0, 943, 0, 0, 0, 0), some (.iload_n 3, 944, 3, 0, 0, 0)],
  [some (.iconst 2, 945, 0, 0, 0, 0), some (.iadd, 946, 0, 0, 0, 0), some (.iaload, 947, 0, 0, 0, 0), some (.invokevirtual 123, 950, 111, 3, 0, 0), none, none, some (.aload_n 2, 951, 2, 0, 0, 0), some (.aload_n 0, 952, 0, 0, 0, 0), some (.iload_n 3, 953, 3, 0, 0, 0), some (.iconst 1, 954, 0, 0, 0, 0), some (.iadd, 955, 0, 0, 0, 0), some (.iaload, 956, 0, 0, 0, 0), some (.aload_n 0, 957, 0, 0, 0, 0), some (.iload_n 3, 958, 3, 0, 0, 0), some (.iconst 2, 959, 0, 0, 0, 0), some (.iadd, 960, 0, 0, 0, 0)],
  [some (.iaload, 961, 0, 0, 0, 0), some (.invokevirtual 126, 964, 236, 3, 0, 0), none, none, some (.if_icmp .eq 249, 967, 1213, 0, 0, 0), none, none, some (.iconst 0, 968, 0, 0, 0, 0), some (.ireturn, 969, 0, 0, 2, 0), some (.aload_n 1, 970, 1, 0, 0, 0), some (.aload_n 0, 971, 0, 0, 0, 0), some (.iload_n 3, 972, 3, 0, 0, 0), some (.iconst 1, 973, 0, 0, 0, 0), some (.iadd, 974, 0, 0, 0, 0), some (.iaload, 975, 0, 0, 0, 0), some (.aload_n 0, 976, 0, 0, 0, 0)],
  [some (.iload_n 3, 977, 3, 0, 0, 0), some (.iconst 2, 978, 0, 0, 0, 0), some (.iadd, 979, 0, 0, 0, 0), some (.iaload, 980, 0, 0, 0, 0), some (.aload_n 0, 981, 0, 0, 0, 0), some (.iload_n 3, 982, 3, 0, 0, 0), some (.iconst 3, 983, 0, 0, 0, 0), some (.iadd, 984, 0, 0, 0, 0), some (.iaload, 985, 0, 0, 0, 0), some (.invokevirtual 127, 988, 113, 4, 0, 0), none, none, some (.aload_n 2, 989, 2, 0, 0, 0), some (.aload_n 0, 990, 0, 0, 0, 0), some (.iload_n 3, 991, 3, 0, 0, 0), some (.iconst 1, 992, 0, 0, 0, 0)],
  [some (.iadd, 993, 0, 0, 0, 0), some (.iaload, 994, 0, 0, 0, 0), some (.aload_n 0, 995, 0, 0, 0, 0), some (.iload_n 3, 996, 3, 0, 0, 0), some (.iconst 2, 997, 0, 0, 0, 0), some (.iadd, 998, 0, 0, 0, 0), some (.iaload, 999, 0, 0, 0, 0), some (.aload_n 0, 1000, 0, 0, 0, 0), some (.iload_n 3, 1001, 3, 0, 0, 0), some (.iconst 3, 1002, 0, 0, 0, 0), some (.iadd, 1003, 0, 0, 0, 0), some (.iaload, 1004, 0, 0, 0, 0), some (.invokevirtual 130, 1007, 238, 4, 0, 0), none, none, some (.if_icmp .eq 206, 1010, 1213, 0, 0, 0)],
  [none, none, some (.iconst 0, 1011, 0, 0, 0, 0), some (.ireturn, 1012, 0, 0, 2, 0), some (.aload_n 1, 1013, 1, 0, 0, 0), some (.aload_n 0, 1014, 0, 0, 0, 0), some (.iload_n 3, 1015, 3, 0, 0, 0), some (.iconst 1, 1016, 0, 0, 0, 0), some (.iadd, 1017, 0, 0, 0, 0), some (.iaload, 1018, 0, 0, 0, 0), some (.invokevirtual 131, 1021, 120, 2, 0, 0), none, none, some (.aload_n 2, 1022, 2, 0, 0, 0), some (.aload_n 0, 1023, 0, 0, 0, 0), some (.iload_n 3, 1024, 3, 0, 0, 0)],
  [some (.iconst 1, 1025, 0, 0, 0, 0), some (.iadd, 1026, 0, 0, 0, 0), some (.iaload, 1027, 0, 0, 0, 0), some (.invokevirtual 134, 1030, 243, 2, 0, 0), none, none, some (.if_icmp .eq 183, 1033, 1213, 0, 0, 0), none, none, some (.iconst 0, 1034, 0, 0, 0, 0), some (.ireturn, 1035, 0, 0, 2, 0), some (.aload_n 1, 1036, 1, 0, 0, 0), some (.aload_n 0, 1037, 0, 0, 0, 0), some (.iload_n 3, 1038, 3, 0, 0, 0), some (.iconst 1, 1039, 0, 0, 0, 0), some (.iadd, 1040, 0, 0, 0, 0)],
  [some (.iaload, 1041, 0, 0, 0, 0), some (.aload_n 0, 1042, 0, 0, 0, 0), some (.iload_n 3, 1043, 3, 0, 0, 0), some (.iconst 2, 1044, 0, 0, 0, 0), some (.iadd, 1045, 0, 0, 0, 0), some (.iaload, 1046, 0, 0, 0, 0), some (.invokevirtual 135, 1049, 121, 3, 0, 0), none, none, some (.aload_n 2, 1050, 2, 0, 0, 0), some (.aload_n 0, 1051, 0, 0, 0, 0), some (.iload_n 3, 1052, 3, 0, 0, 0), some (.iconst 1, 1053, 0, 0, 0, 0), some (.iadd, 1054, 0, 0, 0, 0), some (.iaload, 1055, 0, 0, 0, 0), some (.aload_n 0, 1056, 0, 0, 0, 0)],
  [some (.iload_n 3, 1057, 3, 0, 0, 0), some (.iconst 2, 1058, 0, 0, 0, 0), some (.iadd, 1059, 0, 0, 0, 0), some (.iaload, 1060, 0, 0, 0, 0), some (.invokevirtual 138, 1063, 245, 3, 0, 0), none, none, some (.if_icmp .eq 150, 1066, 1213, 0, 0, 0), none, none, some (.iconst 0, 1067, 0, 0, 0, 0), some (.ireturn, 1068, 0, 0, 2, 0), some (.aload_n 1, 1069, 1, 0, 0, 0), some (.aload_n 0, 1070, 0, 0, 0, 0), some (.iload_n 3, 1071, 3, 0, 0, 0), some (.iconst 1, 1072, 0, 0, 0, 0)],
  [some (.iadd, 1073, 0, 0, 0, 0), some (.iaload, 1074, 0, 0, 0, 0), some (.invokevirtual 139, 1077, 125, 2, 0, 0), none, none, some (.aload_n 2, 1078, 2, 0, 0, 0), some (.aload_n 0, 1079, 0, 0, 0, 0), some (.iload_n 3, 1080, 3, 0, 0, 0), some (.iconst 1, 1081, 0, 0, 0, 0), some (.iadd, 1082, 0, 0, 0, 0), some (.iaload, 1083, 0, 0, 0, 0), some (.invokevirtual 142, 1086, 247, 2, 0, 0), none, none, some (.if_icmp .eq 127, 1089, 1213, 0, 0, 0), none],
  [none, some (.iconst 0, 1090, 0, 0, 0, 0), some (.ireturn, 1091, 0, 0, 2, 0), some (.aload_n 1, 1092, 1, 0, 0, 0), some (.aload_n 0, 1093, 0, 0, 0, 0), some (.iload_n 3, 1094, 3, 0, 0, 0), some (.iconst 1, 1095, 0, 0, 0, 0), some (.iadd, 1096, 0, 0, 0, 0), some (.iaload, 1097, 0, 0, 0, 0), some (.aload_n 0, 1098, 0, 0, 0, 0), some (.iload_n 3, 1099, 3, 0, 0, 0), some (.iconst 2, 1100, 0, 0, 0, 0), some (.iadd, 1101, 0, 0, 0, 0), some (.iaload, 1102, 0, 0, 0, 0), some (.aload_n 0, 1103, 0, 0, 0, 0), some (.iload_n 3, 1104, 3, 0, 0, 0)],
  [some (.iconst 3, 1105, 0, 0, 0, 0), some (.iadd, 1106, 0, 0, 0, 0), some (.iaload, 1107, 0, 0, 0, 0), some (.aload_n 0, 1108, 0, 0, 0, 0), some (.iload_n 3, 1109, 3, 0, 0, 0), some (.iconst 4, 1110, 0, 0, 0, 0), some (.iadd, 1111, 0, 0, 0, 0), some (.iaload, 1112, 0, 0, 0, 0), some (.invokevirtual 143, 1115, 126, 5, 0, 0), none, none, some (.aload_n 2, 1116, 2, 0, 0, 0), some (.aload_n 0, 1117, 0, 0, 0, 0), some (.iload_n 3, 1118, 3, 0, 0, 0), some (.iconst 1, 1119, 0, 0, 0, 0), some (.iadd, 1120, 0, 0, 0, 0)],
  [some (.iaload, 1121, 0, 0, 0, 0), some (.aload_n 0, 1122, 0, 0, 0, 0), some (.iload_n 3, 1123, 3, 0, 0, 0), some (.iconst 2, 1124, 0, 0, 0, 0), some (.iadd, 1125, 0, 0, 0, 0), some (.iaload, 1126, 0, 0, 0, 0), some (.aload_n 0, 1127, 0, 0, 0, 0), some (.iload_n 3, 1128, 3, 0, 0, 0), some (.iconst 3, 1129, 0, 0, 0, 0), some (.iadd, 1130, 0, 0, 0, 0), some (.iaload, 1131, 0, 0, 0, 0), some (.aload_n 0, 1132, 0, 0, 0, 0), some (.iload_n 3, 1133, 3, 0, 0, 0), some (.iconst 4, 1134, 0, 0, 0, 0), some (.iadd, 1135, 0, 0, 0, 0), some (.iaload, 1136, 0, 0, 0, 0)],
  [some (.invokevirtual 146, 1139, 248, 5, 0, 0), none, none, some (.if_icmp .eq 74, 1142, 1213, 0, 0, 0), none, none, some (.iconst 0, 1143, 0, 0, 0, 0), some (.ireturn, 1144, 0, 0, 2, 0), some (.aload_n 1, 1145, 1, 0, 0, 0), some (.aload_n 0, 1146, 0, 0, 0, 0), some (.iload_n 3, 1147, 3, 0, 0, 0), some (.iconst 1, 1148, 0, 0, 0, 0), some (.iadd, 1149, 0, 0, 0, 0), some (.iaload, 1150, 0, 0, 0, 0), some (.invokevirtual 147, 1153, 54, 2, 0, 0), none],
  [none, some (.aload_n 2, 1154, 2, 0, 0, 0), some (.aload_n 0, 1155, 0, 0, 0, 0), some (.iload_n 3, 1156, 3, 0, 0, 0), some (.iconst 1, 1157, 0, 0, 0, 0), some (.iadd, 1158, 0, 0, 0, 0), some (.iaload, 1159, 0, 0, 0, 0), some (.invokevirtual 150, 1162, 251, 2, 0, 0), none, none, some (.if_icmp .eq 51, 1165, 1213, 0, 0, 0), none, none, some (.iconst 0, 1166, 0, 0, 0, 0), some (.ireturn, 1167, 0, 0, 2, 0), some (.aload_n 1, 1168, 1, 0, 0, 0)],
  [some (.aload_n 0, 1169, 0, 0, 0, 0), some (.iload_n 3, 1170, 3, 0, 0, 0), some (.iconst 1, 1171, 0, 0, 0, 0), some (.iadd, 1172, 0, 0, 0, 0), some (.iaload, 1173, 0, 0, 0, 0), some (.invokevirtual 151, 1176, 129, 2, 0, 0), none, none, some (.aload_n 2, 1177, 2, 0, 0, 0), some (.aload_n 0, 1178, 0, 0, 0, 0), some (.iload_n 3, 1179, 3, 0, 0, 0), some (.iconst 1, 1180, 0, 0, 0, 0), some (.iadd, 1181, 0, 0, 0, 0), some (.iaload, 1182, 0, 0, 0, 0), some (.invokevirtual 154, 1185, 253, 2, 0, 0), none],
  [none, some (.if_icmp .eq 28, 1188, 1213, 0, 0, 0), none, none, some (.iconst 0, 1189, 0, 0, 0, 0), some (.ireturn, 1190, 0, 0, 2, 0), some (.aload_n 1, 1191, 1, 0, 0, 0), some (.aload_n 0, 1192, 0, 0, 0, 0), some (.iload_n 3, 1193, 3, 0, 0, 0), some (.iconst 1, 1194, 0, 0, 0, 0), some (.iadd, 1195, 0, 0, 0, 0), some (.iaload, 1196, 0, 0, 0, 0), some (.invokevirtual 155, 1199, 131, 2, 0, 0), none, none, some (.aload_n 2, 1200, 2, 0, 0, 0)],
  [some (.aload_n 0, 1201, 0, 0, 0, 0), some (.iload_n 3, 1202, 3, 0, 0, 0), some (.iconst 1, 1203, 0, 0, 0, 0), some (.iadd, 1204, 0, 0, 0, 0), some (.iaload, 1205, 0, 0, 0, 0), some (.invokevirtual 158, 1208, 254, 2, 0, 0), none, none, some (.if_icmp .eq 5, 1211, 1213, 0, 0, 0), none, none, some (.iconst 0, 1212, 0, 0, 0, 0), some (.ireturn, 1213, 0, 0, 2, 0), some (.iinc 3 6, 1216, 3, 0, 0, 0), none, none],
  [some (.goto (-1198), 18, 0, 0, 0, 0), none, none, some (.iconst 1, 1220, 0, 0, 0, 0), some (.ireturn, 1221, 0, 0, 2, 0)]]
def zPl : List (Nat × ZT) := [(2, zt0), (1, zt1), (1, zt2), (1, zt3), (1, zt4), (1, zt5), (1, zt6), (2, zt7), (1, zt8), (6, zt9), (3, zt10), (2, zt11), (2, zt12), (5, zt13), (1, zt14), (3, zt15), (2, zt16), (2, zt17), (1, zt18), (1, zt19), (4, zt20), (6, zt21), (2, zt22), (6, zt23), (1, zt24), (4, zt25), (3, zt26), (6, zt27), (5, zt28), (3, zt29), (2, zt30), (2, zt31), (3, zt32), (2, zt33), (4, zt34), (2, zt35), (5, zt36), (2, zt37), (1, zt38), (2, zt39), (2, zt40), (5, zt41), (5, zt42), (3, zt43), (3, zt44), (2, zt45), (3, zt46), (3, zt47), (1, zt48), (3, zt49), (2, zt50), (2, zt51), (2, zt52), (2, zt53), (2, zt54), (3, zt55), (1, zt56), (3, zt57), (1, zt58), (1, zt59), (2, zt60), (4, zt61), (3, zt62), (4, zt63), (4, zt64), (5, zt65), (9, zt66), (1, zt67), (5, zt68), (5, zt69), (2, zt70), (4, zt71), (2, zt72), (3, zt73), (6, zt74), (2, zt75), (3, zt76), (2, zt77), (3, zt78), (3, zt79), (2, zt80), (2, zt81), (2, zt82), (4, zt83), (1, zt84), (3, zt85), (5, zt86), (1, zt87), (5, zt88), (3, zt89), (5, zt90), (3, zt91), (5, zt92), (3, zt93), (9, zt94), (4, zt95), (3, zt96), (3, zt97), (3, zt98), (4, zt99), (8, zt100), (4, zt101), (2, zt102), (9, zt103), (8, zt104), (10, zt105), (2, zt106), (4, zt107), (5, zt108), (5, zt109), (4, zt110), (9, zt111), (2, zt112), (5, zt113), (4, zt114), (6, zt115), (2, zt116), (4, zt117), (3, zt118), (4, zt119), (5, zt120), (6, zt121), (4, zt122), (3, zt123), (4, zt124), (3, zt125), (11, zt126), (5, zt127), (1, zt128), (3, zt129), (2, zt130), (3, zt131), (1, zt132), (6, zt133), (3, zt134), (2, zt135), (1, zt136), (2, zt137), (3, zt138), (1, zt139), (1, zt140), (6, zt141), (2, zt142), (3, zt143), (2, zt144), (2, zt145), (1, zt146), (4, zt147), (5, zt148), (2, zt149), (6, zt150), (3, zt151), (3, zt152), (4, zt153), (3, zt154), (2, zt155), (2, zt156), (2, zt157), (2, zt158), (3, zt159), (2, zt160), (3, zt161), (1, zt162), (3, zt163), (3, zt164), (3, zt165), (2, zt166), (5, zt167), (1, zt168), (2, zt169), (1, zt170), (2, zt171), (2, zt172), (3, zt173), (7, zt174), (3, zt175), (2, zt176), (3, zt177), (2, zt178), (1, zt179), (2, zt180), (3, zt181), (2, zt182), (2, zt183), (2, zt184), (2, zt185), (1, zt186), (2, zt187), (3, zt188), (2, zt189), (3, zt190), (2, zt191), (2, zt192), (2, zt193), (2, zt194), (3, zt195), (3, zt196), (3, zt197), (4, zt198), (11, zt199), (3, zt200), (1, zt201), (5, zt202), (2, zt203), (2, zt204), (2, zt205), (3, zt206), (4, zt207), (2, zt208), (3, zt209), (2, zt210), (2, zt211), (3, zt212), (4, zt213), (5, zt214), (2, zt215), (3, zt216), (2, zt217), (4, zt218), (3, zt219), (5, zt220), (4, zt221), (4, zt222), (4, zt223), (3, zt224), (4, zt225), (4, zt226), (7, zt227), (5, zt228), (8, zt229), (8, zt230), (2, zt231), (7, zt232), (4, zt233), (4, zt234), (4, zt235), (10, zt236), (2, zt237), (5, zt238), (6, zt239), (6, zt240), (3, zt241), (2, zt242), (5, zt243), (4, zt244), (7, zt245), (6, zt246), (3, zt247), (10, zt248), (2, zt249), (3, zt250), (2, zt251), (3, zt252), (3, zt253), (3, zt254), (4, zt255)]
def zP (y : Nat) : Nat × ZT := (znth zPl y).getD (0, [])
end
section
/-! The small machine's heap, held against the machine's -/
def zad (B : Nat) (ext : Nat → Nat) (k : Nat) : Nat := if k < zX then B + k else ext (k - zX)
def zcv (B : Nat) (ext : Nat → Nat) (v : ZV) : Value := match v with
  | .inl x => .int (Int32.ofInt x)
  | .inr (.inl x) => .long (Int64.ofInt x)
  | .inr (.inr (.inl r)) => va_rf (r.map (zad B ext))
  | _ => .null
def zft (t : FieldType) : Nat := match t with
  | .int => 0
  | .long => 1
  | .object _ => 2
  | .array _ => 2
  | .boolean => 3
  | _ => 9
def zcomp (t : Nat) : FieldType := if t = 101 then .byte else if t = 102 then .boolean else if t = 103 then .long else if 110 ≤ t then .object (zRX (t - 110)) else .int
def zfv (B : Nat) (ext : Nat → Nat) (h : ZH) (k c j : Nat) : Value := if zft (ztX c j) = 1 then .long (Int64.ofInt (h.2.1 k j)) else if zft (ztX c j) = 2 then va_rf ((h.2.2 k j).map (zad B ext)) else .int (Int32.ofInt (h.2.1 k j))
def zce (B : Nat) (ext : Nat → Nat) (ca : Nat → ClassId) (h : ZH) (k : Nat) : va_E :=
  if (h.1.2 k).1 < 100 then .inr ((h.1.2 k).1, (List.range (znf (h.1.2 k).1)).map (fun j => zfv B ext h k (h.1.2 k).1 j))
  else if (h.1.2 k).1 = 103 then .inl (ca k, (h.1.2 k).2, .inr (.inl (fun j => Int64.ofInt (h.2.1 k j))))
  else if 110 ≤ (h.1.2 k).1 then .inl (ca k, (h.1.2 k).2, .inr (.inr (.inr (.inr (fun j => (h.2.2 k j).map (zad B ext))))))
  else .inl (ca k, (h.1.2 k).2, .inl (fun j => Int32.ofInt (h.2.1 k j)))
def zws (B : Nat) (ext : Nat → Nat) (ca : Nat → ClassId) (h : ZH) : va_W := (List.range h.1.1.1).map (fun k => (B + k, zce B ext ca h k))
/-- the law's own script, as cell zX + 6 of the small heap -/
def ZSc (sc : Nat × (Nat → Int32)) (h : ZH) : Prop := h.1.2 (zX + 6) = (100, sc.1) ∧ ∀ j, Int32.ofInt (h.2.1 (zX + 6) j) = sc.2 j
def ZP (B : Nat) (ext : Nat → Nat) (D : va_G) (sc : Nat × (Nat → Int32)) (ca : Nat → ClassId) (h : ZH) (H : Heap) : Prop := h.1.1.1 ≤ 1000000 ∧ va_P D vwCl (zws B ext ca h) H ∧ ZSc sc h
def ZK (D : va_G) (ca : Nat → ClassId) (σ : ZS) (U : State) : Prop := va_K D vwCl [] U ∧ ∀ k, k < σ.1.1 → 100 ≤ (σ.2 k).1 → ArrOfT U (ca k) (zcomp (σ.2 k).1) ∧ va_RA U (ca k) (zcomp (σ.2 k).1)
abbrev zAr (B : Nat) : Nat → Prop := fun q => B ≤ q
theorem ZK.one {D : va_G} {ca : Nat → ClassId} {σ : ZS} {U : State} (h : ZK D ca σ U) {k : Nat} (hk : k < σ.1.1) (ht : 100 ≤ (σ.2 k).1) : va_K D vwCl [(ca k, zcomp (σ.2 k).1)] U := by
  refine ⟨h.1.1, fun j q hq => ?_⟩
  have hj : j < 1 := (List.getElem?_eq_some_iff.mp hq).1
  have e : j = 0 := by omega
  subst e
  cases hq
  exact h.2 k hk ht
theorem ZK.moved {D : va_G} {ca : Nat → ClassId} {σ : ZS} {u U : State} (hvm : u.vm.Alike U.vm) (h : ZK D ca σ u) : ZK D ca σ U := by
  refine ⟨h.1.moved hvm, fun k hk ht => ?_⟩
  exact ((h.one hk ht).moved hvm).2 0 _ rfl
theorem zws_at {B : Nat} {ext : Nat → Nat} {ca : Nat → ClassId} {h : ZH} {k : Nat} (hk : k < h.1.1.1) : (zws B ext ca h)[k]? = some (B + k, zce B ext ca h k) := by
  simp [zws, hk]
theorem zws_inv {B : Nat} {ext : Nat → Nat} {ca : Nat → ClassId} {h : ZH} {k : Nat} {q : Nat × va_E} (hq : (zws B ext ca h)[k]? = some q) : k < h.1.1.1 ∧ q = (B + k, zce B ext ca h k) := by
  have hk : k < h.1.1.1 := by
    have := (List.getElem?_eq_some_iff.mp hq).1
    simpa [zws] using this
  rw [zws_at hk] at hq
  exact ⟨hk, (Option.some.inj hq).symm⟩
theorem zws_D {B : Nat} {ext : Nat → Nat} {ca : Nat → ClassId} {h : ZH} : va_D (zAr B) (zws B ext ca h) := by
  refine ⟨fun i j p q hp hq e => ?_, fun k q hq => ?_⟩
  · obtain ⟨-, rfl⟩ := zws_inv hp
    obtain ⟨-, rfl⟩ := zws_inv hq
    have e' : B + i = B + j := e
    omega
  · obtain ⟨-, rfl⟩ := zws_inv hq
    show B ≤ B + k
    omega
theorem zws_set {B : Nat} {ext : Nat → Nat} {ca : Nat → ClassId} {h h' : ZH} {k : Nat} (e1 : h'.1.1.1 = h.1.1.1) (e2 : ∀ j, j ≠ k → zce B ext ca h' j = zce B ext ca h j) : (zws B ext ca h).set k (B + k, zce B ext ca h' k) = zws B ext ca h' := by
  apply List.ext_getElem?
  intro j
  by_cases hj : j < h.1.1.1
  · rw [zws_at (h := h') (by rw [e1]; exact hj), List.getElem?_set]
    by_cases hjk : k = j
    · subst hjk
      simp [zws, hj]
    · rw [if_neg hjk, zws_at hj, e2 j (fun e => hjk e.symm)]
  · rw [List.getElem?_eq_none (by simp [zws]; omega), List.getElem?_eq_none (by simp [zws, e1]; omega)]
theorem zws_push {B : Nat} {ext : Nat → Nat} {ca ca' : Nat → ClassId} {h h' : ZH} (e1 : h'.1.1.1 = h.1.1.1 + 1) (e2 : ∀ j, j < h.1.1.1 → zce B ext ca' h' j = zce B ext ca h j) : zws B ext ca' h' = zws B ext ca h ++ [(B + h.1.1.1, zce B ext ca' h' h.1.1.1)] := by
  unfold zws
  rw [e1, List.range_succ, List.map_append]
  congr 1
  apply List.map_congr_left
  intro j hj
  rw [e2 j (List.mem_range.mp hj)]
/-- the words that a method may hand on -/
def zTB : List Jvm.Cond := lw_tbl.filter goodWord
theorem zTB_in {w : Jvm.Cond} (h : w ∈ tables_1) (g : goodWord w = true) : w ∈ zTB := List.mem_filter.mpr ⟨List.mem_append_right _ h, g⟩
theorem zTB_in' {w : Jvm.Cond} (h : w ∈ lw_tbl) (g : goodWord w = true) : w ∈ zTB := List.mem_filter.mpr ⟨h, g⟩
theorem zTB_good : ∀ w ∈ zTB, goodWord w = true := fun w h => (List.mem_filter.mp h).2
theorem zTB_sub : ∀ w ∈ zTB, w ∈ lw_tbl := fun w h => (List.mem_filter.mp h).1
theorem zce_off {B : Nat} {ext : Nat → Nat} {ca ca' : Nat → ClassId} {h h' : ZH} {j : Nat} (e0 : h'.1.2 j = h.1.2 j) (e1 : h'.2.1 j = h.2.1 j) (e2 : h'.2.2 j = h.2.2 j) (e3 : ca' j = ca j) : zce B ext ca' h' j = zce B ext ca h j := by
  unfold zce zfv
  simp only [e0, e1, e2, e3]
theorem zcases {c : Nat} {P : Nat → Prop} (h : c < 12) (h0 : P 0) (h1 : P 1) (h2 : P 2) (h3 : P 3) (h4 : P 4) (h5 : P 5) (h6 : P 6) (h7 : P 7) (h8 : P 8) (h9 : P 9) (h10 : P 10) (h11 : P 11) : P c := by
  have e : c = 0 ∨ c = 1 ∨ c = 2 ∨ c = 3 ∨ c = 4 ∨ c = 5 ∨ c = 6 ∨ c = 7 ∨ c = 8 ∨ c = 9 ∨ c = 10 ∨ c = 11 := by omega
  rcases e with rfl | rfl | rfl | rfl | rfl | rfl | rfl | rfl | rfl | rfl | rfl | rfl <;> assumption
theorem zcl_at {c : Nat} (h : c < 12) : vwCl[c]? = some (zRX c, zTX c, znf c) := zcases (P := fun c => vwCl[c]? = some (zRX c, zTX c, znf c)) h rfl rfl rfl rfl rfl rfl rfl rfl rfl rfl rfl rfl
theorem zty_ok {c : Nat} (h : c < 12) : ∀ k, k < znf c → parseFieldDescriptor (zTX c k).2.2.1 = some (ztX c k) :=
  zcases (P := fun c => ∀ k, k < znf c → parseFieldDescriptor (zTX c k).2.2.1 = some (ztX c k)) h tyX0_ok tyX1_ok tyX2_ok tyX3_ok tyX4_ok tyX5_ok tyX6_ok tyX7_ok tyX8_ok tyX9_ok tyX10_ok tyX11_ok
theorem znm_ok {c : Nat} (h : c < 12) : ∀ a, a < znf c → ∀ b, b < znf c → a ≠ b → (zTX c a).2.1 ≠ (zTX c b).2.1 :=
  zcases (P := fun c => ∀ a, a < znf c → ∀ b, b < znf c → a ≠ b → (zTX c a).2.1 ≠ (zTX c b).2.1) h nmX0 nmX1 nmX2 nmX3 nmX4 nmX5 nmX6 nmX7 nmX8 nmX9 nmX10 nmX11
theorem zcls_ok {c : Nat} (h : c < 12) : ∀ k, k < znf c → (zTX c k).1 = zRX c :=
  zcases (P := fun c => ∀ k, k < znf c → (zTX c k).1 = zRX c) h (by decide +kernel) (by decide +kernel) (by decide +kernel) (by decide +kernel) (by decide +kernel) (by decide +kernel) (by decide +kernel) (by decide +kernel) (by decide +kernel) (by decide +kernel) (by decide +kernel) (by decide +kernel)
theorem zlay_in {c : Nat} (h : c < 12) : ∀ w ∈ u_ws (zRX c) (zTX c) (znf c), w ∈ zTB := by
  have g : ∀ k, k < znf c → u_lay (zRX c) (zTX c) k ∈ tables_1 := zcases (P := fun c => ∀ k, k < znf c → u_lay (zRX c) (zTX c) k ∈ tables_1) h zlay_0 zlay_1 zlay_2 zlay_3 zlay_4 zlay_5 zlay_6 zlay_7 zlay_8 zlay_9 zlay_10 zlay_11
  intro w hw
  obtain ⟨k, hk, rfl⟩ := List.mem_map.mp hw
  refine zTB_in (g k (List.mem_range.mp hk)) ?_
  unfold u_lay
  split <;> rfl
theorem zins_ok {c : Nat} (h : c < 12) : Cond.instantiable (zRX c) (znf c) ∈ tables_1 ∧ Cond.initialized (zRX c) ∈ tables_1 :=
  zcases (P := fun c => Cond.instantiable (zRX c) (znf c) ∈ tables_1 ∧ Cond.initialized (zRX c) ∈ tables_1) h zins_0 zins_1 zins_2 zins_3 zins_4 zins_5 zins_6 zins_7 zins_8 zins_9 zins_10 zins_11
end
section
/-! What is checked, once and by computing, of each instruction of each method -/
def zln (i : Instr) : Nat := match i with
  | .bipush _ => 2
  | .sipush _ => 3
  | .ldc _ => 2
  | .ldc_w _ => 3
  | .ldc2_w _ => 3
  | .iload _ => 2
  | .lload _ => 2
  | .aload _ => 2
  | .istore _ => 2
  | .lstore _ => 2
  | .astore _ => 2
  | .iinc _ _ => 3
  | .goto _ => 3
  | .ifCond _ _ => 3
  | .if_icmp _ _ => 3
  | .ifnull _ => 3
  | .ifnonnull _ => 3
  | .getfield _ => 3
  | .putfield _ => 3
  | .new _ => 3
  | .newarray _ => 2
  | .anewarray _ => 3
  | .invokevirtual _ => 3
  | .invokestatic _ => 3
  | .invokespecial _ => 3
  | .checkcast _ => 3
  | _ => 1
/-- how many arguments a method's descriptor and kind give -/
def zna (y : Nat) : Option Nat := (parseMethodDescriptor (zM y).1.desc).map (fun d => d.parameters.length)
def zckI (o : Nat) (ini : Bool) (rc pc : Nat) (e : ZE) : Bool := match e with
  | (i, q, a, b, c, v) => match i with
    | .iload k | .lload k | .aload k | .istore k | .astore k | .lstore k => a == k && q == pc + 2
    | .iload_n k | .lload_n k | .aload_n k | .istore_n k | .astore_n k | .lstore_n k => a == k.val && q == pc + 1
    | .iinc k _ => a == k && q == pc + 3
    | .goto off => decide ((pc : Int) + off = (q : Int))
    | .ifCond _ off | .if_icmp _ off | .ifnull off | .ifnonnull off => decide ((pc : Int) + off = (a : Int)) && q == pc + 3
    | .tableswitch d _ _ offs => decide (0 ≤ (pc : Int) + d) && offs.toList.all (fun f => decide (0 ≤ (pc : Int) + f))
    | .lookupswitch d ps => (ps.toList.zip (ps.toList.drop 1)).all (fun (a, next) => a.1 < next.1) && decide (0 ≤ (pc : Int) + d) && ps.toList.all (fun f => decide (0 ≤ (pc : Int) + f.2))
    | .bipush n => q == pc + 2 && decide ((Int8.ofInt n).toInt32 = Int32.ofInt n)
    | .sipush n => q == pc + 3 && decide ((Int16.ofInt n).toInt32 = Int32.ofInt n)
    | .lconst k => q == pc + 1 && decide (v = (k.val : Int))
    | .ldc k => q == pc + 2 && (if b = 0 then (zCI o).elem (k, v) else (zCS o).elem (k, a - zX) && decide (zX ≤ a))
    | .ldc_w k => q == pc + 3 && (zCI o).elem (k, v)
    | .ldc2_w k => q == pc + 3 && (zCJ o).elem (k, v)
    | .getfield k => q == pc + 3 && decide (c < 12 ∧ a < znf c ∧ zft (ztX c a) = b) && (zFL o).elem (k, c, a)
    | .putfield k => q == pc + 3 && decide (c < 12 ∧ a < znf c ∧ zft (ztX c a) = b) && (zFL o).elem (k, c, a) && (!(zTX c a).2.2.2 || (ini && c == o))
    | .aaload | .aastore => q == pc + 1 && decide (110 ≤ a ∧ a < 122)
    | .new k => q == pc + 3 && decide (a < 12 ∧ b = znf a) && (zCL o).elem (k, a)
    | .newarray t => q == pc + 2 && (match t with
      | .int => a == 100
      | .byte => a == 101
      | .boolean => a == 102
      | .long => a == 103
      | _ => false)
    | .anewarray k => q == pc + 3 && decide (a = 111 ∨ a = 115 ∨ a = 117) && (zCL o).elem (k, a - 110)
    | .checkcast k => q == pc + 3 && o == 15 && k == 317
    | .invokevirtual k => q == pc + 3 && (if 1000 ≤ a then (a == 1004 && o == 15 && k == 316) || (zSL o).elem (k, a) else (zML o).elem (k, a, 0) && znth zVl a == some true && decide (a < 255) && zna a == some (b - 1) && decide (1 ≤ b))
    | .invokestatic k => q == pc + 3 && (if 1000 ≤ a then a == 1003 && (zAL o).elem k else (zML o).elem (k, a, 1) && decide (a < 255) && zna a == some b)
    | .invokespecial k => q == pc + 3 && (if 1000 ≤ a then a == 1000 && (zOL o).elem k else ((zML o).elem (k, a, 2) || (zML o).elem (k, a, 3)) && decide (a < 255) && zna a == some (b - 1) && decide (1 ≤ b) && (zM a).1.name == "<init>")
    | .return_ | .ireturn | .lreturn | .areturn => c == rc
    | _ => q == pc + 1
def zrc (t : Option FieldType) : Nat := match t with
  | none => 0
  | some .int => 1
  | some .boolean => 2
  | some .long => 3
  | some (.object _) => 4
  | some (.array _) => 4
  | _ => 9
def zck (o : Nat) (ini : Bool) (rc : Nat) (cc : ByteArray) (pc : Nat) (e : ZE) : Bool := match decode cc pc with
  | .ok (i, ln) => decide (i = e.1) && (ln == zln i || (match i with | .tableswitch _ _ _ _ => true | .lookupswitch _ _ => true | _ => false)) && zckI o ini rc pc e
  | _ => false
def zckR (o : Nat) (ini : Bool) (rc : Nat) (cc : ByteArray) : Nat → List (Option ZE) → Bool
  | _, [] => true
  | pc, none :: t => zckR o ini rc cc (pc + 1) t
  | pc, some e :: t => zck o ini rc cc pc e && zckR o ini rc cc (pc + 1) t
def zckT (o : Nat) (ini : Bool) (rc : Nat) (cc : ByteArray) : Nat → ZT → Bool
  | _, [] => true
  | pc, r :: t => (r.length == 16 || t.isEmpty) && zckR o ini rc cc pc r && zckT o ini rc cc (pc + 16) t
def zckM (y : Nat) : Bool := zckT (zM y).2.2.2.2 ((zM y).1.name == "<init>") (zrc (zM y).2.2.2.1) (zM y).2.1 0 (zP y).2 && (zP y).1 == (zM y).2.2.1
theorem zckR_at {o : Nat} {ini : Bool} {rc : Nat} {cc : ByteArray} : ∀ (r : List (Option ZE)) (pc k : Nat) (e : ZE), zckR o ini rc cc pc r = true → znth r k = some (some e) → zck o ini rc cc (pc + k) e = true := by
  intro r
  induction r with
  | nil => intro pc k e _ h; cases k <;> cases h
  | cons x t ih =>
    intro pc k e hr h
    cases k with
    | zero =>
      have hx : x = some e := Option.some.inj h
      subst hx
      simp only [zckR, Bool.and_eq_true] at hr
      exact hr.1
    | succ k =>
      have h' : znth t k = some (some e) := h
      have ht : zckR o ini rc cc (pc + 1) t = true := by
        cases x with
        | none => exact hr
        | some x => simp only [zckR, Bool.and_eq_true] at hr; exact hr.2
      have := ih (pc + 1) k e ht h'
      rwa [show pc + 1 + k = pc + (k + 1) by omega] at this
theorem zckT_at {o : Nat} {ini : Bool} {rc : Nat} {cc : ByteArray} : ∀ (T : ZT) (pc j : Nat) (r : List (Option ZE)), zckT o ini rc cc pc T = true → znth T j = some r → zckR o ini rc cc (pc + 16 * j) r = true := by
  intro T
  induction T with
  | nil => intro pc j r _ h; cases j <;> cases h
  | cons x t ih =>
    intro pc j r hT h
    simp only [zckT, Bool.and_eq_true] at hT
    cases j with
    | zero =>
      have hx : x = r := Option.some.inj h
      subst hx
      exact hT.1.2
    | succ j =>
      have := ih (pc + 16) j r hT.2 h
      rwa [show pc + 16 + 16 * j = pc + 16 * (j + 1) by omega] at this
theorem zck_at {o : Nat} {ini : Bool} {rc : Nat} {cc : ByteArray} {T : ZT} {pc : Nat} {e : ZE} (hT : zckT o ini rc cc 0 T = true) (h : zlk T pc = some e) : zck o ini rc cc pc e = true := by
  unfold zlk at h
  split at h
  · cases h
  · rename_i r hr
    split at h
    · cases h
    · rename_i x hx
      subst h
      have h1 := zckT_at T 0 (pc / 16) r hT hr
      have h2 := zckR_at r _ (pc % 16) e h1 hx
      rwa [show 0 + 16 * (pc / 16) + pc % 16 = pc by omega] at h2
end
section
/-! The small machine's instructions, each held against the machine's own -/
def znu (v : ZV) : Bool := match v with
  | .inr (.inr (.inr _)) => false
  | _ => true
def zlv (B : Nat) (ext : Nat → Nat) : Nat → List ZV → List (Nat × Value)
  | _, [] => []
  | i, v :: t => if znu v = true then (i, zcv B ext v) :: zlv B ext (i + 1) t else zlv B ext (i + 1) t
theorem zlv_mem {B : Nat} {ext : Nat → Nat} : ∀ (L : List ZV) (i : Nat) (q : Nat × Value), q ∈ zlv B ext i L ↔ ∃ j v, zget L j = some v ∧ znu v = true ∧ q = (i + j, zcv B ext v) := by
  intro L
  induction L with
  | nil =>
    intro i q
    simp [zlv, zget]
  | cons u t ih =>
    intro i q
    have step : q ∈ zlv B ext i (u :: t) ↔ (znu u = true ∧ q = (i, zcv B ext u)) ∨ q ∈ zlv B ext (i + 1) t := by
      unfold zlv
      by_cases hu : znu u = true
      · rw [if_pos hu, List.mem_cons]
        constructor
        · rintro (h | h)
          · exact Or.inl ⟨hu, h⟩
          · exact Or.inr h
        · rintro (h | h)
          · exact Or.inl h.2
          · exact Or.inr h
      · rw [if_neg hu]
        constructor
        · intro h; exact Or.inr h
        · rintro (h | h)
          · exact absurd h.1 hu
          · exact h
    rw [step, ih]
    constructor
    · rintro (⟨h1, h2⟩ | ⟨j, v, h1, h2, h3⟩)
      · exact ⟨0, u, rfl, h1, by simpa using h2⟩
      · exact ⟨j + 1, v, h1, h2, by rw [h3]; congr 1; omega⟩
    · rintro ⟨j, v, h1, h2, h3⟩
      cases j with
      | zero =>
        have e : u = v := Option.some.inj h1
        subst e
        exact Or.inl ⟨h2, by simpa using h3⟩
      | succ j => exact Or.inr ⟨j, v, h1, h2, by rw [h3]; congr 1; omega⟩
theorem zget_lt : ∀ (L : List ZV) (i : Nat) (v : ZV), zget L i = some v → i < L.length := by
  intro L
  induction L with
  | nil => intro i v h; cases i <;> cases h
  | cons u t ih =>
    intro i v h
    cases i with
    | zero => simp
    | succ i => have := ih i v h; simp; omega
theorem zset_len : ∀ (L : List ZV) (i : Nat) (v : ZV), (zset L i v).length = L.length := by
  intro L
  induction L with
  | nil => intro i v; rfl
  | cons u t ih =>
    intro i v
    cases i with
    | zero => rfl
    | succ i => simp [zset, ih]
theorem zset_get : ∀ (L : List ZV) (i j : Nat) (v : ZV), i < L.length → zget (zset L i v) j = if j = i then some v else zget L j := by
  intro L
  induction L with
  | nil => intro i j v h; simp at h
  | cons u t ih =>
    intro i j v h
    cases i with
    | zero => cases j <;> simp [zset, zget]
    | succ i =>
      cases j with
      | zero => simp [zset, zget]
      | succ j =>
        simp only [zset, zget]
        rw [ih i j v (by simpa using h)]
        simp
theorem zst1_len : ∀ (L : List ZV) (i : Nat) (v : ZV), (zst1 L i v).length = L.length := by
  intro L
  induction L with
  | nil => intro i v; rfl
  | cons u t ih =>
    intro i v
    match i with
    | 0 => rfl
    | 1 => simp [zst1, zset_len]
    | n + 2 => simp [zst1, ih]
theorem zst1_get : ∀ (L : List ZV) (i j : Nat) (v : ZV), i < L.length → zget (zst1 L i v) j = if j = i then some v else if j + 1 = i then (zget L j).map zkeep else zget L j := by
  intro L
  induction L with
  | nil => intro i j v h; simp at h
  | cons u t ih =>
    intro i j v h
    match i with
    | 0 => cases j <;> simp [zst1, zget]
    | 1 =>
      cases j with
      | zero => simp [zst1, zget]
      | succ j =>
        simp only [zst1, zget]
        rw [zset_get t 0 j v (by simp at h; omega)]
        simp
    | n + 2 =>
      cases j with
      | zero => simp [zst1, zget]
      | succ j =>
        simp only [zst1, zget]
        rw [ih (n + 1) j v (by simp at h; omega)]
        simp
theorem zst2_len : ∀ (L : List ZV) (i : Nat) (v : ZV), (zst2 L i v).length = L.length := by
  intro L
  induction L with
  | nil => intro i v; rfl
  | cons u t ih =>
    intro i v
    match i with
    | 0 => simp [zst2, zset_len]
    | 1 => simp [zst2, zset_len]
    | n + 2 => simp [zst2, ih]
theorem zst2_get : ∀ (L : List ZV) (i j : Nat) (v : ZV), i + 1 < L.length → zget (zst2 L i v) j = if j = i then some v else if j = i + 1 then some zu else if j + 1 = i then (zget L j).map zkeep else zget L j := by
  intro L
  induction L with
  | nil => intro i j v h; simp at h
  | cons u t ih =>
    intro i j v h
    match i with
    | 0 =>
      cases j with
      | zero => simp [zst2, zget]
      | succ j =>
        simp only [zst2, zget]
        rw [zset_get t 0 j zu (by simp at h; omega)]
        by_cases hj : j = 0 <;> simp [hj]
    | 1 =>
      cases j with
      | zero => simp [zst2, zget]
      | succ j =>
        simp only [zst2, zget]
        rw [zset_get _ 1 j zu (by rw [zset_len]; simp at h; omega), zset_get t 0 j v (by simp at h; omega)]
        by_cases h1 : j = 1
        · subst h1; simp
        · by_cases h0 : j = 0
          · subst h0; simp
          · simp [h1, h0]
    | n + 2 =>
      cases j with
      | zero => simp [zst2, zget]
      | succ j =>
        simp only [zst2, zget]
        rw [ih (n + 1) j v (by simp at h; omega)]
        simp
theorem zcat2 {B : Nat} {ext : Nat → Nat} (v : ZV) (h : ((zcv B ext v).category == 2) = true) : zkeep v = zu := by
  rcases v with x | x | x | x
  · cases h
  · rfl
  · cases x <;> cases h
  · cases h
theorem zkeep_nu (v : ZV) (h : znu (zkeep v) = true) : zkeep v = v := by
  rcases v with x | x | x | x
  · rfl
  · cases h
  · rfl
  · rfl
theorem zst1_sub {B : Nat} {ext : Nat → Nat} {L : List ZV} {a : Nat} {v : ZV} (ha : a < L.length) : ∀ q ∈ zlv B ext 0 (zst1 L a v), q ∈ (a, zcv B ext v) :: (zlv B ext 0 L).filter (fun q => !(q.1 == a) && !(q.1 + 1 == a && q.2.category == 2)) := by
  intro q hq
  obtain ⟨j, w, h1, h2, rfl⟩ := (zlv_mem _ _ _).mp hq
  rw [zst1_get L a j v ha] at h1
  by_cases hj : j = a
  · rw [if_pos hj] at h1
    cases h1
    subst hj
    simp
  · rw [if_neg hj] at h1
    refine List.mem_cons_of_mem _ (List.mem_filter.mpr ?_)
    by_cases hj1 : j + 1 = a
    · rw [if_pos hj1] at h1
      obtain ⟨u, hu, rfl⟩ := Option.map_eq_some_iff.mp h1
      have e := zkeep_nu u h2
      refine ⟨(zlv_mem _ _ _).mpr ⟨j, u, hu, by rw [← e]; exact h2, by rw [e]⟩, ?_⟩
      have hc : ¬ ((zcv B ext u).category == 2) = true := fun hc => by
        rw [zcat2 u hc] at h2
        cases h2
      rw [e]
      simp only [Bool.not_eq_true] at hc
      simp [hj, hc]
    · rw [if_neg hj1] at h1
      refine ⟨(zlv_mem _ _ _).mpr ⟨j, w, h1, h2, rfl⟩, ?_⟩
      simp [hj, hj1]
theorem zst2_sub {B : Nat} {ext : Nat → Nat} {L : List ZV} {a : Nat} {v : ZV} (ha : a + 1 < L.length) : ∀ q ∈ zlv B ext 0 (zst2 L a v), q ∈ (a, zcv B ext v) :: (zlv B ext 0 L).filter (fun q => !(q.1 == a) && (!(q.1 == a + 1) && !(q.1 + 1 == a && q.2.category == 2))) := by
  intro q hq
  obtain ⟨j, w, h1, h2, rfl⟩ := (zlv_mem _ _ _).mp hq
  rw [zst2_get L a j v ha] at h1
  by_cases hj : j = a
  · rw [if_pos hj] at h1
    cases h1
    subst hj
    simp
  · rw [if_neg hj] at h1
    refine List.mem_cons_of_mem _ (List.mem_filter.mpr ?_)
    by_cases hj2 : j = a + 1
    · rw [if_pos hj2] at h1
      cases h1
      cases h2
    · rw [if_neg hj2] at h1
      by_cases hj1 : j + 1 = a
      · rw [if_pos hj1] at h1
        obtain ⟨u, hu, rfl⟩ := Option.map_eq_some_iff.mp h1
        have e := zkeep_nu u h2
        refine ⟨(zlv_mem _ _ _).mpr ⟨j, u, hu, by rw [← e]; exact h2, by rw [e]⟩, ?_⟩
        have hc : ¬ ((zcv B ext u).category == 2) = true := fun hc => by
          rw [zcat2 u hc] at h2
          cases h2
        rw [e]
        simp only [Bool.not_eq_true] at hc
        simp [hj, hj2, hc]
      · rw [if_neg hj1] at h1
        refine ⟨(zlv_mem _ _ _).mpr ⟨j, w, h1, h2, rfl⟩, ?_⟩
        simp [hj, hj1, hj2]
/-- what a frame stands on: machine, code, own class, the tables' words -/
def ZC (p : Program) (s : State) (m : MethodId) (args : Array Value) (c : Code) (o : Nat) (cc : ByteArray) (nL : Nat) : Prop :=
  p.tables.exec = Jvm.exec ∧ c.code = cc ∧ c.maxLocals = nL ∧ s.vm.findClass (zRN o) = some m.cls ∧ ∀ w ∈ zTB, w.before args s = true
/-- from every state of the machine that shows this state of the small one, the machine comes to Q -/
def ZW (p : Program) (l : Launch) (e : Env) (R : Room) (s : State) (m : MethodId) (args : Array Value) (below : List Frame) (meth : Method) (c : Code) (Q : State → Prop) (B : Nat) (ext : Nat → Nat) (D : va_G) (sc : Nat × (Nat → Int32)) (N0 S0 nL pc : Nat) (L st : List ZV) (h : ZH) : Prop :=
  ∀ (ca : Nat → ClassId) (H : Heap) (locs : List Loc) (cells slots : Nat) (ls : Array Slot), ZP B ext D sc ca h H → ZK D ca h.1 s → va_S (zAr B) s.heap H locs → cells + N0 = h.1.1.1 → slots + S0 = h.1.1.2 → lv_has ls nL (zlv B ext 0 L) → L.length = nL →
    W p l e R s m args below meth c H locs cells slots Q (F0 m pc ls (st.map (zcv B ext)))
theorem zlv_get {B : Nat} {ext : Nat → Nat} {ls : Array Slot} {nL : Nat} {L : List ZV} {i : Nat} {v : ZV} (h : lv_has ls nL (zlv B ext 0 L)) (hg : zget L i = some v) (hn : znu v = true) : ls[i]? = some (.val (zcv B ext v)) :=
  h.2.2 (i, zcv B ext v) ((zlv_mem _ _ _).mpr ⟨i, v, hg, hn, by simp⟩)
section ZROWS
variable {p : Program} {l : Launch} {e : Env} {R : Room} {s : State} {m : MethodId} {args : Array Value} {below : List Frame} {meth : Method} {c : Code} {Q : State → Prop}
variable {B : Nat} {ext : Nat → Nat} {D : va_G} {sc : Nat × (Nat → Int32)} {N0 S0 nL o pc : Nat} {cc : ByteArray} {L st : List ZV} {h : ZH}
theorem zw_iconst (C : ZC p s m args c o cc nL) {n : Int} (hd : decode cc pc = .ok (.iconst n, 1)) (k : ZW p l e R s m args below meth c Q B ext D sc N0 S0 nL (pc + 1) (L) (zi n :: st) (h)) : ZW p l e R s m args below meth c Q B ext D sc N0 S0 nL (pc) (L) (st) (h) := by
  intro ca H locs cells slots ls a1 a2 a3 a4 a5 a6 a7
  have K := k ca H locs cells slots ls a1 a2 a3 a4 a5 a6 a7
  exact lv_iconst C.1 C.2.1 hd rfl K
theorem zw_bipush (C : ZC p s m args c o cc nL) {n : Int} (hn : (Int8.ofInt n).toInt32 = Int32.ofInt n) (hd : decode cc pc = .ok (.bipush n, 2)) (k : ZW p l e R s m args below meth c Q B ext D sc N0 S0 nL (pc + 2) (L) (zi n :: st) (h)) : ZW p l e R s m args below meth c Q B ext D sc N0 S0 nL (pc) (L) (st) (h) := by
  intro ca H locs cells slots ls a1 a2 a3 a4 a5 a6 a7
  have K := k ca H locs cells slots ls a1 a2 a3 a4 a5 a6 a7
  exact lv_bipush C.1 C.2.1 hd hn K
theorem zw_sipush (C : ZC p s m args c o cc nL) {n : Int} (hn : (Int16.ofInt n).toInt32 = Int32.ofInt n) (hd : decode cc pc = .ok (.sipush n, 3)) (k : ZW p l e R s m args below meth c Q B ext D sc N0 S0 nL (pc + 3) (L) (zi n :: st) (h)) : ZW p l e R s m args below meth c Q B ext D sc N0 S0 nL (pc) (L) (st) (h) := by
  intro ca H locs cells slots ls a1 a2 a3 a4 a5 a6 a7
  have K := k ca H locs cells slots ls a1 a2 a3 a4 a5 a6 a7
  exact lv_sipush C.1 C.2.1 hd hn K
theorem zw_lconst (C : ZC p s m args c o cc nL) {n : Fin 2} {v : Int} (hn : v = ((n : Nat) : Int)) (hd : decode cc pc = .ok (.lconst n, 1)) (k : ZW p l e R s m args below meth c Q B ext D sc N0 S0 nL (pc + 1) (L) (zl v :: st) (h)) : ZW p l e R s m args below meth c Q B ext D sc N0 S0 nL (pc) (L) (st) (h) := by
  intro ca H locs cells slots ls a1 a2 a3 a4 a5 a6 a7
  have K := k ca H locs cells slots ls a1 a2 a3 a4 a5 a6 a7
  subst hn
  exact lv_lconst C.1 C.2.1 hd (by match n with | 0 => rfl | 1 => rfl) K
theorem zw_null (C : ZC p s m args c o cc nL)  (hd : decode cc pc = .ok (.aconst_null, 1)) (k : ZW p l e R s m args below meth c Q B ext D sc N0 S0 nL (pc + 1) (L) (zr none :: st) (h)) : ZW p l e R s m args below meth c Q B ext D sc N0 S0 nL (pc) (L) (st) (h) := by
  intro ca H locs cells slots ls a1 a2 a3 a4 a5 a6 a7
  have K := k ca H locs cells slots ls a1 a2 a3 a4 a5 a6 a7
  exact lv_null C.1 C.2.1 hd K
theorem zw_ldc (C : ZC p s m args c o cc nL) {n : Nat} {v : Int} (hc : Cond.constant (zRN o) n (Int32.ofInt v) ∈ tables_1) (hd : decode cc pc = .ok (.ldc n, 2)) (k : ZW p l e R s m args below meth c Q B ext D sc N0 S0 nL (pc + 2) (L) (zi v :: st) (h)) : ZW p l e R s m args below meth c Q B ext D sc N0 S0 nL (pc) (L) (st) (h) := by
  intro ca H locs cells slots ls a1 a2 a3 a4 a5 a6 a7
  have K := k ca H locs cells slots ls a1 a2 a3 a4 a5 a6 a7
  exact lv_ldc C.1 C.2.1 C.2.2.2.1 (C.2.2.2.2 _ (zTB_in hc rfl)) hd K
theorem zw_ldcw (C : ZC p s m args c o cc nL) {n : Nat} {v : Int} (hc : Cond.constant (zRN o) n (Int32.ofInt v) ∈ tables_1) (hd : decode cc pc = .ok (.ldc_w n, 3)) (k : ZW p l e R s m args below meth c Q B ext D sc N0 S0 nL (pc + 3) (L) (zi v :: st) (h)) : ZW p l e R s m args below meth c Q B ext D sc N0 S0 nL (pc) (L) (st) (h) := by
  intro ca H locs cells slots ls a1 a2 a3 a4 a5 a6 a7
  have K := k ca H locs cells slots ls a1 a2 a3 a4 a5 a6 a7
  exact lv_ldcw C.1 C.2.1 C.2.2.2.1 (C.2.2.2.2 _ (zTB_in hc rfl)) hd K
theorem zw_ldc2 (C : ZC p s m args c o cc nL) {n : Nat} {v : Int} (hc : Cond.constantLong (zRN o) n (Int64.ofInt v) ∈ tables_1) (hd : decode cc pc = .ok (.ldc2_w n, 3)) (k : ZW p l e R s m args below meth c Q B ext D sc N0 S0 nL (pc + 3) (L) (zl v :: st) (h)) : ZW p l e R s m args below meth c Q B ext D sc N0 S0 nL (pc) (L) (st) (h) := by
  intro ca H locs cells slots ls a1 a2 a3 a4 a5 a6 a7
  have K := k ca H locs cells slots ls a1 a2 a3 a4 a5 a6 a7
  exact lv_ldc2 C.1 C.2.1 C.2.2.2.1 (C.2.2.2.2 _ (zTB_in hc rfl)) hd K
theorem zw_ldcs (C : ZC p s m args c o cc nL) {n : Nat} {a : Nat} {tx : String} (ha : zX ≤ a) (hz : vk_R (zRN o) n tx (ext (a - zX)) s) (hd : decode cc pc = .ok (.ldc n, 2)) (k : ZW p l e R s m args below meth c Q B ext D sc N0 S0 nL (pc + 2) (L) (zr (some a) :: st) (h)) : ZW p l e R s m args below meth c Q B ext D sc N0 S0 nL (pc) (L) (st) (h) := by
  intro ca H locs cells slots ls a1 a2 a3 a4 a5 a6 a7
  have K := k ca H locs cells slots ls a1 a2 a3 a4 a5 a6 a7
  have e : zcv B ext (zr (some a)) = .ref (ext (a - zX)) := by
    show Value.ref (zad B ext a) = _
    unfold zad; rw [if_neg (by omega)]
  rw [List.map_cons, e] at K
  exact va_ldcS C.1 C.2.1 C.2.2.2.1 hz hd K
theorem zw_iload (C : ZC p s m args c o cc nL) {a : Nat} {x : Int} (hg : zget L a = some (zi x)) (hd : decode cc pc = .ok (.iload a, 2)) (k : ZW p l e R s m args below meth c Q B ext D sc N0 S0 nL (pc + 2) (L) (zi x :: st) (h)) : ZW p l e R s m args below meth c Q B ext D sc N0 S0 nL (pc) (L) (st) (h) := by
  intro ca H locs cells slots ls a1 a2 a3 a4 a5 a6 a7
  have K := k ca H locs cells slots ls a1 a2 a3 a4 a5 a6 a7
  exact lv_iload C.1 C.2.1 hd (zlv_get a6 hg rfl) K
theorem zw_iload_n (C : ZC p s m args c o cc nL) {k : Fin 4} {a : Nat} (ha : a = k.val) {x : Int} (hg : zget L a = some (zi x)) (hd : decode cc pc = .ok (.iload_n k, 1)) (k : ZW p l e R s m args below meth c Q B ext D sc N0 S0 nL (pc + 1) (L) (zi x :: st) (h)) : ZW p l e R s m args below meth c Q B ext D sc N0 S0 nL (pc) (L) (st) (h) := by
  intro ca H locs cells slots ls a1 a2 a3 a4 a5 a6 a7
  have K := k ca H locs cells slots ls a1 a2 a3 a4 a5 a6 a7
  exact lv_iload_n C.1 C.2.1 hd ha.symm (zlv_get a6 hg rfl) K
theorem zw_lload (C : ZC p s m args c o cc nL) {a : Nat} {x : Int} (hg : zget L a = some (zl x)) (hd : decode cc pc = .ok (.lload a, 2)) (k : ZW p l e R s m args below meth c Q B ext D sc N0 S0 nL (pc + 2) (L) (zl x :: st) (h)) : ZW p l e R s m args below meth c Q B ext D sc N0 S0 nL (pc) (L) (st) (h) := by
  intro ca H locs cells slots ls a1 a2 a3 a4 a5 a6 a7
  have K := k ca H locs cells slots ls a1 a2 a3 a4 a5 a6 a7
  exact lv_lload C.1 C.2.1 hd (zlv_get a6 hg rfl) K
theorem zw_lload_n (C : ZC p s m args c o cc nL) {k : Fin 4} {a : Nat} (ha : a = k.val) {x : Int} (hg : zget L a = some (zl x)) (hd : decode cc pc = .ok (.lload_n k, 1)) (k : ZW p l e R s m args below meth c Q B ext D sc N0 S0 nL (pc + 1) (L) (zl x :: st) (h)) : ZW p l e R s m args below meth c Q B ext D sc N0 S0 nL (pc) (L) (st) (h) := by
  intro ca H locs cells slots ls a1 a2 a3 a4 a5 a6 a7
  have K := k ca H locs cells slots ls a1 a2 a3 a4 a5 a6 a7
  exact lv_lload_n C.1 C.2.1 hd ha.symm (zlv_get a6 hg rfl) K
theorem zw_aload (C : ZC p s m args c o cc nL) {a : Nat} {x : Option Nat} (hg : zget L a = some (zr x)) (hd : decode cc pc = .ok (.aload a, 2)) (k : ZW p l e R s m args below meth c Q B ext D sc N0 S0 nL (pc + 2) (L) (zr x :: st) (h)) : ZW p l e R s m args below meth c Q B ext D sc N0 S0 nL (pc) (L) (st) (h) := by
  intro ca H locs cells slots ls a1 a2 a3 a4 a5 a6 a7
  have K := k ca H locs cells slots ls a1 a2 a3 a4 a5 a6 a7
  have hl := zlv_get a6 hg rfl
  cases x with
  | none => exact lv_aloadN C.1 C.2.1 hd hl K
  | some x => exact lv_aload C.1 C.2.1 hd hl K
theorem zw_aload_n (C : ZC p s m args c o cc nL) {k : Fin 4} {a : Nat} (ha : a = k.val) {x : Option Nat} (hg : zget L a = some (zr x)) (hd : decode cc pc = .ok (.aload_n k, 1)) (k : ZW p l e R s m args below meth c Q B ext D sc N0 S0 nL (pc + 1) (L) (zr x :: st) (h)) : ZW p l e R s m args below meth c Q B ext D sc N0 S0 nL (pc) (L) (st) (h) := by
  intro ca H locs cells slots ls a1 a2 a3 a4 a5 a6 a7
  have K := k ca H locs cells slots ls a1 a2 a3 a4 a5 a6 a7
  have hl := zlv_get a6 hg rfl
  cases x with
  | none => exact lv_aload_nN C.1 C.2.1 hd ha.symm hl K
  | some x => exact lv_aload_n C.1 C.2.1 hd ha.symm hl K
theorem zw_istore (C : ZC p s m args c o cc nL) {a : Nat} {x : Int} (ha : a < L.length) (hd : decode cc pc = .ok (.istore a, 2)) (k : ZW p l e R s m args below meth c Q B ext D sc N0 S0 nL (pc + 2) (zst1 L a (zi x)) (st) (h)) : ZW p l e R s m args below meth c Q B ext D sc N0 S0 nL (pc) (L) (zi x :: st) (h) := by
  intro ca H locs cells slots ls a1 a2 a3 a4 a5 a6 a7
  exact lv_istore C.1 C.2.1 hd a6 (by omega) rfl (fun ls1 hl1 => k ca H locs cells slots ls1 a1 a2 a3 a4 a5 ⟨hl1.1, hl1.2.1, fun q hq => hl1.2.2 q (zst1_sub ha q hq)⟩ (by rw [zst1_len]; exact a7))
theorem zw_istore_n (C : ZC p s m args c o cc nL) {k0 : Fin 4} {a : Nat} (hk : a = k0.val) {x : Int} (ha : a < L.length) (hd : decode cc pc = .ok (.istore_n k0, 1)) (k : ZW p l e R s m args below meth c Q B ext D sc N0 S0 nL (pc + 1) (zst1 L a (zi x)) (st) (h)) : ZW p l e R s m args below meth c Q B ext D sc N0 S0 nL (pc) (L) (zi x :: st) (h) := by
  intro ca H locs cells slots ls a1 a2 a3 a4 a5 a6 a7
  exact lv_istore_n C.1 C.2.1 hd hk.symm a6 (by omega) rfl (fun ls1 hl1 => k ca H locs cells slots ls1 a1 a2 a3 a4 a5 ⟨hl1.1, hl1.2.1, fun q hq => hl1.2.2 q (zst1_sub ha q hq)⟩ (by rw [zst1_len]; exact a7))
theorem zw_lstore (C : ZC p s m args c o cc nL) {a : Nat} {x : Int} (ha : a + 1 < L.length) (hd : decode cc pc = .ok (.lstore a, 2)) (k : ZW p l e R s m args below meth c Q B ext D sc N0 S0 nL (pc + 2) (zst2 L a (zl x)) (st) (h)) : ZW p l e R s m args below meth c Q B ext D sc N0 S0 nL (pc) (L) (zl x :: st) (h) := by
  intro ca H locs cells slots ls a1 a2 a3 a4 a5 a6 a7
  exact lv_lstore C.1 C.2.1 hd a6 (by omega) rfl (fun ls1 hl1 => k ca H locs cells slots ls1 a1 a2 a3 a4 a5 ⟨hl1.1, hl1.2.1, fun q hq => hl1.2.2 q (zst2_sub ha q hq)⟩ (by rw [zst2_len]; exact a7))
theorem zw_lstore_n (C : ZC p s m args c o cc nL) {k0 : Fin 4} {a : Nat} (hk : a = k0.val) {x : Int} (ha : a + 1 < L.length) (hd : decode cc pc = .ok (.lstore_n k0, 1)) (k : ZW p l e R s m args below meth c Q B ext D sc N0 S0 nL (pc + 1) (zst2 L a (zl x)) (st) (h)) : ZW p l e R s m args below meth c Q B ext D sc N0 S0 nL (pc) (L) (zl x :: st) (h) := by
  intro ca H locs cells slots ls a1 a2 a3 a4 a5 a6 a7
  exact lv_lstore_n C.1 C.2.1 hd hk.symm a6 (by omega) rfl (fun ls1 hl1 => k ca H locs cells slots ls1 a1 a2 a3 a4 a5 ⟨hl1.1, hl1.2.1, fun q hq => hl1.2.2 q (zst2_sub ha q hq)⟩ (by rw [zst2_len]; exact a7))
theorem zw_astore (C : ZC p s m args c o cc nL) {a : Nat} {x : Option Nat} (ha : a < L.length) (hd : decode cc pc = .ok (.astore a, 2)) (k : ZW p l e R s m args below meth c Q B ext D sc N0 S0 nL (pc + 2) (zst1 L a (zr x)) (st) (h)) : ZW p l e R s m args below meth c Q B ext D sc N0 S0 nL (pc) (L) (zr x :: st) (h) := by
  intro ca H locs cells slots ls a1 a2 a3 a4 a5 a6 a7
  cases x with
  | none => exact lv_astoreN C.1 C.2.1 hd a6 (by omega) rfl (fun ls1 hl1 => k ca H locs cells slots ls1 a1 a2 a3 a4 a5 ⟨hl1.1, hl1.2.1, fun q hq => hl1.2.2 q (zst1_sub ha q hq)⟩ (by rw [zst1_len]; exact a7))
  | some x => exact lv_astore C.1 C.2.1 hd a6 (by omega) rfl (fun ls1 hl1 => k ca H locs cells slots ls1 a1 a2 a3 a4 a5 ⟨hl1.1, hl1.2.1, fun q hq => hl1.2.2 q (zst1_sub ha q hq)⟩ (by rw [zst1_len]; exact a7))
theorem zw_astore_n (C : ZC p s m args c o cc nL) {k0 : Fin 4} {a : Nat} (hk : a = k0.val) {x : Option Nat} (ha : a < L.length) (hd : decode cc pc = .ok (.astore_n k0, 1)) (k : ZW p l e R s m args below meth c Q B ext D sc N0 S0 nL (pc + 1) (zst1 L a (zr x)) (st) (h)) : ZW p l e R s m args below meth c Q B ext D sc N0 S0 nL (pc) (L) (zr x :: st) (h) := by
  intro ca H locs cells slots ls a1 a2 a3 a4 a5 a6 a7
  cases x with
  | none => exact lv_astore_nN C.1 C.2.1 hd hk.symm a6 (by omega) rfl (fun ls1 hl1 => k ca H locs cells slots ls1 a1 a2 a3 a4 a5 ⟨hl1.1, hl1.2.1, fun q hq => hl1.2.2 q (zst1_sub ha q hq)⟩ (by rw [zst1_len]; exact a7))
  | some x => exact lv_astore_n C.1 C.2.1 hd hk.symm a6 (by omega) rfl (fun ls1 hl1 => k ca H locs cells slots ls1 a1 a2 a3 a4 a5 ⟨hl1.1, hl1.2.1, fun q hq => hl1.2.2 q (zst1_sub ha q hq)⟩ (by rw [zst1_len]; exact a7))
theorem zw_iinc (C : ZC p s m args c o cc nL) {a : Nat} {n x : Int} (hg : zget L a = some (zi x)) (hd : decode cc pc = .ok (.iinc a n, 3)) (k : ZW p l e R s m args below meth c Q B ext D sc N0 S0 nL (pc + 3) (zst1 L a (zi (x + n))) (st) (h)) : ZW p l e R s m args below meth c Q B ext D sc N0 S0 nL (pc) (L) (st) (h) := by
  intro ca H locs cells slots ls a1 a2 a3 a4 a5 a6 a7
  have ha : a < L.length := zget_lt _ _ _ hg
  obtain ⟨j, hj⟩ := List.getElem?_of_mem ((zlv_mem (B := B) (ext := ext) L 0 (a, zcv B ext (zi x))).mpr ⟨a, zi x, hg, rfl, by simp⟩)
  exact lv_iinc C.1 C.2.1 hd a6 hj (Int32.ofInt_add x n).symm (by omega) rfl (fun ls1 hl1 => k ca H locs cells slots ls1 a1 a2 a3 a4 a5 ⟨hl1.1, hl1.2.1, fun q hq => hl1.2.2 q (zst1_sub ha q hq)⟩ (by rw [zst1_len]; exact a7))
theorem zw_iadd (C : ZC p s m args c o cc nL) {x y : Int} (hd : decode cc pc = .ok (.iadd, 1)) (k : ZW p l e R s m args below meth c Q B ext D sc N0 S0 nL (pc + 1) (L) (zi (x + y) :: st) (h)) : ZW p l e R s m args below meth c Q B ext D sc N0 S0 nL (pc) (L) (zi y :: zi x :: st) (h) := by
  intro ca H locs cells slots ls a1 a2 a3 a4 a5 a6 a7
  have K := k ca H locs cells slots ls a1 a2 a3 a4 a5 a6 a7
  refine lv_iadd C.1 C.2.1 hd ?_
  rw [← Int32.ofInt_add]
  exact K
theorem zw_isub (C : ZC p s m args c o cc nL) {x y : Int} (hd : decode cc pc = .ok (.isub, 1)) (k : ZW p l e R s m args below meth c Q B ext D sc N0 S0 nL (pc + 1) (L) (zi (x - y) :: st) (h)) : ZW p l e R s m args below meth c Q B ext D sc N0 S0 nL (pc) (L) (zi y :: zi x :: st) (h) := by
  intro ca H locs cells slots ls a1 a2 a3 a4 a5 a6 a7
  have K := k ca H locs cells slots ls a1 a2 a3 a4 a5 a6 a7
  refine lv_isub C.1 C.2.1 hd ?_
  rw [← Int32.ofInt_sub]
  exact K
theorem zw_imul (C : ZC p s m args c o cc nL) {x y : Int} (hd : decode cc pc = .ok (.imul, 1)) (k : ZW p l e R s m args below meth c Q B ext D sc N0 S0 nL (pc + 1) (L) (zi (x * y) :: st) (h)) : ZW p l e R s m args below meth c Q B ext D sc N0 S0 nL (pc) (L) (zi y :: zi x :: st) (h) := by
  intro ca H locs cells slots ls a1 a2 a3 a4 a5 a6 a7
  have K := k ca H locs cells slots ls a1 a2 a3 a4 a5 a6 a7
  refine lv_imul C.1 C.2.1 hd ?_
  rw [← Int32.ofInt_mul]
  exact K
theorem zw_iand (C : ZC p s m args c o cc nL) {x y : Int} (hd : decode cc pc = .ok (.iand, 1)) (k : ZW p l e R s m args below meth c Q B ext D sc N0 S0 nL (pc + 1) (L) (zi (z_and x y) :: st) (h)) : ZW p l e R s m args below meth c Q B ext D sc N0 S0 nL (pc) (L) (zi y :: zi x :: st) (h) := by
  intro ca H locs cells slots ls a1 a2 a3 a4 a5 a6 a7
  have K := k ca H locs cells slots ls a1 a2 a3 a4 a5 a6 a7
  refine lv_iand C.1 C.2.1 hd ?_
  rw [← z_and_of]
  exact K
theorem zw_ior (C : ZC p s m args c o cc nL) {x y : Int} (hd : decode cc pc = .ok (.ior, 1)) (k : ZW p l e R s m args below meth c Q B ext D sc N0 S0 nL (pc + 1) (L) (zi (z_or x y) :: st) (h)) : ZW p l e R s m args below meth c Q B ext D sc N0 S0 nL (pc) (L) (zi y :: zi x :: st) (h) := by
  intro ca H locs cells slots ls a1 a2 a3 a4 a5 a6 a7
  have K := k ca H locs cells slots ls a1 a2 a3 a4 a5 a6 a7
  refine lv_ior C.1 C.2.1 hd ?_
  rw [← z_or_of]
  exact K
theorem zw_ixor (C : ZC p s m args c o cc nL) {x y : Int} (hd : decode cc pc = .ok (.ixor, 1)) (k : ZW p l e R s m args below meth c Q B ext D sc N0 S0 nL (pc + 1) (L) (zi (z_xor x y) :: st) (h)) : ZW p l e R s m args below meth c Q B ext D sc N0 S0 nL (pc) (L) (zi y :: zi x :: st) (h) := by
  intro ca H locs cells slots ls a1 a2 a3 a4 a5 a6 a7
  have K := k ca H locs cells slots ls a1 a2 a3 a4 a5 a6 a7
  refine lv_ixor C.1 C.2.1 hd ?_
  rw [← z_xor_of]
  exact K
theorem zw_ishl (C : ZC p s m args c o cc nL) {x y : Int} (hd : decode cc pc = .ok (.ishl, 1)) (k : ZW p l e R s m args below meth c Q B ext D sc N0 S0 nL (pc + 1) (L) (zi (z_shl x y) :: st) (h)) : ZW p l e R s m args below meth c Q B ext D sc N0 S0 nL (pc) (L) (zi y :: zi x :: st) (h) := by
  intro ca H locs cells slots ls a1 a2 a3 a4 a5 a6 a7
  have K := k ca H locs cells slots ls a1 a2 a3 a4 a5 a6 a7
  refine lv_ishl C.1 C.2.1 hd ?_
  rw [← z_shl_of]
  exact K
theorem zw_ishr (C : ZC p s m args c o cc nL) {x y : Int} (hd : decode cc pc = .ok (.ishr, 1)) (k : ZW p l e R s m args below meth c Q B ext D sc N0 S0 nL (pc + 1) (L) (zi (z_shr x y) :: st) (h)) : ZW p l e R s m args below meth c Q B ext D sc N0 S0 nL (pc) (L) (zi y :: zi x :: st) (h) := by
  intro ca H locs cells slots ls a1 a2 a3 a4 a5 a6 a7
  have K := k ca H locs cells slots ls a1 a2 a3 a4 a5 a6 a7
  refine lv_ishr C.1 C.2.1 hd ?_
  rw [← z_shr_of]
  exact K
theorem zw_idiv (C : ZC p s m args c o cc nL) {x y : Int} (hy : ¬ wr y = 0) (hd : decode cc pc = .ok (.idiv, 1)) (k : ZW p l e R s m args below meth c Q B ext D sc N0 S0 nL (pc + 1) (L) (zi (z_div x y) :: st) (h)) : ZW p l e R s m args below meth c Q B ext D sc N0 S0 nL (pc) (L) (zi y :: zi x :: st) (h) := by
  intro ca H locs cells slots ls a1 a2 a3 a4 a5 a6 a7
  have K := k ca H locs cells slots ls a1 a2 a3 a4 a5 a6 a7
  refine lv_idiv C.1 C.2.1 hd (fun e => hy ?_) ?_
  · have := (wr_eq_iff y 0).mp e
    rwa [wr_zero] at this
  · rw [← z_div_of]
    exact K
theorem zw_irem (C : ZC p s m args c o cc nL) {x y : Int} (hy : ¬ wr y = 0) (hd : decode cc pc = .ok (.irem, 1)) (k : ZW p l e R s m args below meth c Q B ext D sc N0 S0 nL (pc + 1) (L) (zi (z_rem x y) :: st) (h)) : ZW p l e R s m args below meth c Q B ext D sc N0 S0 nL (pc) (L) (zi y :: zi x :: st) (h) := by
  intro ca H locs cells slots ls a1 a2 a3 a4 a5 a6 a7
  have K := k ca H locs cells slots ls a1 a2 a3 a4 a5 a6 a7
  refine lv_irem C.1 C.2.1 hd (fun e => hy ?_) ?_
  · have := (wr_eq_iff y 0).mp e
    rwa [wr_zero] at this
  · rw [← z_rem_of]
    exact K
theorem zw_iushr (C : ZC p s m args c o cc nL) {x y : Int} (hd : decode cc pc = .ok (.iushr, 1)) (k : ZW p l e R s m args below meth c Q B ext D sc N0 S0 nL (pc + 1) (L) (zi (z_ushr x y) :: st) (h)) : ZW p l e R s m args below meth c Q B ext D sc N0 S0 nL (pc) (L) (zi y :: zi x :: st) (h) := by
  intro ca H locs cells slots ls a1 a2 a3 a4 a5 a6 a7
  have K := k ca H locs cells slots ls a1 a2 a3 a4 a5 a6 a7
  exact lv_iushr C.1 C.2.1 hd (z_ushr_of x y) K
theorem zw_ladd (C : ZC p s m args c o cc nL) {x y : Int} (hd : decode cc pc = .ok (.ladd, 1)) (k : ZW p l e R s m args below meth c Q B ext D sc N0 S0 nL (pc + 1) (L) (zl (x + y) :: st) (h)) : ZW p l e R s m args below meth c Q B ext D sc N0 S0 nL (pc) (L) (zl y :: zl x :: st) (h) := by
  intro ca H locs cells slots ls a1 a2 a3 a4 a5 a6 a7
  have K := k ca H locs cells slots ls a1 a2 a3 a4 a5 a6 a7
  refine lv_ladd C.1 C.2.1 hd ?_
  rw [← Int64.ofInt_add]
  exact K
theorem zw_lsub (C : ZC p s m args c o cc nL) {x y : Int} (hd : decode cc pc = .ok (.lsub, 1)) (k : ZW p l e R s m args below meth c Q B ext D sc N0 S0 nL (pc + 1) (L) (zl (x - y) :: st) (h)) : ZW p l e R s m args below meth c Q B ext D sc N0 S0 nL (pc) (L) (zl y :: zl x :: st) (h) := by
  intro ca H locs cells slots ls a1 a2 a3 a4 a5 a6 a7
  have K := k ca H locs cells slots ls a1 a2 a3 a4 a5 a6 a7
  refine lv_lsub C.1 C.2.1 hd ?_
  rw [← Int64.ofInt_sub]
  exact K
theorem zw_lmul (C : ZC p s m args c o cc nL) {x y : Int} (hd : decode cc pc = .ok (.lmul, 1)) (k : ZW p l e R s m args below meth c Q B ext D sc N0 S0 nL (pc + 1) (L) (zl (x * y) :: st) (h)) : ZW p l e R s m args below meth c Q B ext D sc N0 S0 nL (pc) (L) (zl y :: zl x :: st) (h) := by
  intro ca H locs cells slots ls a1 a2 a3 a4 a5 a6 a7
  have K := k ca H locs cells slots ls a1 a2 a3 a4 a5 a6 a7
  refine lv_lmul C.1 C.2.1 hd ?_
  rw [← Int64.ofInt_mul]
  exact K
theorem zw_land (C : ZC p s m args c o cc nL) {x y : Int} (hd : decode cc pc = .ok (.land, 1)) (k : ZW p l e R s m args below meth c Q B ext D sc N0 S0 nL (pc + 1) (L) (zl (z_land x y) :: st) (h)) : ZW p l e R s m args below meth c Q B ext D sc N0 S0 nL (pc) (L) (zl y :: zl x :: st) (h) := by
  intro ca H locs cells slots ls a1 a2 a3 a4 a5 a6 a7
  have K := k ca H locs cells slots ls a1 a2 a3 a4 a5 a6 a7
  refine lv_land C.1 C.2.1 hd ?_
  rw [← z_land_of]
  exact K
theorem zw_lor (C : ZC p s m args c o cc nL) {x y : Int} (hd : decode cc pc = .ok (.lor, 1)) (k : ZW p l e R s m args below meth c Q B ext D sc N0 S0 nL (pc + 1) (L) (zl (z_lor x y) :: st) (h)) : ZW p l e R s m args below meth c Q B ext D sc N0 S0 nL (pc) (L) (zl y :: zl x :: st) (h) := by
  intro ca H locs cells slots ls a1 a2 a3 a4 a5 a6 a7
  have K := k ca H locs cells slots ls a1 a2 a3 a4 a5 a6 a7
  refine lv_lor C.1 C.2.1 hd ?_
  rw [← z_lor_of]
  exact K
theorem zw_ldiv (C : ZC p s m args c o cc nL) {x y : Int} (hy : ¬ wl y = 0) (hd : decode cc pc = .ok (.ldiv, 1)) (k : ZW p l e R s m args below meth c Q B ext D sc N0 S0 nL (pc + 1) (L) (zl (z_ldiv x y) :: st) (h)) : ZW p l e R s m args below meth c Q B ext D sc N0 S0 nL (pc) (L) (zl y :: zl x :: st) (h) := by
  intro ca H locs cells slots ls a1 a2 a3 a4 a5 a6 a7
  have K := k ca H locs cells slots ls a1 a2 a3 a4 a5 a6 a7
  refine lv_ldiv C.1 C.2.1 hd (fun e => hy ?_) ?_
  · have := (wl_eq_iff y 0).mp e
    rwa [show wl 0 = 0 by decide] at this
  · rw [← z_ldiv_of]
    exact K
theorem zw_lrem (C : ZC p s m args c o cc nL) {x y : Int} (hy : ¬ wl y = 0) (hd : decode cc pc = .ok (.lrem, 1)) (k : ZW p l e R s m args below meth c Q B ext D sc N0 S0 nL (pc + 1) (L) (zl (z_lrem x y) :: st) (h)) : ZW p l e R s m args below meth c Q B ext D sc N0 S0 nL (pc) (L) (zl y :: zl x :: st) (h) := by
  intro ca H locs cells slots ls a1 a2 a3 a4 a5 a6 a7
  have K := k ca H locs cells slots ls a1 a2 a3 a4 a5 a6 a7
  refine lv_lrem C.1 C.2.1 hd (fun e => hy ?_) ?_
  · have := (wl_eq_iff y 0).mp e
    rwa [show wl 0 = 0 by decide] at this
  · rw [← z_lrem_of]
    exact K
theorem zw_lshl (C : ZC p s m args c o cc nL) {x y : Int} (hd : decode cc pc = .ok (.lshl, 1)) (k : ZW p l e R s m args below meth c Q B ext D sc N0 S0 nL (pc + 1) (L) (zl (z_lshl x y) :: st) (h)) : ZW p l e R s m args below meth c Q B ext D sc N0 S0 nL (pc) (L) (zi y :: zl x :: st) (h) := by
  intro ca H locs cells slots ls a1 a2 a3 a4 a5 a6 a7
  have K := k ca H locs cells slots ls a1 a2 a3 a4 a5 a6 a7
  exact lv_lshl C.1 C.2.1 hd (z_lshl_of x y) K
theorem zw_lcmp (C : ZC p s m args c o cc nL) {x y : Int} (hd : decode cc pc = .ok (.lcmp, 1)) (k : ZW p l e R s m args below meth c Q B ext D sc N0 S0 nL (pc + 1) (L) (zi (z_cmp x y) :: st) (h)) : ZW p l e R s m args below meth c Q B ext D sc N0 S0 nL (pc) (L) (zl y :: zl x :: st) (h) := by
  intro ca H locs cells slots ls a1 a2 a3 a4 a5 a6 a7
  have K := k ca H locs cells slots ls a1 a2 a3 a4 a5 a6 a7
  refine W.lcmp C.1 C.2.1 hd ?_
  rw [z_cmp_of]
  exact K
theorem zw_i2l (C : ZC p s m args c o cc nL) {x : Int} (hd : decode cc pc = .ok (.i2l, 1)) (k : ZW p l e R s m args below meth c Q B ext D sc N0 S0 nL (pc + 1) (L) (zl (wr x) :: st) (h)) : ZW p l e R s m args below meth c Q B ext D sc N0 S0 nL (pc) (L) (zi x :: st) (h) := by
  intro ca H locs cells slots ls a1 a2 a3 a4 a5 a6 a7
  have K := k ca H locs cells slots ls a1 a2 a3 a4 a5 a6 a7
  exact lv_i2l C.1 C.2.1 hd (z_i2l_of x) K
theorem zw_l2i (C : ZC p s m args c o cc nL) {x : Int} (hd : decode cc pc = .ok (.l2i, 1)) (k : ZW p l e R s m args below meth c Q B ext D sc N0 S0 nL (pc + 1) (L) (zi x :: st) (h)) : ZW p l e R s m args below meth c Q B ext D sc N0 S0 nL (pc) (L) (zl x :: st) (h) := by
  intro ca H locs cells slots ls a1 a2 a3 a4 a5 a6 a7
  have K := k ca H locs cells slots ls a1 a2 a3 a4 a5 a6 a7
  exact lv_l2i C.1 C.2.1 hd (z_l2i_of x) K
theorem zw_i2b (C : ZC p s m args c o cc nL) {x : Int} (hd : decode cc pc = .ok (.i2b, 1)) (k : ZW p l e R s m args below meth c Q B ext D sc N0 S0 nL (pc + 1) (L) (zi (z_b x) :: st) (h)) : ZW p l e R s m args below meth c Q B ext D sc N0 S0 nL (pc) (L) (zi x :: st) (h) := by
  intro ca H locs cells slots ls a1 a2 a3 a4 a5 a6 a7
  have K := k ca H locs cells slots ls a1 a2 a3 a4 a5 a6 a7
  exact lv_i2b C.1 C.2.1 hd (z_i2b_of x) K
theorem zcat1r (x : Option Nat) : (zcv B ext (zr x)).category = 1 := by cases x <;> rfl
theorem zw_dupi (C : ZC p s m args c o cc nL) {x : Int} (hd : decode cc pc = .ok (.dup, 1)) (k : ZW p l e R s m args below meth c Q B ext D sc N0 S0 nL (pc + 1) (L) (zi x :: zi x :: st) (h)) : ZW p l e R s m args below meth c Q B ext D sc N0 S0 nL (pc) (L) (zi x :: st) (h) := by
  intro ca H locs cells slots ls a1 a2 a3 a4 a5 a6 a7
  have K := k ca H locs cells slots ls a1 a2 a3 a4 a5 a6 a7
  exact lv_dup C.1 C.2.1 hd rfl K
theorem zw_dupr (C : ZC p s m args c o cc nL) {x : Option Nat} (hd : decode cc pc = .ok (.dup, 1)) (k : ZW p l e R s m args below meth c Q B ext D sc N0 S0 nL (pc + 1) (L) (zr x :: zr x :: st) (h)) : ZW p l e R s m args below meth c Q B ext D sc N0 S0 nL (pc) (L) (zr x :: st) (h) := by
  intro ca H locs cells slots ls a1 a2 a3 a4 a5 a6 a7
  have K := k ca H locs cells slots ls a1 a2 a3 a4 a5 a6 a7
  exact lv_dup C.1 C.2.1 hd (zcat1r x) K
theorem zw_dup2 (C : ZC p s m args c o cc nL) {y : Int} {x : Option Nat} (hd : decode cc pc = .ok (.dup2, 1)) (k : ZW p l e R s m args below meth c Q B ext D sc N0 S0 nL (pc + 1) (L) (zi y :: zr x :: zi y :: zr x :: st) (h)) : ZW p l e R s m args below meth c Q B ext D sc N0 S0 nL (pc) (L) (zi y :: zr x :: st) (h) := by
  intro ca H locs cells slots ls a1 a2 a3 a4 a5 a6 a7
  have K := k ca H locs cells slots ls a1 a2 a3 a4 a5 a6 a7
  exact lv_dup2_11 C.1 C.2.1 hd rfl (zcat1r x) K
theorem zw_popi (C : ZC p s m args c o cc nL) {x : Int} (hd : decode cc pc = .ok (.pop, 1)) (k : ZW p l e R s m args below meth c Q B ext D sc N0 S0 nL (pc + 1) (L) (st) (h)) : ZW p l e R s m args below meth c Q B ext D sc N0 S0 nL (pc) (L) (zi x :: st) (h) := by
  intro ca H locs cells slots ls a1 a2 a3 a4 a5 a6 a7
  have K := k ca H locs cells slots ls a1 a2 a3 a4 a5 a6 a7
  exact lv_pop C.1 C.2.1 hd rfl K
theorem zw_popr (C : ZC p s m args c o cc nL) {x : Option Nat} (hd : decode cc pc = .ok (.pop, 1)) (k : ZW p l e R s m args below meth c Q B ext D sc N0 S0 nL (pc + 1) (L) (st) (h)) : ZW p l e R s m args below meth c Q B ext D sc N0 S0 nL (pc) (L) (zr x :: st) (h) := by
  intro ca H locs cells slots ls a1 a2 a3 a4 a5 a6 a7
  have K := k ca H locs cells slots ls a1 a2 a3 a4 a5 a6 a7
  exact lv_pop C.1 C.2.1 hd (zcat1r x) K
theorem zw_goto (C : ZC p s m args c o cc nL) {off : Int} {q : Nat} (hq : (pc : Int) + off = (q : Int)) (hd : decode cc pc = .ok (.goto off, 3)) (k : ZW p l e R s m args below meth c Q B ext D sc N0 S0 nL (q) (L) (st) (h)) : ZW p l e R s m args below meth c Q B ext D sc N0 S0 nL (pc) (L) (st) (h) := fun ca H locs cells slots ls a1 a2 a3 a4 a5 a6 a7 => lv_goto C.1 C.2.1 hd hq (k ca H locs cells slots ls a1 a2 a3 a4 a5 a6 a7)
theorem zw_if_eq (C : ZC p s m args c o cc nL) {x : Int} {off : Int} {q : Nat} (hq : (pc : Int) + off = (q : Int)) (hd : decode cc pc = .ok (.ifCond .eq off, 3)) (k1 : z_cm .eq x 0 = true → ZW p l e R s m args below meth c Q B ext D sc N0 S0 nL (q) (L) (st) (h)) (k2 : ¬ z_cm .eq x 0 = true → ZW p l e R s m args below meth c Q B ext D sc N0 S0 nL (pc + 3) (L) (st) (h)) : ZW p l e R s m args below meth c Q B ext D sc N0 S0 nL (pc) (L) (zi x :: st) (h) := by
  intro ca H locs cells slots ls a1 a2 a3 a4 a5 a6 a7
  have hz : (Int32.ofInt x = Int32.ofInt 0) ↔ z_cm .eq x 0 = true := by
    refine Iff.trans (wr_eq_iff x 0) ?_
    simp [z_cm]
  refine lv_if_eq C.1 C.2.1 hd hq (fun hp => k1 ?_ ca H locs cells slots ls a1 a2 a3 a4 a5 a6 a7) (fun hp => k2 (fun hc => ?_) ca H locs cells slots ls a1 a2 a3 a4 a5 a6 a7)
  · exact hz.mp (by first | exact hp | exact Int32.not_lt.mp hp | exact Int32.not_le.mp hp)
  · first | exact hp (hz.mpr hc) | exact hz.mpr hc hp | exact absurd (hz.mpr hc) (by first | exact hp | exact Int32.not_lt.mpr hp | exact Int32.not_le.mpr hp | simpa using hp)
theorem zw_icmp_eq (C : ZC p s m args c o cc nL) {x y : Int} {off : Int} {q : Nat} (hq : (pc : Int) + off = (q : Int)) (hd : decode cc pc = .ok (.if_icmp .eq off, 3)) (k1 : z_cm .eq x y = true → ZW p l e R s m args below meth c Q B ext D sc N0 S0 nL (q) (L) (st) (h)) (k2 : ¬ z_cm .eq x y = true → ZW p l e R s m args below meth c Q B ext D sc N0 S0 nL (pc + 3) (L) (st) (h)) : ZW p l e R s m args below meth c Q B ext D sc N0 S0 nL (pc) (L) (zi y :: zi x :: st) (h) := by
  intro ca H locs cells slots ls a1 a2 a3 a4 a5 a6 a7
  have hz : (Int32.ofInt x = Int32.ofInt y) ↔ z_cm .eq x y = true := by
    refine Iff.trans (wr_eq_iff x y) ?_
    simp [z_cm]
  refine lv_icmp_eq C.1 C.2.1 hd hq (fun hp => k1 ?_ ca H locs cells slots ls a1 a2 a3 a4 a5 a6 a7) (fun hp => k2 (fun hc => ?_) ca H locs cells slots ls a1 a2 a3 a4 a5 a6 a7)
  · exact hz.mp (by first | exact hp | exact Int32.not_lt.mp hp | exact Int32.not_le.mp hp)
  · first | exact hp (hz.mpr hc) | exact hz.mpr hc hp | exact absurd (hz.mpr hc) (by first | exact hp | exact Int32.not_lt.mpr hp | exact Int32.not_le.mpr hp | simpa using hp)
theorem zw_if_ne (C : ZC p s m args c o cc nL) {x : Int} {off : Int} {q : Nat} (hq : (pc : Int) + off = (q : Int)) (hd : decode cc pc = .ok (.ifCond .ne off, 3)) (k1 : z_cm .ne x 0 = true → ZW p l e R s m args below meth c Q B ext D sc N0 S0 nL (q) (L) (st) (h)) (k2 : ¬ z_cm .ne x 0 = true → ZW p l e R s m args below meth c Q B ext D sc N0 S0 nL (pc + 3) (L) (st) (h)) : ZW p l e R s m args below meth c Q B ext D sc N0 S0 nL (pc) (L) (zi x :: st) (h) := by
  intro ca H locs cells slots ls a1 a2 a3 a4 a5 a6 a7
  have hz : (¬ Int32.ofInt x = Int32.ofInt 0) ↔ z_cm .ne x 0 = true := by
    refine Iff.trans (not_congr (wr_eq_iff x 0)) ?_
    simp [z_cm]
  refine lv_if_ne C.1 C.2.1 hd hq (fun hp => k1 ?_ ca H locs cells slots ls a1 a2 a3 a4 a5 a6 a7) (fun hp => k2 (fun hc => ?_) ca H locs cells slots ls a1 a2 a3 a4 a5 a6 a7)
  · exact hz.mp (by first | exact hp | exact Int32.not_lt.mp hp | exact Int32.not_le.mp hp)
  · first | exact hp (hz.mpr hc) | exact hz.mpr hc hp | exact absurd (hz.mpr hc) (by first | exact hp | exact Int32.not_lt.mpr hp | exact Int32.not_le.mpr hp | simpa using hp)
theorem zw_icmp_ne (C : ZC p s m args c o cc nL) {x y : Int} {off : Int} {q : Nat} (hq : (pc : Int) + off = (q : Int)) (hd : decode cc pc = .ok (.if_icmp .ne off, 3)) (k1 : z_cm .ne x y = true → ZW p l e R s m args below meth c Q B ext D sc N0 S0 nL (q) (L) (st) (h)) (k2 : ¬ z_cm .ne x y = true → ZW p l e R s m args below meth c Q B ext D sc N0 S0 nL (pc + 3) (L) (st) (h)) : ZW p l e R s m args below meth c Q B ext D sc N0 S0 nL (pc) (L) (zi y :: zi x :: st) (h) := by
  intro ca H locs cells slots ls a1 a2 a3 a4 a5 a6 a7
  have hz : (¬ Int32.ofInt x = Int32.ofInt y) ↔ z_cm .ne x y = true := by
    refine Iff.trans (not_congr (wr_eq_iff x y)) ?_
    simp [z_cm]
  refine lv_icmp_ne C.1 C.2.1 hd hq (fun hp => k1 ?_ ca H locs cells slots ls a1 a2 a3 a4 a5 a6 a7) (fun hp => k2 (fun hc => ?_) ca H locs cells slots ls a1 a2 a3 a4 a5 a6 a7)
  · exact hz.mp (by first | exact hp | exact Int32.not_lt.mp hp | exact Int32.not_le.mp hp)
  · first | exact hp (hz.mpr hc) | exact hz.mpr hc hp | exact absurd (hz.mpr hc) (by first | exact hp | exact Int32.not_lt.mpr hp | exact Int32.not_le.mpr hp | simpa using hp)
theorem zw_if_lt (C : ZC p s m args c o cc nL) {x : Int} {off : Int} {q : Nat} (hq : (pc : Int) + off = (q : Int)) (hd : decode cc pc = .ok (.ifCond .lt off, 3)) (k1 : z_cm .lt x 0 = true → ZW p l e R s m args below meth c Q B ext D sc N0 S0 nL (q) (L) (st) (h)) (k2 : ¬ z_cm .lt x 0 = true → ZW p l e R s m args below meth c Q B ext D sc N0 S0 nL (pc + 3) (L) (st) (h)) : ZW p l e R s m args below meth c Q B ext D sc N0 S0 nL (pc) (L) (zi x :: st) (h) := by
  intro ca H locs cells slots ls a1 a2 a3 a4 a5 a6 a7
  have hz : (Int32.ofInt x < Int32.ofInt 0) ↔ z_cm .lt x 0 = true := by
    refine Iff.trans (wr_lt_iff x 0) ?_
    simp [z_cm]
  refine lv_if_lt C.1 C.2.1 hd hq (fun hp => k1 ?_ ca H locs cells slots ls a1 a2 a3 a4 a5 a6 a7) (fun hp => k2 (fun hc => ?_) ca H locs cells slots ls a1 a2 a3 a4 a5 a6 a7)
  · exact hz.mp (by first | exact hp | exact Int32.not_lt.mp hp | exact Int32.not_le.mp hp)
  · first | exact hp (hz.mpr hc) | exact hz.mpr hc hp | exact absurd (hz.mpr hc) (by first | exact hp | exact Int32.not_lt.mpr hp | exact Int32.not_le.mpr hp | simpa using hp)
theorem zw_icmp_lt (C : ZC p s m args c o cc nL) {x y : Int} {off : Int} {q : Nat} (hq : (pc : Int) + off = (q : Int)) (hd : decode cc pc = .ok (.if_icmp .lt off, 3)) (k1 : z_cm .lt x y = true → ZW p l e R s m args below meth c Q B ext D sc N0 S0 nL (q) (L) (st) (h)) (k2 : ¬ z_cm .lt x y = true → ZW p l e R s m args below meth c Q B ext D sc N0 S0 nL (pc + 3) (L) (st) (h)) : ZW p l e R s m args below meth c Q B ext D sc N0 S0 nL (pc) (L) (zi y :: zi x :: st) (h) := by
  intro ca H locs cells slots ls a1 a2 a3 a4 a5 a6 a7
  have hz : (Int32.ofInt x < Int32.ofInt y) ↔ z_cm .lt x y = true := by
    refine Iff.trans (wr_lt_iff x y) ?_
    simp [z_cm]
  refine lv_icmp_lt C.1 C.2.1 hd hq (fun hp => k1 ?_ ca H locs cells slots ls a1 a2 a3 a4 a5 a6 a7) (fun hp => k2 (fun hc => ?_) ca H locs cells slots ls a1 a2 a3 a4 a5 a6 a7)
  · exact hz.mp (by first | exact hp | exact Int32.not_lt.mp hp | exact Int32.not_le.mp hp)
  · first | exact hp (hz.mpr hc) | exact hz.mpr hc hp | exact absurd (hz.mpr hc) (by first | exact hp | exact Int32.not_lt.mpr hp | exact Int32.not_le.mpr hp | simpa using hp)
theorem zw_if_ge (C : ZC p s m args c o cc nL) {x : Int} {off : Int} {q : Nat} (hq : (pc : Int) + off = (q : Int)) (hd : decode cc pc = .ok (.ifCond .ge off, 3)) (k1 : z_cm .ge x 0 = true → ZW p l e R s m args below meth c Q B ext D sc N0 S0 nL (q) (L) (st) (h)) (k2 : ¬ z_cm .ge x 0 = true → ZW p l e R s m args below meth c Q B ext D sc N0 S0 nL (pc + 3) (L) (st) (h)) : ZW p l e R s m args below meth c Q B ext D sc N0 S0 nL (pc) (L) (zi x :: st) (h) := by
  intro ca H locs cells slots ls a1 a2 a3 a4 a5 a6 a7
  have hz : (Int32.ofInt 0 ≤ Int32.ofInt x) ↔ z_cm .ge x 0 = true := by
    refine Iff.trans (wr_le_iff 0 x) ?_
    simp [z_cm]
  refine lv_if_ge C.1 C.2.1 hd hq (fun hp => k1 ?_ ca H locs cells slots ls a1 a2 a3 a4 a5 a6 a7) (fun hp => k2 (fun hc => ?_) ca H locs cells slots ls a1 a2 a3 a4 a5 a6 a7)
  · exact hz.mp (by first | exact hp | exact Int32.not_lt.mp hp | exact Int32.not_le.mp hp)
  · first | exact hp (hz.mpr hc) | exact hz.mpr hc hp | exact absurd (hz.mpr hc) (by first | exact hp | exact Int32.not_lt.mpr hp | exact Int32.not_le.mpr hp | simpa using hp)
theorem zw_icmp_ge (C : ZC p s m args c o cc nL) {x y : Int} {off : Int} {q : Nat} (hq : (pc : Int) + off = (q : Int)) (hd : decode cc pc = .ok (.if_icmp .ge off, 3)) (k1 : z_cm .ge x y = true → ZW p l e R s m args below meth c Q B ext D sc N0 S0 nL (q) (L) (st) (h)) (k2 : ¬ z_cm .ge x y = true → ZW p l e R s m args below meth c Q B ext D sc N0 S0 nL (pc + 3) (L) (st) (h)) : ZW p l e R s m args below meth c Q B ext D sc N0 S0 nL (pc) (L) (zi y :: zi x :: st) (h) := by
  intro ca H locs cells slots ls a1 a2 a3 a4 a5 a6 a7
  have hz : (Int32.ofInt y ≤ Int32.ofInt x) ↔ z_cm .ge x y = true := by
    refine Iff.trans (wr_le_iff y x) ?_
    simp [z_cm]
  refine lv_icmp_ge C.1 C.2.1 hd hq (fun hp => k1 ?_ ca H locs cells slots ls a1 a2 a3 a4 a5 a6 a7) (fun hp => k2 (fun hc => ?_) ca H locs cells slots ls a1 a2 a3 a4 a5 a6 a7)
  · exact hz.mp (by first | exact hp | exact Int32.not_lt.mp hp | exact Int32.not_le.mp hp)
  · first | exact hp (hz.mpr hc) | exact hz.mpr hc hp | exact absurd (hz.mpr hc) (by first | exact hp | exact Int32.not_lt.mpr hp | exact Int32.not_le.mpr hp | simpa using hp)
theorem zw_if_gt (C : ZC p s m args c o cc nL) {x : Int} {off : Int} {q : Nat} (hq : (pc : Int) + off = (q : Int)) (hd : decode cc pc = .ok (.ifCond .gt off, 3)) (k1 : z_cm .gt x 0 = true → ZW p l e R s m args below meth c Q B ext D sc N0 S0 nL (q) (L) (st) (h)) (k2 : ¬ z_cm .gt x 0 = true → ZW p l e R s m args below meth c Q B ext D sc N0 S0 nL (pc + 3) (L) (st) (h)) : ZW p l e R s m args below meth c Q B ext D sc N0 S0 nL (pc) (L) (zi x :: st) (h) := by
  intro ca H locs cells slots ls a1 a2 a3 a4 a5 a6 a7
  have hz : (Int32.ofInt 0 < Int32.ofInt x) ↔ z_cm .gt x 0 = true := by
    refine Iff.trans (wr_lt_iff 0 x) ?_
    simp [z_cm]
  refine lv_if_gt C.1 C.2.1 hd hq (fun hp => k1 ?_ ca H locs cells slots ls a1 a2 a3 a4 a5 a6 a7) (fun hp => k2 (fun hc => ?_) ca H locs cells slots ls a1 a2 a3 a4 a5 a6 a7)
  · exact hz.mp (by first | exact hp | exact Int32.not_lt.mp hp | exact Int32.not_le.mp hp)
  · first | exact hp (hz.mpr hc) | exact hz.mpr hc hp | exact absurd (hz.mpr hc) (by first | exact hp | exact Int32.not_lt.mpr hp | exact Int32.not_le.mpr hp | simpa using hp)
theorem zw_icmp_gt (C : ZC p s m args c o cc nL) {x y : Int} {off : Int} {q : Nat} (hq : (pc : Int) + off = (q : Int)) (hd : decode cc pc = .ok (.if_icmp .gt off, 3)) (k1 : z_cm .gt x y = true → ZW p l e R s m args below meth c Q B ext D sc N0 S0 nL (q) (L) (st) (h)) (k2 : ¬ z_cm .gt x y = true → ZW p l e R s m args below meth c Q B ext D sc N0 S0 nL (pc + 3) (L) (st) (h)) : ZW p l e R s m args below meth c Q B ext D sc N0 S0 nL (pc) (L) (zi y :: zi x :: st) (h) := by
  intro ca H locs cells slots ls a1 a2 a3 a4 a5 a6 a7
  have hz : (Int32.ofInt y < Int32.ofInt x) ↔ z_cm .gt x y = true := by
    refine Iff.trans (wr_lt_iff y x) ?_
    simp [z_cm]
  refine lv_icmp_gt C.1 C.2.1 hd hq (fun hp => k1 ?_ ca H locs cells slots ls a1 a2 a3 a4 a5 a6 a7) (fun hp => k2 (fun hc => ?_) ca H locs cells slots ls a1 a2 a3 a4 a5 a6 a7)
  · exact hz.mp (by first | exact hp | exact Int32.not_lt.mp hp | exact Int32.not_le.mp hp)
  · first | exact hp (hz.mpr hc) | exact hz.mpr hc hp | exact absurd (hz.mpr hc) (by first | exact hp | exact Int32.not_lt.mpr hp | exact Int32.not_le.mpr hp | simpa using hp)
theorem zw_if_le (C : ZC p s m args c o cc nL) {x : Int} {off : Int} {q : Nat} (hq : (pc : Int) + off = (q : Int)) (hd : decode cc pc = .ok (.ifCond .le off, 3)) (k1 : z_cm .le x 0 = true → ZW p l e R s m args below meth c Q B ext D sc N0 S0 nL (q) (L) (st) (h)) (k2 : ¬ z_cm .le x 0 = true → ZW p l e R s m args below meth c Q B ext D sc N0 S0 nL (pc + 3) (L) (st) (h)) : ZW p l e R s m args below meth c Q B ext D sc N0 S0 nL (pc) (L) (zi x :: st) (h) := by
  intro ca H locs cells slots ls a1 a2 a3 a4 a5 a6 a7
  have hz : (Int32.ofInt x ≤ Int32.ofInt 0) ↔ z_cm .le x 0 = true := by
    refine Iff.trans (wr_le_iff x 0) ?_
    simp [z_cm]
  refine lv_if_le C.1 C.2.1 hd hq (fun hp => k1 ?_ ca H locs cells slots ls a1 a2 a3 a4 a5 a6 a7) (fun hp => k2 (fun hc => ?_) ca H locs cells slots ls a1 a2 a3 a4 a5 a6 a7)
  · exact hz.mp (by first | exact hp | exact Int32.not_lt.mp hp | exact Int32.not_le.mp hp)
  · first | exact hp (hz.mpr hc) | exact hz.mpr hc hp | exact absurd (hz.mpr hc) (by first | exact hp | exact Int32.not_lt.mpr hp | exact Int32.not_le.mpr hp | simpa using hp)
theorem zw_icmp_le (C : ZC p s m args c o cc nL) {x y : Int} {off : Int} {q : Nat} (hq : (pc : Int) + off = (q : Int)) (hd : decode cc pc = .ok (.if_icmp .le off, 3)) (k1 : z_cm .le x y = true → ZW p l e R s m args below meth c Q B ext D sc N0 S0 nL (q) (L) (st) (h)) (k2 : ¬ z_cm .le x y = true → ZW p l e R s m args below meth c Q B ext D sc N0 S0 nL (pc + 3) (L) (st) (h)) : ZW p l e R s m args below meth c Q B ext D sc N0 S0 nL (pc) (L) (zi y :: zi x :: st) (h) := by
  intro ca H locs cells slots ls a1 a2 a3 a4 a5 a6 a7
  have hz : (Int32.ofInt x ≤ Int32.ofInt y) ↔ z_cm .le x y = true := by
    refine Iff.trans (wr_le_iff x y) ?_
    simp [z_cm]
  refine lv_icmp_le C.1 C.2.1 hd hq (fun hp => k1 ?_ ca H locs cells slots ls a1 a2 a3 a4 a5 a6 a7) (fun hp => k2 (fun hc => ?_) ca H locs cells slots ls a1 a2 a3 a4 a5 a6 a7)
  · exact hz.mp (by first | exact hp | exact Int32.not_lt.mp hp | exact Int32.not_le.mp hp)
  · first | exact hp (hz.mpr hc) | exact hz.mpr hc hp | exact absurd (hz.mpr hc) (by first | exact hp | exact Int32.not_lt.mpr hp | exact Int32.not_le.mpr hp | simpa using hp)
theorem zw_ifnull (C : ZC p s m args c o cc nL) {x : Option Nat} {off : Int} {q : Nat} (hq : (pc : Int) + off = (q : Int)) (hd : decode cc pc = .ok (.ifnull off, 3)) (k1 : x.isNone = true → ZW p l e R s m args below meth c Q B ext D sc N0 S0 nL (q) (L) (st) (h)) (k2 : ¬ x.isNone = true → ZW p l e R s m args below meth c Q B ext D sc N0 S0 nL (pc + 3) (L) (st) (h)) : ZW p l e R s m args below meth c Q B ext D sc N0 S0 nL (pc) (L) (zr x :: st) (h) := by
  intro ca H locs cells slots ls a1 a2 a3 a4 a5 a6 a7
  cases x with
  | none => exact lv_ifnullN C.1 C.2.1 hd hq (k1 rfl ca H locs cells slots ls a1 a2 a3 a4 a5 a6 a7)
  | some x => exact lv_ifnull C.1 C.2.1 hd (k2 (by simp) ca H locs cells slots ls a1 a2 a3 a4 a5 a6 a7)
theorem zw_ifnonnull (C : ZC p s m args c o cc nL) {x : Option Nat} {off : Int} {q : Nat} (hq : (pc : Int) + off = (q : Int)) (hd : decode cc pc = .ok (.ifnonnull off, 3)) (k1 : x.isSome = true → ZW p l e R s m args below meth c Q B ext D sc N0 S0 nL (q) (L) (st) (h)) (k2 : ¬ x.isSome = true → ZW p l e R s m args below meth c Q B ext D sc N0 S0 nL (pc + 3) (L) (st) (h)) : ZW p l e R s m args below meth c Q B ext D sc N0 S0 nL (pc) (L) (zr x :: st) (h) := by
  intro ca H locs cells slots ls a1 a2 a3 a4 a5 a6 a7
  cases x with
  | none => exact lv_ifnonnullN C.1 C.2.1 hd (k2 (by simp) ca H locs cells slots ls a1 a2 a3 a4 a5 a6 a7)
  | some x => exact lv_ifnonnull C.1 C.2.1 hd hq (k1 rfl ca H locs cells slots ls a1 a2 a3 a4 a5 a6 a7)
theorem zw_lookup (C : ZC p s m args c o cc nL) {x : Int} {d : Int} {ps : Array (Int × Int)} {ln : Nat} (hp : (ps.toList.zip (ps.toList.drop 1)).all (fun (a, next) => a.1 < next.1) = true) (h0 : 0 ≤ (pc : Int) + Op.lookupswitch.offset ps.toList d (wr x)) (hd : decode cc pc = .ok (.lookupswitch d ps, ln)) (k : ZW p l e R s m args below meth c Q B ext D sc N0 S0 nL (((pc : Int) + Op.lookupswitch.offset ps.toList d (wr x)).toNat) (L) (st) (h)) : ZW p l e R s m args below meth c Q B ext D sc N0 S0 nL (pc) (L) (zi x :: st) (h) := by
  intro ca H locs cells slots ls a1 a2 a3 a4 a5 a6 a7
  exact lv_lookup C.1 C.2.1 hd hp rfl (tgt := ((pc : Int) + Op.lookupswitch.offset ps.toList d (wr x)).toNat) (by rw [wr_toInt]; omega) (k ca H locs cells slots ls a1 a2 a3 a4 a5 a6 a7)
theorem zw_tsOut (C : ZC p s m args c o cc nL) {x : Int} {d lo hi : Int} {offs : Array Int} {ln : Nat} (hx : wr x < lo ∨ hi < wr x) (h0 : 0 ≤ (pc : Int) + d) (hd : decode cc pc = .ok (.tableswitch d lo hi offs, ln)) (k : ZW p l e R s m args below meth c Q B ext D sc N0 S0 nL (((pc : Int) + d).toNat) (L) (st) (h)) : ZW p l e R s m args below meth c Q B ext D sc N0 S0 nL (pc) (L) (zi x :: st) (h) := by
  intro ca H locs cells slots ls a1 a2 a3 a4 a5 a6 a7
  exact lv_tableOut C.1 C.2.1 hd (by rw [wr_toInt]; exact hx) (tgt := ((pc : Int) + d).toNat) (by omega) (k ca H locs cells slots ls a1 a2 a3 a4 a5 a6 a7)
theorem zw_tsIn (C : ZC p s m args c o cc nL) {x : Int} {d lo hi off : Int} {offs : Array Int} {ln : Nat} (hx : ¬ (wr x < lo ∨ hi < wr x)) (ho : offs.toList[(wr x - lo).toNat]? = some off) (h0 : 0 ≤ (pc : Int) + off) (hd : decode cc pc = .ok (.tableswitch d lo hi offs, ln)) (k : ZW p l e R s m args below meth c Q B ext D sc N0 S0 nL (((pc : Int) + off).toNat) (L) (st) (h)) : ZW p l e R s m args below meth c Q B ext D sc N0 S0 nL (pc) (L) (zi x :: st) (h) := by
  intro ca H locs cells slots ls a1 a2 a3 a4 a5 a6 a7
  exact lv_tableIn C.1 C.2.1 hd (by rw [wr_toInt]; exact fun q => hx (Or.inl q)) (by rw [wr_toInt]; exact fun q => hx (Or.inr q)) (off := off) (by rw [wr_toInt]; simpa using ho) (tgt := ((pc : Int) + off).toNat) (by omega) (k ca H locs cells slots ls a1 a2 a3 a4 a5 a6 a7)
end ZROWS
end
section
/-! The small machine's heap instructions, each held against the machine's own -/
theorem zft0 {t : FieldType} (h : zft t = 0) : t = .int := by cases t <;> first | rfl | cases h
theorem zft1 {t : FieldType} (h : zft t = 1) : t = .long := by cases t <;> first | rfl | cases h
theorem zft3 {t : FieldType} (h : zft t = 3) : t = .boolean := by cases t <;> first | rfl | cases h
theorem zft2 {t : FieldType} (h : zft t = 2) : (∃ n, t = .object n) ∨ ∃ u, t = .array u := by
  cases t <;> first | exact Or.inl ⟨_, rfl⟩ | exact Or.inr ⟨_, rfl⟩ | cases h
theorem zad_own {B : Nat} {ext : Nat → Nat} {k : Nat} (h : k < 10000000) : zad B ext k = B + k := by
  unfold zad zX
  rw [if_pos (by omega)]
theorem zcv_own {B : Nat} {ext : Nat → Nat} {k : Nat} (h : k < 10000000) : zcv B ext (zr (some k)) = .ref (B + k) := by
  show Value.ref (zad B ext k) = _
  rw [zad_own h]
theorem zce_obj {B : Nat} {ext : Nat → Nat} {ca : Nat → ClassId} {h : ZH} {k cl : Nat} (ht : (h.1.2 k).1 = cl) (hc : cl < 12) : zce B ext ca h k = .inr (cl, (List.range (znf cl)).map (fun j => zfv B ext h k cl j)) := by
  unfold zce
  rw [ht, if_pos (by omega)]
theorem zce_int {B : Nat} {ext : Nat → Nat} {ca : Nat → ClassId} {h : ZH} {k t : Nat} (ht : (h.1.2 k).1 = t) (hc : t = 100 ∨ t = 101 ∨ t = 102) : zce B ext ca h k = .inl (ca k, (h.1.2 k).2, .inl (fun j => Int32.ofInt (h.2.1 k j))) := by
  unfold zce
  rw [ht, if_neg (by omega), if_neg (by omega), if_neg (by omega)]
theorem zce_long {B : Nat} {ext : Nat → Nat} {ca : Nat → ClassId} {h : ZH} {k : Nat} (ht : (h.1.2 k).1 = 103) : zce B ext ca h k = .inl (ca k, (h.1.2 k).2, .inr (.inl (fun j => Int64.ofInt (h.2.1 k j)))) := by
  unfold zce
  rw [ht, if_neg (by omega), if_pos rfl]
theorem zce_ref {B : Nat} {ext : Nat → Nat} {ca : Nat → ClassId} {h : ZH} {k t : Nat} (ht : (h.1.2 k).1 = t) (hc : 110 ≤ t) : zce B ext ca h k = .inl (ca k, (h.1.2 k).2, .inr (.inr (.inr (.inr (fun j => (h.2.2 k j).map (zad B ext)))))) := by
  unfold zce
  rw [ht, if_neg (by omega), if_neg (by omega), if_pos hc]
theorem zcomp_ref {t : Nat} (h : 110 ≤ t) : zcomp t = .object (zRX (t - 110)) := by
  unfold zcomp
  rw [if_neg (by omega), if_neg (by omega), if_neg (by omega), if_pos h]
theorem znar_b {x : Int} (h : -128 ≤ x ∧ x ≤ 127) : vp_nar .byte (Int32.ofInt x) = Int32.ofInt x := by
  show (Int32.ofInt x).toInt8.toInt32 = Int32.ofInt x
  rw [z_i2b_of, show z_b x = x by unfold z_b; omega]
theorem znar_z {x : Int} (h : x = 0 ∨ x = 1) : vp_nar .boolean (Int32.ofInt x) = Int32.ofInt x := by
  rcases h with rfl | rfl <;> decide
section ZHEAP
variable {p : Program} {l : Launch} {e : Env} {R : Room} {s : State} {m : MethodId} {args : Array Value} {below : List Frame} {meth : Method} {c : Code} {Q : State → Prop}
variable {B : Nat} {ext : Nat → Nat} {D : va_G} {sc : Nat × (Nat → Int32)} {N0 S0 nL o pc : Nat} {cc : ByteArray} {L st : List ZV} {h : ZH}
theorem W.bound {H : Heap} {locs : List Loc} {cells slots : Nat} {g : JFrame} (k : H.size ≤ s.heap.size + cells → W p l e R s m args below meth c H locs cells slots Q g) : W p l e R s m args below meth c H locs cells slots Q g := by
  intro T hT X
  refine k ?_ T hT X
  have h1 := X.same.2.2.1
  rw [← hT]
  exact h1
theorem zlow {ca : Nat → ClassId} {H : Heap} (hP : va_P D vwCl (zws B ext ca h) H) (h0 : B ≤ H.size) : B + h.1.1.1 ≤ H.size := by
  by_cases hz : h.1.1.1 = 0
  · omega
  · have := (hP (h.1.1.1 - 1) _ (zws_at (by omega))).lt
    have h1 : B + (h.1.1.1 - 1) < H.size := this
    omega
theorem zw_get (C : ZC p s m args c o cc nL) {n k a cl : Nat} (hk : k < h.1.1.1) (ht : (h.1.2 k).1 = cl) (hc : cl < 12) (ha : a < znf cl) (hl : Cond.fieldLink (zRN o) n (zRX cl) (zTX cl a).2.1 (zTX cl a).2.2.1 ∈ tables_1) {w : ZV} (hw : zfv B ext h k cl a = zcv B ext w) (hd : decode cc pc = .ok (.getfield n, 3)) (kk : ZW p l e R s m args below meth c Q B ext D sc N0 S0 nL (pc + 3) (L) (w :: st) (h)) : ZW p l e R s m args below meth c Q B ext D sc N0 S0 nL (pc) (L) (zr (some k) :: st) (h) := by
  intro ca H locs cells slots ls a1 a2 a3 a4 a5 a6 a7
  have K := kk ca H locs cells slots ls a1 a2 a3 a4 a5 a6 a7
  have hkk : k < 10000000 := by have := a1.1; omega
  rw [List.map_cons, zcv_own hkk]
  have he : (zws B ext ca h)[k]? = some (B + k, .inr (cl, (List.range (znf cl)).map (fun j => zfv B ext h k cl j))) := by rw [zws_at hk, zce_obj ht hc]
  refine va_get C.1 C.2.1 (own := zRN o) (ref := zRX cl) (C := zRX cl) (T := zTX cl) (N := znf cl) (ci := cl) (Ts := zTB) C.2.2.2.2 (zlay_in hc) C.2.2.2.1 a2.1 a1.2.1 k he (zcl_at hc) a ha (C.2.2.2.2 _ (zTB_in hl rfl)) (by rw [zcls_ok hc a ha]; exact fun x hx => hx) (v := zcv B ext w) ?_ hd K
  rw [← hw]
  simp [ha]
theorem zws_upd {ca : Nat → ClassId} {h h' : ZH} {k : Nat} (e0 : h'.1 = h.1) (eo : ∀ j, j ≠ k → h'.2.1 j = h.2.1 j ∧ h'.2.2 j = h.2.2 j) : (zws B ext ca h).set k (B + k, zce B ext ca h' k) = zws B ext ca h' :=
  zws_set (by rw [e0]) (fun j hj => zce_off (by rw [e0]) (eo j hj).1 (eo j hj).2 rfl)
theorem zsc_upd {h h' : ZH} {k : Nat} (hk : k < 10000000) (e0 : h'.1 = h.1) (eo : ∀ j, j ≠ k → h'.2.1 j = h.2.1 j ∧ h'.2.2 j = h.2.2 j) (hs : ZSc sc h) : ZSc sc h' := by
  refine ⟨by rw [e0]; exact hs.1, fun j => ?_⟩
  rw [(eo (zX + 6) (by unfold zX; omega)).1]
  exact hs.2 j
theorem zw_put (C : ZC p s m args c o cc nL) {n k a cl : Nat} (hk : k < h.1.1.1) (ht : (h.1.2 k).1 = cl) (hc : cl < 12) (ha : a < znf cl) (hl : Cond.fieldLink (zRN o) n (zRX cl) (zTX cl a).2.1 (zTX cl a).2.2.1 ∈ tables_1) (hfin : (zTX cl a).2.2.2 = false ∨ (meth.name = "<init>" ∧ zRX cl = zRN o)) {w : ZV} {h' : ZH} (e0 : h'.1 = h.1) (eo : ∀ j, j ≠ k → h'.2.1 j = h.2.1 j ∧ h'.2.2 j = h.2.2 j) (ek : ∀ j, zfv B ext h' k cl j = if j = a then zcv B ext w else zfv B ext h k cl j) (hn : narrow (ztX cl a) (zcv B ext w) = zcv B ext w) (hfit : fits (ztX cl a) (zcv B ext w) = true) (hd : decode cc pc = .ok (.putfield n, 3)) (kk : ZW p l e R s m args below meth c Q B ext D sc N0 S0 nL (pc + 3) (L) (st) (h')) : ZW p l e R s m args below meth c Q B ext D sc N0 S0 nL (pc) (L) (w :: zr (some k) :: st) (h) := by
  intro ca H locs cells slots ls a1 a2 a3 a4 a5 a6 a7
  have hkk : k < 10000000 := by have := a1.1; omega
  rw [List.map_cons, List.map_cons, zcv_own hkk]
  have he : (zws B ext ca h)[k]? = some (B + k, .inr (cl, (List.range (znf cl)).map (fun j => zfv B ext h k cl j))) := by rw [zws_at hk, zce_obj ht hc]
  have hset : ((List.range (znf cl)).map (fun j => zfv B ext h k cl j)).set a (zcv B ext w) = (List.range (znf cl)).map (fun j => zfv B ext h' k cl j) := by
    apply List.ext_getElem?
    intro j
    by_cases hj : j < znf cl
    · rw [List.getElem?_set]
      by_cases hja : a = j
      · subst hja
        simp [hj, ek]
      · rw [if_neg hja]
        simp only [List.getElem?_map, List.getElem?_range hj, Option.map_some]
        rw [ek j, if_neg (fun q => hja q.symm)]
    · rw [List.getElem?_eq_none (by simp; omega), List.getElem?_eq_none (by simp; omega)]
  have hlen : a < ((List.range (znf cl)).map (fun j => zfv B ext h k cl j)).length := by simpa using ha
  have hnew : (zws B ext ca h).set k (B + k, .inr (cl, ((List.range (znf cl)).map (fun j => zfv B ext h k cl j)).set a (zcv B ext w))) = zws B ext ca h' := by
    rw [hset, ← zws_upd e0 eo, zce_obj (h := h') (by rw [e0]; exact ht) hc]
  have hsame : ∀ x, s.fieldFound? (zTX cl a).1 (zTX cl a).2.1 (zTX cl a).2.2.1 = some x → s.fieldFound? (zRX cl) (zTX cl a).2.1 (zTX cl a).2.2.1 = some x := by rw [zcls_ok hc a ha]; exact fun x hx => hx
  have KK : ∀ (H1 : Heap) (locs1 : List Loc), va_P D vwCl ((zws B ext ca h).set k (B + k, .inr (cl, ((List.range (znf cl)).map (fun j => zfv B ext h k cl j)).set a (zcv B ext w)))) H1 → va_D (zAr B) ((zws B ext ca h).set k (B + k, .inr (cl, ((List.range (znf cl)).map (fun j => zfv B ext h k cl j)).set a (zcv B ext w)))) → va_S (zAr B) s.heap H1 locs1 → W p l e R s m args below meth c H1 locs1 cells slots Q (F0 m (pc + 3) ls (st.map (zcv B ext))) := by
    intro H1 locs1 b1 b2 b4
    rw [hnew] at b1
    exact kk ca H1 locs1 cells slots ls ⟨by rw [e0]; exact a1.1, b1, zsc_upd hkk e0 eo a1.2.2⟩ (by rw [e0]; exact a2) b4 (by rw [e0]; exact a4) (by rw [e0]; exact a5) a6 a7
  by_cases hf : (zTX cl a).2.2.2 = true
  · rcases hfin with h0 | ⟨h1, h2⟩
    · rw [hf] at h0; cases h0
    · exact va_putF C.1 C.2.1 (own := zRN o) (ref := zRX cl) (C := zRX cl) (T := zTX cl) (N := znf cl) (ci := cl) (Ts := zTB) C.2.2.2.2 (zlay_in hc) (ztX cl) (zty_ok hc) (znm_ok hc) C.2.2.2.1 a2.1 a1.2.1 zws_D a3 k he (zcl_at hc) a ha (C.2.2.2.2 _ (zTB_in hl rfl)) hsame hf h1 (by rw [zcls_ok hc a ha]; exact h2) (zty_ok hc a ha) hn hfit hlen hd KK
  · exact va_put C.1 C.2.1 (own := zRN o) (ref := zRX cl) (C := zRX cl) (T := zTX cl) (N := znf cl) (ci := cl) (Ts := zTB) C.2.2.2.2 (zlay_in hc) (ztX cl) (zty_ok hc) (znm_ok hc) C.2.2.2.1 a2.1 a1.2.1 zws_D a3 k he (zcl_at hc) a ha (C.2.2.2.2 _ (zTB_in hl rfl)) hsame (by simpa using hf) (zty_ok hc a ha) hn hfit hlen hd KK
theorem up2_row {α : Type} (f : Nat → Nat → α) {a i j : Nat} (v : α) (h : j ≠ a) : up2 f a i v j = f j := by
  funext b
  exact up2_ne f v (fun q => h q.1)
theorem zw_putI (C : ZC p s m args c o cc nL) {n k a cl b : Nat} {x : Int} (hk : k < h.1.1.1) (ht : (h.1.2 k).1 = cl) (hc : cl < 12) (ha : a < znf cl) (hb : zft (ztX cl a) = b) (hx : b = 0 ∨ (b = 3 ∧ (x = 0 ∨ x = 1))) (hl : Cond.fieldLink (zRN o) n (zRX cl) (zTX cl a).2.1 (zTX cl a).2.2.1 ∈ tables_1) (hfin : (zTX cl a).2.2.2 = false ∨ (meth.name = "<init>" ∧ zRX cl = zRN o)) (hd : decode cc pc = .ok (.putfield n, 3)) (kk : ZW p l e R s m args below meth c Q B ext D sc N0 S0 nL (pc + 3) (L) (st) ((h.1, up2 h.2.1 k a x, h.2.2))) : ZW p l e R s m args below meth c Q B ext D sc N0 S0 nL (pc) (L) (zi x :: zr (some k) :: st) (h) := by
  refine zw_put C hk ht hc ha hl hfin (w := zi x) (h' := (h.1, up2 h.2.1 k a x, h.2.2)) rfl (fun j hj => ⟨up2_row _ _ hj, rfl⟩) (fun j => ?_) ?_ ?_ hd kk
  · by_cases hj : j = a
    · subst hj
      rw [if_pos rfl]
      unfold zfv
      rw [if_neg (by omega), if_neg (by omega)]
      show Value.int (Int32.ofInt (up2 h.2.1 k j x k j)) = _
      rw [up2_same]
    · rw [if_neg hj]
      unfold zfv
      dsimp only
      rw [up2_ne h.2.1 x (fun q => hj q.2)]
  · rcases hx with h0 | ⟨h3, h4⟩
    · rw [zft0 (hb.trans h0)]; rfl
    · rw [zft3 (hb.trans h3)]
      rcases h4 with rfl | rfl <;> decide
  · rcases hx with h0 | ⟨h3, h4⟩
    · rw [zft0 (hb.trans h0)]; rfl
    · rw [zft3 (hb.trans h3)]
      rcases h4 with rfl | rfl <;> decide
theorem zw_putL (C : ZC p s m args c o cc nL) {n k a cl : Nat} {x : Int} (hk : k < h.1.1.1) (ht : (h.1.2 k).1 = cl) (hc : cl < 12) (ha : a < znf cl) (hb : zft (ztX cl a) = 1) (hl : Cond.fieldLink (zRN o) n (zRX cl) (zTX cl a).2.1 (zTX cl a).2.2.1 ∈ tables_1) (hfin : (zTX cl a).2.2.2 = false ∨ (meth.name = "<init>" ∧ zRX cl = zRN o)) (hd : decode cc pc = .ok (.putfield n, 3)) (kk : ZW p l e R s m args below meth c Q B ext D sc N0 S0 nL (pc + 3) (L) (st) ((h.1, up2 h.2.1 k a x, h.2.2))) : ZW p l e R s m args below meth c Q B ext D sc N0 S0 nL (pc) (L) (zl x :: zr (some k) :: st) (h) := by
  refine zw_put C hk ht hc ha hl hfin (w := zl x) (h' := (h.1, up2 h.2.1 k a x, h.2.2)) rfl (fun j hj => ⟨up2_row _ _ hj, rfl⟩) (fun j => ?_) ?_ ?_ hd kk
  · by_cases hj : j = a
    · subst hj
      rw [if_pos rfl]
      unfold zfv
      rw [if_pos hb]
      show Value.long (Int64.ofInt (up2 h.2.1 k j x k j)) = _
      rw [up2_same]
    · rw [if_neg hj]
      unfold zfv
      dsimp only
      rw [up2_ne h.2.1 x (fun q => hj q.2)]
  · rw [zft1 hb]; rfl
  · rw [zft1 hb]; rfl
theorem zw_putR (C : ZC p s m args c o cc nL) {n k a cl : Nat} {x : Option Nat} (hk : k < h.1.1.1) (ht : (h.1.2 k).1 = cl) (hc : cl < 12) (ha : a < znf cl) (hb : zft (ztX cl a) = 2) (hl : Cond.fieldLink (zRN o) n (zRX cl) (zTX cl a).2.1 (zTX cl a).2.2.1 ∈ tables_1) (hfin : (zTX cl a).2.2.2 = false ∨ (meth.name = "<init>" ∧ zRX cl = zRN o)) (hd : decode cc pc = .ok (.putfield n, 3)) (kk : ZW p l e R s m args below meth c Q B ext D sc N0 S0 nL (pc + 3) (L) (st) ((h.1, h.2.1, up2 h.2.2 k a x))) : ZW p l e R s m args below meth c Q B ext D sc N0 S0 nL (pc) (L) (zr x :: zr (some k) :: st) (h) := by
  refine zw_put C hk ht hc ha hl hfin (w := zr x) (h' := (h.1, h.2.1, up2 h.2.2 k a x)) rfl (fun j hj => ⟨rfl, up2_row _ _ hj⟩) (fun j => ?_) ?_ ?_ hd kk
  · by_cases hj : j = a
    · subst hj
      rw [if_pos rfl]
      unfold zfv
      rw [if_neg (by omega), if_pos hb]
      show va_rf ((up2 h.2.2 k j x k j).map (zad B ext)) = _
      rw [up2_same]
      rfl
    · rw [if_neg hj]
      unfold zfv
      dsimp only
      rw [up2_ne h.2.2 x (fun q => hj q.2)]
  · rcases zft2 hb with ⟨t, ht2⟩ | ⟨t, ht2⟩ <;> rw [ht2] <;> rfl
  · rcases zft2 hb with ⟨t, ht2⟩ | ⟨t, ht2⟩ <;> rw [ht2] <;> cases x <;> rfl
theorem zw_iald (C : ZC p s m args c o cc nL) {k : Nat} {i : Int} (hk : k < h.1.1.1) (ht : (h.1.2 k).1 = 100) (h0 : 0 ≤ i) (h1 : i < ((h.1.2 k).2 : Int)) (h2 : (h.1.2 k).2 ≤ 2147483647) (hd : decode cc pc = .ok (.iaload, 1)) (kk : ZW p l e R s m args below meth c Q B ext D sc N0 S0 nL (pc + 1) (L) (zi (h.2.1 k i.toNat) :: st) (h)) : ZW p l e R s m args below meth c Q B ext D sc N0 S0 nL (pc) (L) (zi i :: zr (some k) :: st) (h) := by
  intro ca H locs cells slots ls a1 a2 a3 a4 a5 a6 a7
  have K := kk ca H locs cells slots ls a1 a2 a3 a4 a5 a6 a7
  have hkk : k < 10000000 := by have := a1.1; omega
  rw [List.map_cons, List.map_cons, zcv_own hkk]
  have hz := z_idx h0 h1 h2
  have hK := a2.one hk (by omega)
  rw [ht] at hK
  refine va_iald C.1 C.2.1 hK a1.2.1 k 0 (by rw [zws_at hk, zce_int ht (Or.inl rfl)]) rfl hz.1 hd ?_
  rw [hz.2]
  exact K
theorem zw_bald (C : ZC p s m args c o cc nL) {k : Nat} {i : Int} (hk : k < h.1.1.1) (ht : (h.1.2 k).1 = 101) (h0 : 0 ≤ i) (h1 : i < ((h.1.2 k).2 : Int)) (h2 : (h.1.2 k).2 ≤ 2147483647) (hd : decode cc pc = .ok (.baload, 1)) (kk : ZW p l e R s m args below meth c Q B ext D sc N0 S0 nL (pc + 1) (L) (zi (h.2.1 k i.toNat) :: st) (h)) : ZW p l e R s m args below meth c Q B ext D sc N0 S0 nL (pc) (L) (zi i :: zr (some k) :: st) (h) := by
  intro ca H locs cells slots ls a1 a2 a3 a4 a5 a6 a7
  have K := kk ca H locs cells slots ls a1 a2 a3 a4 a5 a6 a7
  have hkk : k < 10000000 := by have := a1.1; omega
  rw [List.map_cons, List.map_cons, zcv_own hkk]
  have hz := z_idx h0 h1 h2
  have hK := a2.one hk (by omega)
  rw [ht] at hK
  refine va_bald C.1 C.2.1 hK a1.2.1 k 0 (by rw [zws_at hk, zce_int ht (Or.inr (Or.inl rfl))]) rfl hz.1 hd ?_
  rw [hz.2]
  exact K
theorem zw_zald (C : ZC p s m args c o cc nL) {k : Nat} {i : Int} (hk : k < h.1.1.1) (ht : (h.1.2 k).1 = 102) (h0 : 0 ≤ i) (h1 : i < ((h.1.2 k).2 : Int)) (h2 : (h.1.2 k).2 ≤ 2147483647) (hd : decode cc pc = .ok (.baload, 1)) (kk : ZW p l e R s m args below meth c Q B ext D sc N0 S0 nL (pc + 1) (L) (zi (h.2.1 k i.toNat) :: st) (h)) : ZW p l e R s m args below meth c Q B ext D sc N0 S0 nL (pc) (L) (zi i :: zr (some k) :: st) (h) := by
  intro ca H locs cells slots ls a1 a2 a3 a4 a5 a6 a7
  have K := kk ca H locs cells slots ls a1 a2 a3 a4 a5 a6 a7
  have hkk : k < 10000000 := by have := a1.1; omega
  rw [List.map_cons, List.map_cons, zcv_own hkk]
  have hz := z_idx h0 h1 h2
  have hK := a2.one hk (by omega)
  rw [ht] at hK
  refine va_zald C.1 C.2.1 hK a1.2.1 k 0 (by rw [zws_at hk, zce_int ht (Or.inr (Or.inr rfl))]) rfl hz.1 hd ?_
  rw [hz.2]
  exact K
theorem zw_lald (C : ZC p s m args c o cc nL) {k : Nat} {i : Int} (hk : k < h.1.1.1) (ht : (h.1.2 k).1 = 103) (h0 : 0 ≤ i) (h1 : i < ((h.1.2 k).2 : Int)) (h2 : (h.1.2 k).2 ≤ 2147483647) (hd : decode cc pc = .ok (.laload, 1)) (kk : ZW p l e R s m args below meth c Q B ext D sc N0 S0 nL (pc + 1) (L) (zl (h.2.1 k i.toNat) :: st) (h)) : ZW p l e R s m args below meth c Q B ext D sc N0 S0 nL (pc) (L) (zi i :: zr (some k) :: st) (h) := by
  intro ca H locs cells slots ls a1 a2 a3 a4 a5 a6 a7
  have K := kk ca H locs cells slots ls a1 a2 a3 a4 a5 a6 a7
  have hkk : k < 10000000 := by have := a1.1; omega
  rw [List.map_cons, List.map_cons, zcv_own hkk]
  have hz := z_idx h0 h1 h2
  have hK := a2.one hk (by omega)
  rw [ht] at hK
  refine va_lald C.1 C.2.1 hK a1.2.1 k 0 (by rw [zws_at hk, zce_long ht]) rfl hz.1 hd ?_
  rw [hz.2]
  exact K
theorem zw_aald (C : ZC p s m args c o cc nL) {k t : Nat} {i : Int} (hk : k < h.1.1.1) (ht : (h.1.2 k).1 = t) (h3 : 110 ≤ t) (h0 : 0 ≤ i) (h1 : i < ((h.1.2 k).2 : Int)) (h2 : (h.1.2 k).2 ≤ 2147483647) (hd : decode cc pc = .ok (.aaload, 1)) (kk : ZW p l e R s m args below meth c Q B ext D sc N0 S0 nL (pc + 1) (L) (zr (h.2.2 k i.toNat) :: st) (h)) : ZW p l e R s m args below meth c Q B ext D sc N0 S0 nL (pc) (L) (zi i :: zr (some k) :: st) (h) := by
  intro ca H locs cells slots ls a1 a2 a3 a4 a5 a6 a7
  have K := kk ca H locs cells slots ls a1 a2 a3 a4 a5 a6 a7
  have hkk : k < 10000000 := by have := a1.1; omega
  rw [List.map_cons, List.map_cons, zcv_own hkk]
  have hz := z_idx h0 h1 h2
  have hK := a2.one hk (by omega)
  rw [ht, zcomp_ref h3] at hK
  refine va_aldq C.1 C.2.1 hK a1.2.1 k 0 (by rw [zws_at hk, zce_ref ht h3]) rfl hz.1 hd ?_
  rw [hz.2]
  exact K
theorem zw_sld (C : ZC p s m args c o cc nL) {i : Int} (hX : va_X (ext 6) sc.1 sc.2 s s.heap) (hbl : ext 6 < s.heap.size) (hbB : ext 6 < B) (ht : (h.1.2 (zX + 6)).1 = 100) (h0 : 0 ≤ i) (h1 : i < ((h.1.2 (zX + 6)).2 : Int)) (h2 : (h.1.2 (zX + 6)).2 ≤ 2147483647) (hd : decode cc pc = .ok (.iaload, 1)) (kk : ZW p l e R s m args below meth c Q B ext D sc N0 S0 nL (pc + 1) (L) (zi (h.2.1 (zX + 6) i.toNat) :: st) (h)) : ZW p l e R s m args below meth c Q B ext D sc N0 S0 nL (pc) (L) (zi i :: zr (some (zX + 6)) :: st) (h) := by
  intro ca H locs cells slots ls a1 a2 a3 a4 a5 a6 a7
  have K := kk ca H locs cells slots ls a1 a2 a3 a4 a5 a6 a7
  have e : zcv B ext (zr (some (zX + 6))) = .ref (ext 6) := by
    show Value.ref (zad B ext (zX + 6)) = _
    unfold zad; rw [if_neg (by omega), Nat.add_sub_cancel_left]
  rw [List.map_cons, List.map_cons, e]
  have hz := z_idx h0 h1 h2
  have hs := a1.2.2
  have e2 : (h.1.2 (zX + 6)).2 = sc.1 := by rw [hs.1]
  rw [e2] at hz
  refine va_sld C.1 C.2.1 hX hbl (A := zAr B) (by show ¬ B ≤ ext 6; omega) a3 hz.1 hd ?_
  rw [hz.2, ← hs.2]
  exact K
theorem zw_slen (C : ZC p s m args c o cc nL) (hX : va_X (ext 6) sc.1 sc.2 s s.heap) (hbl : ext 6 < s.heap.size) (hbB : ext 6 < B) (hd : decode cc pc = .ok (.arraylength, 1)) (kk : ZW p l e R s m args below meth c Q B ext D sc N0 S0 nL (pc + 1) (L) (zi ((h.1.2 (zX + 6)).2 : Int) :: st) (h)) : ZW p l e R s m args below meth c Q B ext D sc N0 S0 nL (pc) (L) (zr (some (zX + 6)) :: st) (h) := by
  intro ca H locs cells slots ls a1 a2 a3 a4 a5 a6 a7
  have K := kk ca H locs cells slots ls a1 a2 a3 a4 a5 a6 a7
  have e : zcv B ext (zr (some (zX + 6))) = .ref (ext 6) := by
    show Value.ref (zad B ext (zX + 6)) = _
    unfold zad; rw [if_neg (by omega), Nat.add_sub_cancel_left]
  rw [List.map_cons, e]
  have hs := a1.2.2
  have e2 : (h.1.2 (zX + 6)).2 = sc.1 := by rw [hs.1]
  refine va_slen C.1 C.2.1 hX hbl (A := zAr B) (by show ¬ B ≤ ext 6; omega) a3 hd ?_
  rw [← e2, ← Int32.ofInt_eq_ofNat]
  exact K
theorem zw_alen (C : ZC p s m args c o cc nL) {k : Nat} (hk : k < h.1.1.1) (ht : 100 ≤ (h.1.2 k).1) (hd : decode cc pc = .ok (.arraylength, 1)) (kk : ZW p l e R s m args below meth c Q B ext D sc N0 S0 nL (pc + 1) (L) (zi ((h.1.2 k).2 : Int) :: st) (h)) : ZW p l e R s m args below meth c Q B ext D sc N0 S0 nL (pc) (L) (zr (some k) :: st) (h) := by
  intro ca H locs cells slots ls a1 a2 a3 a4 a5 a6 a7
  have K := kk ca H locs cells slots ls a1 a2 a3 a4 a5 a6 a7
  have hkk : k < 10000000 := by have := a1.1; omega
  rw [List.map_cons, zcv_own hkk]
  have hx : ∃ x : vp_A, zce B ext ca h k = .inl (ca k, x) ∧ x.1 = (h.1.2 k).2 := by
    unfold zce
    rw [if_neg (by omega)]
    split
    · exact ⟨_, rfl, rfl⟩
    · split
      · exact ⟨_, rfl, rfl⟩
      · exact ⟨_, rfl, rfl⟩
  obtain ⟨x, hx1, hx2⟩ := hx
  refine va_alen C.1 C.2.1 (a2.one hk ht) a1.2.1 k 0 (x := x) (by rw [zws_at hk, hx1]) rfl rfl hd ?_
  rw [hx2, ← Int32.ofInt_eq_ofNat]
  exact K
theorem zw_iast (C : ZC p s m args c o cc nL) {k : Nat} {i x : Int} (hk : k < h.1.1.1) (ht : (h.1.2 k).1 = 100) (h0 : 0 ≤ i) (h1 : i < ((h.1.2 k).2 : Int)) (h2 : (h.1.2 k).2 ≤ 2147483647) (hd : decode cc pc = .ok (.iastore, 1)) (kk : ZW p l e R s m args below meth c Q B ext D sc N0 S0 nL (pc + 1) (L) (st) ((h.1, up2 h.2.1 k i.toNat x, h.2.2))) : ZW p l e R s m args below meth c Q B ext D sc N0 S0 nL (pc) (L) (zi x :: zi i :: zr (some k) :: st) (h) := by
  intro ca H locs cells slots ls a1 a2 a3 a4 a5 a6 a7
  have hkk : k < 10000000 := by have := a1.1; omega
  rw [List.map_cons, List.map_cons, List.map_cons, zcv_own hkk]
  have hz := z_idx h0 h1 h2
  have hK := a2.one hk (by omega)
  rw [ht] at hK
  have eo : ∀ j, j ≠ k → (h.1, up2 h.2.1 k i.toNat x, h.2.2).2.1 j = h.2.1 j ∧ (h.1, up2 h.2.1 k i.toNat x, h.2.2).2.2 j = h.2.2 j := fun j hj => ⟨up2_row _ _ hj, rfl⟩
  have hnew : (zws B ext ca h).set k (B + k, .inl (ca k, (h.1.2 k).2, .inl (upd (fun j => Int32.ofInt (h.2.1 k j)) i.toNat (Int32.ofInt x)))) = zws B ext ca (h.1, up2 h.2.1 k i.toNat x, h.2.2) := by
    rw [← zws_upd (h := h) (h' := (h.1, up2 h.2.1 k i.toNat x, h.2.2)) (k := k) rfl eo, zce_int (h := (h.1, up2 h.2.1 k i.toNat x, h.2.2)) ht (Or.inl rfl)]
    have ef : (upd (fun j => Int32.ofInt (h.2.1 k j)) i.toNat (Int32.ofInt x)) = fun j => Int32.ofInt ((h.1, up2 h.2.1 k i.toNat x, h.2.2).2.1 k j) := by
      funext j
      unfold upd
      by_cases hj : j = i.toNat
      · rw [if_pos hj, hj]
        show _ = Int32.ofInt (up2 h.2.1 k i.toNat x k i.toNat)
        rw [up2_same]
      · rw [if_neg hj]
        show _ = Int32.ofInt (up2 h.2.1 k i.toNat x k j)
        rw [up2_ne h.2.1 x (fun q => hj q.2)]
    rw [ef]
  refine va_iast C.1 C.2.1 hK a1.2.1 zws_D a3 k 0 (by rw [zws_at hk, zce_int ht (Or.inl rfl)]) rfl hz.1 hd (fun H1 locs1 b1 b2 b3 => ?_)
  rw [hz.2] at b1
  rw [hnew] at b1
  exact kk ca H1 locs1 cells slots ls ⟨a1.1, b1, zsc_upd hkk rfl eo a1.2.2⟩ a2 b3 a4 a5 a6 a7
theorem zw_bast (C : ZC p s m args c o cc nL) {k : Nat} {i x : Int} (hk : k < h.1.1.1) (ht : (h.1.2 k).1 = 101) (h0 : 0 ≤ i) (h1 : i < ((h.1.2 k).2 : Int)) (h2 : (h.1.2 k).2 ≤ 2147483647) (hx : -128 ≤ x ∧ x ≤ 127) (hd : decode cc pc = .ok (.bastore, 1)) (kk : ZW p l e R s m args below meth c Q B ext D sc N0 S0 nL (pc + 1) (L) (st) ((h.1, up2 h.2.1 k i.toNat x, h.2.2))) : ZW p l e R s m args below meth c Q B ext D sc N0 S0 nL (pc) (L) (zi x :: zi i :: zr (some k) :: st) (h) := by
  intro ca H locs cells slots ls a1 a2 a3 a4 a5 a6 a7
  have hkk : k < 10000000 := by have := a1.1; omega
  rw [List.map_cons, List.map_cons, List.map_cons, zcv_own hkk]
  have hz := z_idx h0 h1 h2
  have hK := a2.one hk (by omega)
  rw [ht] at hK
  have eo : ∀ j, j ≠ k → (h.1, up2 h.2.1 k i.toNat x, h.2.2).2.1 j = h.2.1 j ∧ (h.1, up2 h.2.1 k i.toNat x, h.2.2).2.2 j = h.2.2 j := fun j hj => ⟨up2_row _ _ hj, rfl⟩
  have hnew : (zws B ext ca h).set k (B + k, .inl (ca k, (h.1.2 k).2, .inl (upd (fun j => Int32.ofInt (h.2.1 k j)) i.toNat (Int32.ofInt x)))) = zws B ext ca (h.1, up2 h.2.1 k i.toNat x, h.2.2) := by
    rw [← zws_upd (h := h) (h' := (h.1, up2 h.2.1 k i.toNat x, h.2.2)) (k := k) rfl eo, zce_int (h := (h.1, up2 h.2.1 k i.toNat x, h.2.2)) ht (Or.inr (Or.inl rfl))]
    have ef : (upd (fun j => Int32.ofInt (h.2.1 k j)) i.toNat (Int32.ofInt x)) = fun j => Int32.ofInt ((h.1, up2 h.2.1 k i.toNat x, h.2.2).2.1 k j) := by
      funext j
      unfold upd
      by_cases hj : j = i.toNat
      · rw [if_pos hj, hj]
        show _ = Int32.ofInt (up2 h.2.1 k i.toNat x k i.toNat)
        rw [up2_same]
      · rw [if_neg hj]
        show _ = Int32.ofInt (up2 h.2.1 k i.toNat x k j)
        rw [up2_ne h.2.1 x (fun q => hj q.2)]
    rw [ef]
  refine va_bast C.1 C.2.1 hK a1.2.1 zws_D a3 k 0 (by rw [zws_at hk, zce_int ht (Or.inr (Or.inl rfl))]) rfl hz.1 hd (fun H1 locs1 b1 b2 b3 => ?_)
  rw [hz.2, znar_b hx] at b1
  rw [hnew] at b1
  exact kk ca H1 locs1 cells slots ls ⟨a1.1, b1, zsc_upd hkk rfl eo a1.2.2⟩ a2 b3 a4 a5 a6 a7
theorem zw_zast (C : ZC p s m args c o cc nL) {k : Nat} {i x : Int} (hk : k < h.1.1.1) (ht : (h.1.2 k).1 = 102) (h0 : 0 ≤ i) (h1 : i < ((h.1.2 k).2 : Int)) (h2 : (h.1.2 k).2 ≤ 2147483647) (hx : x = 0 ∨ x = 1) (hd : decode cc pc = .ok (.bastore, 1)) (kk : ZW p l e R s m args below meth c Q B ext D sc N0 S0 nL (pc + 1) (L) (st) ((h.1, up2 h.2.1 k i.toNat x, h.2.2))) : ZW p l e R s m args below meth c Q B ext D sc N0 S0 nL (pc) (L) (zi x :: zi i :: zr (some k) :: st) (h) := by
  intro ca H locs cells slots ls a1 a2 a3 a4 a5 a6 a7
  have hkk : k < 10000000 := by have := a1.1; omega
  rw [List.map_cons, List.map_cons, List.map_cons, zcv_own hkk]
  have hz := z_idx h0 h1 h2
  have hK := a2.one hk (by omega)
  rw [ht] at hK
  have eo : ∀ j, j ≠ k → (h.1, up2 h.2.1 k i.toNat x, h.2.2).2.1 j = h.2.1 j ∧ (h.1, up2 h.2.1 k i.toNat x, h.2.2).2.2 j = h.2.2 j := fun j hj => ⟨up2_row _ _ hj, rfl⟩
  have hnew : (zws B ext ca h).set k (B + k, .inl (ca k, (h.1.2 k).2, .inl (upd (fun j => Int32.ofInt (h.2.1 k j)) i.toNat (Int32.ofInt x)))) = zws B ext ca (h.1, up2 h.2.1 k i.toNat x, h.2.2) := by
    rw [← zws_upd (h := h) (h' := (h.1, up2 h.2.1 k i.toNat x, h.2.2)) (k := k) rfl eo, zce_int (h := (h.1, up2 h.2.1 k i.toNat x, h.2.2)) ht (Or.inr (Or.inr rfl))]
    have ef : (upd (fun j => Int32.ofInt (h.2.1 k j)) i.toNat (Int32.ofInt x)) = fun j => Int32.ofInt ((h.1, up2 h.2.1 k i.toNat x, h.2.2).2.1 k j) := by
      funext j
      unfold upd
      by_cases hj : j = i.toNat
      · rw [if_pos hj, hj]
        show _ = Int32.ofInt (up2 h.2.1 k i.toNat x k i.toNat)
        rw [up2_same]
      · rw [if_neg hj]
        show _ = Int32.ofInt (up2 h.2.1 k i.toNat x k j)
        rw [up2_ne h.2.1 x (fun q => hj q.2)]
    rw [ef]
  refine va_zast C.1 C.2.1 hK a1.2.1 zws_D a3 k 0 (by rw [zws_at hk, zce_int ht (Or.inr (Or.inr rfl))]) rfl hz.1 hd (fun H1 locs1 b1 b2 b3 => ?_)
  rw [hz.2, znar_z hx] at b1
  rw [hnew] at b1
  exact kk ca H1 locs1 cells slots ls ⟨a1.1, b1, zsc_upd hkk rfl eo a1.2.2⟩ a2 b3 a4 a5 a6 a7
theorem zw_last (C : ZC p s m args c o cc nL) {k : Nat} {i x : Int} (hk : k < h.1.1.1) (ht : (h.1.2 k).1 = 103) (h0 : 0 ≤ i) (h1 : i < ((h.1.2 k).2 : Int)) (h2 : (h.1.2 k).2 ≤ 2147483647) (hd : decode cc pc = .ok (.lastore, 1)) (kk : ZW p l e R s m args below meth c Q B ext D sc N0 S0 nL (pc + 1) (L) (st) ((h.1, up2 h.2.1 k i.toNat x, h.2.2))) : ZW p l e R s m args below meth c Q B ext D sc N0 S0 nL (pc) (L) (zl x :: zi i :: zr (some k) :: st) (h) := by
  intro ca H locs cells slots ls a1 a2 a3 a4 a5 a6 a7
  have hkk : k < 10000000 := by have := a1.1; omega
  rw [List.map_cons, List.map_cons, List.map_cons, zcv_own hkk]
  have hz := z_idx h0 h1 h2
  have hK := a2.one hk (by omega)
  rw [ht] at hK
  have eo : ∀ j, j ≠ k → (h.1, up2 h.2.1 k i.toNat x, h.2.2).2.1 j = h.2.1 j ∧ (h.1, up2 h.2.1 k i.toNat x, h.2.2).2.2 j = h.2.2 j := fun j hj => ⟨up2_row _ _ hj, rfl⟩
  have hnew : (zws B ext ca h).set k (B + k, .inl (ca k, (h.1.2 k).2, .inr (.inl (vp_updL (fun j => Int64.ofInt (h.2.1 k j)) i.toNat (Int64.ofInt x))))) = zws B ext ca (h.1, up2 h.2.1 k i.toNat x, h.2.2) := by
    rw [← zws_upd (h := h) (h' := (h.1, up2 h.2.1 k i.toNat x, h.2.2)) (k := k) rfl eo, zce_long (h := (h.1, up2 h.2.1 k i.toNat x, h.2.2)) ht]
    have ef : (vp_updL (fun j => Int64.ofInt (h.2.1 k j)) i.toNat (Int64.ofInt x)) = fun j => Int64.ofInt ((h.1, up2 h.2.1 k i.toNat x, h.2.2).2.1 k j) := by
      funext j
      unfold vp_updL
      by_cases hj : j = i.toNat
      · rw [if_pos hj, hj]
        show _ = Int64.ofInt (up2 h.2.1 k i.toNat x k i.toNat)
        rw [up2_same]
      · rw [if_neg hj]
        show _ = Int64.ofInt (up2 h.2.1 k i.toNat x k j)
        rw [up2_ne h.2.1 x (fun q => hj q.2)]
    rw [ef]
  refine va_last C.1 C.2.1 hK a1.2.1 zws_D a3 k 0 (by rw [zws_at hk, zce_long ht]) rfl hz.1 hd (fun H1 locs1 b1 b2 b3 => ?_)
  rw [hz.2] at b1
  rw [hnew] at b1
  exact kk ca H1 locs1 cells slots ls ⟨a1.1, b1, zsc_upd hkk rfl eo a1.2.2⟩ a2 b3 a4 a5 a6 a7
theorem zw_aast (C : ZC p s m args c o cc nL) {k t y : Nat} {i : Int} (hk : k < h.1.1.1) (ht : (h.1.2 k).1 = t) (h3 : 110 ≤ t) (h4 : t < 122) (hy : y < h.1.1.1) (hyt : (h.1.2 y).1 + 110 = t) (h0 : 0 ≤ i) (h1 : i < ((h.1.2 k).2 : Int)) (h2 : (h.1.2 k).2 ≤ 2147483647) (hd : decode cc pc = .ok (.aastore, 1)) (kk : ZW p l e R s m args below meth c Q B ext D sc N0 S0 nL (pc + 1) (L) (st) ((h.1, h.2.1, up2 h.2.2 k i.toNat (some y)))) : ZW p l e R s m args below meth c Q B ext D sc N0 S0 nL (pc) (L) (zr (some y) :: zi i :: zr (some k) :: st) (h) := by
  intro ca H locs cells slots ls a1 a2 a3 a4 a5 a6 a7
  have hkk : k < 10000000 := by have := a1.1; omega
  have hyy : y < 10000000 := by have := a1.1; omega
  rw [List.map_cons, List.map_cons, List.map_cons, zcv_own hkk, zcv_own hyy]
  have hz := z_idx h0 h1 h2
  have hK := a2.one hk (by omega)
  rw [ht, zcomp_ref h3] at hK
  have eo : ∀ j, j ≠ k → (h.1, h.2.1, up2 h.2.2 k i.toNat (some y)).2.1 j = h.2.1 j ∧ (h.1, h.2.1, up2 h.2.2 k i.toNat (some y)).2.2 j = h.2.2 j := fun j hj => ⟨rfl, up2_row _ _ hj⟩
  have hnew : (zws B ext ca h).set k (B + k, .inl (ca k, (h.1.2 k).2, .inr (.inr (.inr (.inr (va_up (fun j => (h.2.2 k j).map (zad B ext)) i.toNat (some (B + y)))))))) = zws B ext ca (h.1, h.2.1, up2 h.2.2 k i.toNat (some y)) := by
    rw [← zws_upd (h := h) (h' := (h.1, h.2.1, up2 h.2.2 k i.toNat (some y))) (k := k) rfl eo, zce_ref (h := (h.1, h.2.1, up2 h.2.2 k i.toNat (some y))) ht h3]
    have ef : va_up (fun j => (h.2.2 k j).map (zad B ext)) i.toNat (some (B + y)) = fun j => ((h.1, h.2.1, up2 h.2.2 k i.toNat (some y)).2.2 k j).map (zad B ext) := by
      funext j
      unfold va_up
      by_cases hj : j = i.toNat
      · rw [if_pos hj, hj]
        show _ = (up2 h.2.2 k i.toNat (some y) k i.toNat).map (zad B ext)
        rw [up2_same]
        show _ = some (zad B ext y)
        rw [zad_own hyy]
      · rw [if_neg hj]
        show _ = (up2 h.2.2 k i.toNat (some y) k j).map (zad B ext)
        rw [up2_ne h.2.2 (some y) (fun q => hj q.2)]
    rw [ef]
  refine va_astq C.1 C.2.1 hK a1.2.1 zws_D a3 k 0 y (t - 110) (r := (zRX (t - 110), zTX (t - 110), znf (t - 110))) (by rw [zws_at hk, zce_ref ht h3]) rfl (by rw [zws_at hy, zce_obj (cl := t - 110) (by omega) (by omega)]) (zcl_at (by omega)) hz.1 hd (fun H1 locs1 b1 b2 b3 => ?_)
  rw [hz.2] at b1
  rw [hnew] at b1
  exact kk ca H1 locs1 cells slots ls ⟨a1.1, b1, zsc_upd hkk rfl eo a1.2.2⟩ a2 b3 a4 a5 a6 a7
end ZHEAP
end
