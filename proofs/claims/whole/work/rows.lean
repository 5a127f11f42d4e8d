section
-- ===== PART A: goes FIRST, ahead of the names: the tables' words, and 'selects' of the private methods out of them =====
/-- a private method of a class that the tables say can be made, by its rows of tables_1 -/
def lw_okq (q : MethodName × Nat) : Prop := (q.1.cls ≠ "java/lang/invoke/MethodHandle" ∧ q.1.cls ≠ "java/lang/invoke/VarHandle") ∧ Cond.instantiable q.1.cls q.2 ∈ tables_1 ∧ Cond.privateMethod q.1 ∈ tables_1 ∧ Cond.instanceMethod q.1 ∈ tables_1
theorem lw_p0 : lw_okq (⟨"LetOff", "putBytes", "(I)V"⟩, 20) := ⟨⟨by decide +kernel, by decide +kernel⟩, List.mem_of_getElem? (i := 22) (by decide +kernel), List.mem_of_getElem? (i := 334) (by decide +kernel), List.mem_of_getElem? (i := 335) (by decide +kernel)⟩
theorem lw_p1 : lw_okq (⟨"LetOff$ShowReader", "readClause", "(LLetOff$Plan;I)V"⟩, 1) := ⟨⟨by decide +kernel, by decide +kernel⟩, List.mem_of_getElem? (i := 110) (by decide +kernel), List.mem_of_getElem? (i := 413) (by decide +kernel), List.mem_of_getElem? (i := 414) (by decide +kernel)⟩
theorem lw_p2 : lw_okq (⟨"LetOff$ShowReader", "readRoad", "(LLetOff$Plan;)V"⟩, 1) := ⟨⟨by decide +kernel, by decide +kernel⟩, List.mem_of_getElem? (i := 110) (by decide +kernel), List.mem_of_getElem? (i := 484) (by decide +kernel), List.mem_of_getElem? (i := 485) (by decide +kernel)⟩
theorem lw_p3 : lw_okq (⟨"LetOff$ShowReader", "readCar", "(LLetOff$Plan;)V"⟩, 1) := ⟨⟨by decide +kernel, by decide +kernel⟩, List.mem_of_getElem? (i := 110) (by decide +kernel), List.mem_of_getElem? (i := 492) (by decide +kernel), List.mem_of_getElem? (i := 493) (by decide +kernel)⟩
theorem lw_p4 : lw_okq (⟨"LetOff$ShowReader", "readGap", "(LLetOff$Plan;)V"⟩, 1) := ⟨⟨by decide +kernel, by decide +kernel⟩, List.mem_of_getElem? (i := 110) (by decide +kernel), List.mem_of_getElem? (i := 500) (by decide +kernel), List.mem_of_getElem? (i := 501) (by decide +kernel)⟩
theorem lw_p5 : lw_okq (⟨"LetOff$RuleReader", "readGo", "(I)V"⟩, 4) := ⟨⟨by decide +kernel, by decide +kernel⟩, List.mem_of_getElem? (i := 155) (by decide +kernel), List.mem_of_getElem? (i := 525) (by decide +kernel), List.mem_of_getElem? (i := 526) (by decide +kernel)⟩
theorem lw_p6 : lw_okq (⟨"LetOff$RuleReader", "readSum", "()V"⟩, 4) := ⟨⟨by decide +kernel, by decide +kernel⟩, List.mem_of_getElem? (i := 155) (by decide +kernel), List.mem_of_getElem? (i := 533) (by decide +kernel), List.mem_of_getElem? (i := 534) (by decide +kernel)⟩
theorem lw_p7 : lw_okq (⟨"LetOff$RuleReader", "readValue", "()V"⟩, 4) := ⟨⟨by decide +kernel, by decide +kernel⟩, List.mem_of_getElem? (i := 155) (by decide +kernel), List.mem_of_getElem? (i := 537) (by decide +kernel), List.mem_of_getElem? (i := 538) (by decide +kernel)⟩
theorem lw_p8 : lw_okq (⟨"LetOff$RuleReader", "countOne", "()V"⟩, 4) := ⟨⟨by decide +kernel, by decide +kernel⟩, List.mem_of_getElem? (i := 155) (by decide +kernel), List.mem_of_getElem? (i := 543) (by decide +kernel), List.mem_of_getElem? (i := 544) (by decide +kernel)⟩
theorem lw_p9 : lw_okq (⟨"LetOff$RuleReader", "put", "(I)V"⟩, 4) := ⟨⟨by decide +kernel, by decide +kernel⟩, List.mem_of_getElem? (i := 155) (by decide +kernel), List.mem_of_getElem? (i := 548) (by decide +kernel), List.mem_of_getElem? (i := 549) (by decide +kernel)⟩
theorem lw_p10 : lw_okq (⟨"LetOff$RuleReader", "putSign", "(I)V"⟩, 4) := ⟨⟨by decide +kernel, by decide +kernel⟩, List.mem_of_getElem? (i := 155) (by decide +kernel), List.mem_of_getElem? (i := 552) (by decide +kernel), List.mem_of_getElem? (i := 553) (by decide +kernel)⟩
theorem lw_p11 : lw_okq (⟨"LetOff$RuleReader", "readTest", "(I)V"⟩, 4) := ⟨⟨by decide +kernel, by decide +kernel⟩, List.mem_of_getElem? (i := 155) (by decide +kernel), List.mem_of_getElem? (i := 558) (by decide +kernel), List.mem_of_getElem? (i := 559) (by decide +kernel)⟩
theorem lw_p12 : lw_okq (⟨"LetOff$RuleReader", "readFact", "(I)V"⟩, 4) := ⟨⟨by decide +kernel, by decide +kernel⟩, List.mem_of_getElem? (i := 155) (by decide +kernel), List.mem_of_getElem? (i := 562) (by decide +kernel), List.mem_of_getElem? (i := 563) (by decide +kernel)⟩
theorem lw_p13 : lw_okq (⟨"LetOff$RuleReader", "readNested", "(IZ)V"⟩, 4) := ⟨⟨by decide +kernel, by decide +kernel⟩, List.mem_of_getElem? (i := 155) (by decide +kernel), List.mem_of_getElem? (i := 568) (by decide +kernel), List.mem_of_getElem? (i := 569) (by decide +kernel)⟩
theorem lw_p14 : lw_okq (⟨"LetOff", "isRoad", "(I)Z"⟩, 20) := ⟨⟨by decide +kernel, by decide +kernel⟩, List.mem_of_getElem? (i := 22) (by decide +kernel), List.mem_of_getElem? (i := 611) (by decide +kernel), List.mem_of_getElem? (i := 612) (by decide +kernel)⟩
theorem lw_p15 : lw_okq (⟨"LetOff", "isCell", "(I)Z"⟩, 20) := ⟨⟨by decide +kernel, by decide +kernel⟩, List.mem_of_getElem? (i := 22) (by decide +kernel), List.mem_of_getElem? (i := 619) (by decide +kernel), List.mem_of_getElem? (i := 620) (by decide +kernel)⟩
def lw_privs_1 : List (MethodName × Nat) := [(⟨"LetOff", "putBytes", "(I)V"⟩, 20), (⟨"LetOff$ShowReader", "readClause", "(LLetOff$Plan;I)V"⟩, 1), (⟨"LetOff$ShowReader", "readRoad", "(LLetOff$Plan;)V"⟩, 1), (⟨"LetOff$ShowReader", "readCar", "(LLetOff$Plan;)V"⟩, 1), (⟨"LetOff$ShowReader", "readGap", "(LLetOff$Plan;)V"⟩, 1), (⟨"LetOff$RuleReader", "readGo", "(I)V"⟩, 4), (⟨"LetOff$RuleReader", "readSum", "()V"⟩, 4), (⟨"LetOff$RuleReader", "readValue", "()V"⟩, 4), (⟨"LetOff$RuleReader", "countOne", "()V"⟩, 4), (⟨"LetOff$RuleReader", "put", "(I)V"⟩, 4), (⟨"LetOff$RuleReader", "putSign", "(I)V"⟩, 4), (⟨"LetOff$RuleReader", "readTest", "(I)V"⟩, 4), (⟨"LetOff$RuleReader", "readFact", "(I)V"⟩, 4), (⟨"LetOff$RuleReader", "readNested", "(IZ)V"⟩, 4), (⟨"LetOff", "isRoad", "(I)Z"⟩, 20), (⟨"LetOff", "isCell", "(I)Z"⟩, 20)]
theorem lw_r1 : ∀ q ∈ lw_privs_1, lw_okq q := List.forall_mem_cons.mpr ⟨lw_p0, List.forall_mem_cons.mpr ⟨lw_p1, List.forall_mem_cons.mpr ⟨lw_p2, List.forall_mem_cons.mpr ⟨lw_p3, List.forall_mem_cons.mpr ⟨lw_p4, List.forall_mem_cons.mpr ⟨lw_p5, List.forall_mem_cons.mpr ⟨lw_p6, List.forall_mem_cons.mpr ⟨lw_p7, List.forall_mem_cons.mpr ⟨lw_p8, List.forall_mem_cons.mpr ⟨lw_p9, List.forall_mem_cons.mpr ⟨lw_p10, List.forall_mem_cons.mpr ⟨lw_p11, List.forall_mem_cons.mpr ⟨lw_p12, List.forall_mem_cons.mpr ⟨lw_p13, List.forall_mem_cons.mpr ⟨lw_p14, List.forall_mem_cons.mpr ⟨lw_p15, fun _ h => absurd h List.not_mem_nil⟩⟩⟩⟩⟩⟩⟩⟩⟩⟩⟩⟩⟩⟩⟩⟩
theorem lw_p16 : lw_okq (⟨"LetOff", "keepForUndo", "()V"⟩, 20) := ⟨⟨by decide +kernel, by decide +kernel⟩, List.mem_of_getElem? (i := 22) (by decide +kernel), List.mem_of_getElem? (i := 649) (by decide +kernel), List.mem_of_getElem? (i := 650) (by decide +kernel)⟩
theorem lw_p17 : lw_okq (⟨"LetOff", "setEngine", "(I)V"⟩, 20) := ⟨⟨by decide +kernel, by decide +kernel⟩, List.mem_of_getElem? (i := 22) (by decide +kernel), List.mem_of_getElem? (i := 654) (by decide +kernel), List.mem_of_getElem? (i := 655) (by decide +kernel)⟩
theorem lw_p18 : lw_okq (⟨"LetOff$Engine", "goesOff", "(LLetOff$Round;I)Z"⟩, 7) := ⟨⟨by decide +kernel, by decide +kernel⟩, List.mem_of_getElem? (i := 177) (by decide +kernel), List.mem_of_getElem? (i := 662) (by decide +kernel), List.mem_of_getElem? (i := 663) (by decide +kernel)⟩
theorem lw_p19 : lw_okq (⟨"LetOff$Engine", "isAtItsRoad", "(LLetOff$Round;I)Z"⟩, 7) := ⟨⟨by decide +kernel, by decide +kernel⟩, List.mem_of_getElem? (i := 177) (by decide +kernel), List.mem_of_getElem? (i := 666) (by decide +kernel), List.mem_of_getElem? (i := 667) (by decide +kernel)⟩
theorem lw_p20 : lw_okq (⟨"LetOff$Engine", "setWords", "(LLetOff$Round;I)V"⟩, 7) := ⟨⟨by decide +kernel, by decide +kernel⟩, List.mem_of_getElem? (i := 177) (by decide +kernel), List.mem_of_getElem? (i := 670) (by decide +kernel), List.mem_of_getElem? (i := 671) (by decide +kernel)⟩
theorem lw_p21 : lw_okq (⟨"LetOff$Engine", "cellsBehind", "(LLetOff$Round;I)I"⟩, 7) := ⟨⟨by decide +kernel, by decide +kernel⟩, List.mem_of_getElem? (i := 177) (by decide +kernel), List.mem_of_getElem? (i := 674) (by decide +kernel), List.mem_of_getElem? (i := 675) (by decide +kernel)⟩
theorem lw_p22 : lw_okq (⟨"LetOff$Engine", "goOnIfFree", "(LLetOff$Round;I)V"⟩, 7) := ⟨⟨by decide +kernel, by decide +kernel⟩, List.mem_of_getElem? (i := 177) (by decide +kernel), List.mem_of_getElem? (i := 698) (by decide +kernel), List.mem_of_getElem? (i := 699) (by decide +kernel)⟩
theorem lw_p23 : lw_okq (⟨"LetOff$Engine", "letCome", "(LLetOff$Round;I)V"⟩, 7) := ⟨⟨by decide +kernel, by decide +kernel⟩, List.mem_of_getElem? (i := 177) (by decide +kernel), List.mem_of_getElem? (i := 710) (by decide +kernel), List.mem_of_getElem? (i := 711) (by decide +kernel)⟩
theorem lw_p24 : lw_okq (⟨"LetOff", "isOn", "(I)Z"⟩, 20) := ⟨⟨by decide +kernel, by decide +kernel⟩, List.mem_of_getElem? (i := 22) (by decide +kernel), List.mem_of_getElem? (i := 723) (by decide +kernel), List.mem_of_getElem? (i := 724) (by decide +kernel)⟩
theorem lw_p25 : lw_okq (⟨"LetOff", "tryFromNow", "()LLetOff$Round;"⟩, 20) := ⟨⟨by decide +kernel, by decide +kernel⟩, List.mem_of_getElem? (i := 22) (by decide +kernel), List.mem_of_getElem? (i := 762) (by decide +kernel), List.mem_of_getElem? (i := 763) (by decide +kernel)⟩
theorem lw_p26 : lw_okq (⟨"LetOff", "goneIn", "(LLetOff$Round;I)I"⟩, 20) := ⟨⟨by decide +kernel, by decide +kernel⟩, List.mem_of_getElem? (i := 22) (by decide +kernel), List.mem_of_getElem? (i := 766) (by decide +kernel), List.mem_of_getElem? (i := 767) (by decide +kernel)⟩
theorem lw_p27 : lw_okq (⟨"LetOff", "stepOff", "(LLetOff$Round;II)I"⟩, 20) := ⟨⟨by decide +kernel, by decide +kernel⟩, List.mem_of_getElem? (i := 22) (by decide +kernel), List.mem_of_getElem? (i := 774) (by decide +kernel), List.mem_of_getElem? (i := 775) (by decide +kernel)⟩
theorem lw_p28 : lw_okq (⟨"LetOff", "bestDeed", "(III)I"⟩, 20) := ⟨⟨by decide +kernel, by decide +kernel⟩, List.mem_of_getElem? (i := 22) (by decide +kernel), List.mem_of_getElem? (i := 790) (by decide +kernel), List.mem_of_getElem? (i := 791) (by decide +kernel)⟩
theorem lw_p29 : lw_okq (⟨"LetOff", "doDeed", "(LLetOff$Round;II)Z"⟩, 20) := ⟨⟨by decide +kernel, by decide +kernel⟩, List.mem_of_getElem? (i := 22) (by decide +kernel), List.mem_of_getElem? (i := 794) (by decide +kernel), List.mem_of_getElem? (i := 795) (by decide +kernel)⟩
theorem lw_p30 : lw_okq (⟨"LetOff$RowSearch", "trySets", "(LLetOff$Engine;III)V"⟩, 4) := ⟨⟨by decide +kernel, by decide +kernel⟩, List.mem_of_getElem? (i := 212) (by decide +kernel), List.mem_of_getElem? (i := 816) (by decide +kernel), List.mem_of_getElem? (i := 817) (by decide +kernel)⟩
theorem lw_p31 : lw_okq (⟨"LetOff$RowSearch", "keepIfBest", "(I)V"⟩, 4) := ⟨⟨by decide +kernel, by decide +kernel⟩, List.mem_of_getElem? (i := 212) (by decide +kernel), List.mem_of_getElem? (i := 825) (by decide +kernel), List.mem_of_getElem? (i := 826) (by decide +kernel)⟩
def lw_privs_2 : List (MethodName × Nat) := [(⟨"LetOff", "keepForUndo", "()V"⟩, 20), (⟨"LetOff", "setEngine", "(I)V"⟩, 20), (⟨"LetOff$Engine", "goesOff", "(LLetOff$Round;I)Z"⟩, 7), (⟨"LetOff$Engine", "isAtItsRoad", "(LLetOff$Round;I)Z"⟩, 7), (⟨"LetOff$Engine", "setWords", "(LLetOff$Round;I)V"⟩, 7), (⟨"LetOff$Engine", "cellsBehind", "(LLetOff$Round;I)I"⟩, 7), (⟨"LetOff$Engine", "goOnIfFree", "(LLetOff$Round;I)V"⟩, 7), (⟨"LetOff$Engine", "letCome", "(LLetOff$Round;I)V"⟩, 7), (⟨"LetOff", "isOn", "(I)Z"⟩, 20), (⟨"LetOff", "tryFromNow", "()LLetOff$Round;"⟩, 20), (⟨"LetOff", "goneIn", "(LLetOff$Round;I)I"⟩, 20), (⟨"LetOff", "stepOff", "(LLetOff$Round;II)I"⟩, 20), (⟨"LetOff", "bestDeed", "(III)I"⟩, 20), (⟨"LetOff", "doDeed", "(LLetOff$Round;II)Z"⟩, 20), (⟨"LetOff$RowSearch", "trySets", "(LLetOff$Engine;III)V"⟩, 4), (⟨"LetOff$RowSearch", "keepIfBest", "(I)V"⟩, 4)]
theorem lw_r2 : ∀ q ∈ lw_privs_2, lw_okq q := List.forall_mem_cons.mpr ⟨lw_p16, List.forall_mem_cons.mpr ⟨lw_p17, List.forall_mem_cons.mpr ⟨lw_p18, List.forall_mem_cons.mpr ⟨lw_p19, List.forall_mem_cons.mpr ⟨lw_p20, List.forall_mem_cons.mpr ⟨lw_p21, List.forall_mem_cons.mpr ⟨lw_p22, List.forall_mem_cons.mpr ⟨lw_p23, List.forall_mem_cons.mpr ⟨lw_p24, List.forall_mem_cons.mpr ⟨lw_p25, List.forall_mem_cons.mpr ⟨lw_p26, List.forall_mem_cons.mpr ⟨lw_p27, List.forall_mem_cons.mpr ⟨lw_p28, List.forall_mem_cons.mpr ⟨lw_p29, List.forall_mem_cons.mpr ⟨lw_p30, List.forall_mem_cons.mpr ⟨lw_p31, fun _ h => absurd h List.not_mem_nil⟩⟩⟩⟩⟩⟩⟩⟩⟩⟩⟩⟩⟩⟩⟩⟩
theorem lw_p32 : lw_okq (⟨"LetOff", "fillTable", "(III)V"⟩, 20) := ⟨⟨by decide +kernel, by decide +kernel⟩, List.mem_of_getElem? (i := 22) (by decide +kernel), List.mem_of_getElem? (i := 840) (by decide +kernel), List.mem_of_getElem? (i := 841) (by decide +kernel)⟩
theorem lw_p33 : lw_okq (⟨"LetOff", "isRest", "(II)Z"⟩, 20) := ⟨⟨by decide +kernel, by decide +kernel⟩, List.mem_of_getElem? (i := 22) (by decide +kernel), List.mem_of_getElem? (i := 850) (by decide +kernel), List.mem_of_getElem? (i := 851) (by decide +kernel)⟩
theorem lw_p34 : lw_okq (⟨"LetOff", "lack", "(I)I"⟩, 20) := ⟨⟨by decide +kernel, by decide +kernel⟩, List.mem_of_getElem? (i := 22) (by decide +kernel), List.mem_of_getElem? (i := 866) (by decide +kernel), List.mem_of_getElem? (i := 867) (by decide +kernel)⟩
theorem lw_p35 : lw_okq (⟨"LetOff", "tryFromBegin", "(I)LLetOff$Round;"⟩, 20) := ⟨⟨by decide +kernel, by decide +kernel⟩, List.mem_of_getElem? (i := 22) (by decide +kernel), List.mem_of_getElem? (i := 882) (by decide +kernel), List.mem_of_getElem? (i := 883) (by decide +kernel)⟩
theorem lw_p36 : lw_okq (⟨"LetOff", "fitsNotes", "(LLetOff$Round;)Z"⟩, 20) := ⟨⟨by decide +kernel, by decide +kernel⟩, List.mem_of_getElem? (i := 22) (by decide +kernel), List.mem_of_getElem? (i := 886) (by decide +kernel), List.mem_of_getElem? (i := 887) (by decide +kernel)⟩
theorem lw_p37 : lw_okq (⟨"LetOff", "countCells", "(LLetOff$Round;)V"⟩, 20) := ⟨⟨by decide +kernel, by decide +kernel⟩, List.mem_of_getElem? (i := 22) (by decide +kernel), List.mem_of_getElem? (i := 910) (by decide +kernel), List.mem_of_getElem? (i := 911) (by decide +kernel)⟩
theorem lw_p38 : lw_okq (⟨"LetOff", "mostAlike", "(I)I"⟩, 20) := ⟨⟨by decide +kernel, by decide +kernel⟩, List.mem_of_getElem? (i := 22) (by decide +kernel), List.mem_of_getElem? (i := 914) (by decide +kernel), List.mem_of_getElem? (i := 915) (by decide +kernel)⟩
theorem lw_p39 : lw_okq (⟨"LetOff", "drawWaiting", "(LLetOff$Round;I)V"⟩, 20) := ⟨⟨by decide +kernel, by decide +kernel⟩, List.mem_of_getElem? (i := 22) (by decide +kernel), List.mem_of_getElem? (i := 926) (by decide +kernel), List.mem_of_getElem? (i := 927) (by decide +kernel)⟩
theorem lw_p40 : lw_okq (⟨"LetOff", "draw", "()I"⟩, 20) := ⟨⟨by decide +kernel, by decide +kernel⟩, List.mem_of_getElem? (i := 22) (by decide +kernel), List.mem_of_getElem? (i := 930) (by decide +kernel), List.mem_of_getElem? (i := 931) (by decide +kernel)⟩
theorem lw_p41 : lw_okq (⟨"LetOffModel", "four", "(I)V"⟩, 40) := ⟨⟨by decide +kernel, by decide +kernel⟩, List.mem_of_getElem? (i := 951) (by decide +kernel), List.mem_of_getElem? (i := 1083) (by decide +kernel), List.mem_of_getElem? (i := 1084) (by decide +kernel)⟩
theorem lw_p42 : lw_okq (⟨"LetOffModel", "readsAll", "()Z"⟩, 40) := ⟨⟨by decide +kernel, by decide +kernel⟩, List.mem_of_getElem? (i := 951) (by decide +kernel), List.mem_of_getElem? (i := 1095) (by decide +kernel), List.mem_of_getElem? (i := 1096) (by decide +kernel)⟩
theorem lw_p43 : lw_okq (⟨"LetOffModel", "clauseHere", "()Z"⟩, 40) := ⟨⟨by decide +kernel, by decide +kernel⟩, List.mem_of_getElem? (i := 951) (by decide +kernel), List.mem_of_getElem? (i := 1099) (by decide +kernel), List.mem_of_getElem? (i := 1100) (by decide +kernel)⟩
theorem lw_p44 : lw_okq (⟨"LetOffModel", "see", "()I"⟩, 40) := ⟨⟨by decide +kernel, by decide +kernel⟩, List.mem_of_getElem? (i := 951) (by decide +kernel), List.mem_of_getElem? (i := 1103) (by decide +kernel), List.mem_of_getElem? (i := 1104) (by decide +kernel)⟩
theorem lw_p45 : lw_okq (⟨"LetOffModel", "isShowWord", "()Z"⟩, 40) := ⟨⟨by decide +kernel, by decide +kernel⟩, List.mem_of_getElem? (i := 951) (by decide +kernel), List.mem_of_getElem? (i := 1107) (by decide +kernel), List.mem_of_getElem? (i := 1108) (by decide +kernel)⟩
theorem lw_p46 : lw_okq (⟨"LetOffModel", "isWord", "(J)Z"⟩, 40) := ⟨⟨by decide +kernel, by decide +kernel⟩, List.mem_of_getElem? (i := 951) (by decide +kernel), List.mem_of_getElem? (i := 1112) (by decide +kernel), List.mem_of_getElem? (i := 1113) (by decide +kernel)⟩
theorem lw_p47 : lw_okq (⟨"LetOffModel", "isLetter", "(I)Z"⟩, 40) := ⟨⟨by decide +kernel, by decide +kernel⟩, List.mem_of_getElem? (i := 951) (by decide +kernel), List.mem_of_getElem? (i := 1116) (by decide +kernel), List.mem_of_getElem? (i := 1117) (by decide +kernel)⟩
def lw_privs_3 : List (MethodName × Nat) := [(⟨"LetOff", "fillTable", "(III)V"⟩, 20), (⟨"LetOff", "isRest", "(II)Z"⟩, 20), (⟨"LetOff", "lack", "(I)I"⟩, 20), (⟨"LetOff", "tryFromBegin", "(I)LLetOff$Round;"⟩, 20), (⟨"LetOff", "fitsNotes", "(LLetOff$Round;)Z"⟩, 20), (⟨"LetOff", "countCells", "(LLetOff$Round;)V"⟩, 20), (⟨"LetOff", "mostAlike", "(I)I"⟩, 20), (⟨"LetOff", "drawWaiting", "(LLetOff$Round;I)V"⟩, 20), (⟨"LetOff", "draw", "()I"⟩, 20), (⟨"LetOffModel", "four", "(I)V"⟩, 40), (⟨"LetOffModel", "readsAll", "()Z"⟩, 40), (⟨"LetOffModel", "clauseHere", "()Z"⟩, 40), (⟨"LetOffModel", "see", "()I"⟩, 40), (⟨"LetOffModel", "isShowWord", "()Z"⟩, 40), (⟨"LetOffModel", "isWord", "(J)Z"⟩, 40), (⟨"LetOffModel", "isLetter", "(I)Z"⟩, 40)]
theorem lw_r3 : ∀ q ∈ lw_privs_3, lw_okq q := List.forall_mem_cons.mpr ⟨lw_p32, List.forall_mem_cons.mpr ⟨lw_p33, List.forall_mem_cons.mpr ⟨lw_p34, List.forall_mem_cons.mpr ⟨lw_p35, List.forall_mem_cons.mpr ⟨lw_p36, List.forall_mem_cons.mpr ⟨lw_p37, List.forall_mem_cons.mpr ⟨lw_p38, List.forall_mem_cons.mpr ⟨lw_p39, List.forall_mem_cons.mpr ⟨lw_p40, List.forall_mem_cons.mpr ⟨lw_p41, List.forall_mem_cons.mpr ⟨lw_p42, List.forall_mem_cons.mpr ⟨lw_p43, List.forall_mem_cons.mpr ⟨lw_p44, List.forall_mem_cons.mpr ⟨lw_p45, List.forall_mem_cons.mpr ⟨lw_p46, List.forall_mem_cons.mpr ⟨lw_p47, fun _ h => absurd h List.not_mem_nil⟩⟩⟩⟩⟩⟩⟩⟩⟩⟩⟩⟩⟩⟩⟩⟩
theorem lw_p48 : lw_okq (⟨"LetOffModel", "fails", "(II)Z"⟩, 40) := ⟨⟨by decide +kernel, by decide +kernel⟩, List.mem_of_getElem? (i := 951) (by decide +kernel), List.mem_of_getElem? (i := 1124) (by decide +kernel), List.mem_of_getElem? (i := 1125) (by decide +kernel)⟩
theorem lw_p49 : lw_okq (⟨"LetOffModel", "showLineHere", "(I)Z"⟩, 40) := ⟨⟨by decide +kernel, by decide +kernel⟩, List.mem_of_getElem? (i := 951) (by decide +kernel), List.mem_of_getElem? (i := 1128) (by decide +kernel), List.mem_of_getElem? (i := 1129) (by decide +kernel)⟩
theorem lw_p50 : lw_okq (⟨"LetOffModel", "isShowHere", "(I)Z"⟩, 40) := ⟨⟨by decide +kernel, by decide +kernel⟩, List.mem_of_getElem? (i := 951) (by decide +kernel), List.mem_of_getElem? (i := 1132) (by decide +kernel), List.mem_of_getElem? (i := 1133) (by decide +kernel)⟩
theorem lw_p51 : lw_okq (⟨"LetOffModel", "passWord", "()V"⟩, 40) := ⟨⟨by decide +kernel, by decide +kernel⟩, List.mem_of_getElem? (i := 951) (by decide +kernel), List.mem_of_getElem? (i := 1136) (by decide +kernel), List.mem_of_getElem? (i := 1137) (by decide +kernel)⟩
theorem lw_p52 : lw_okq (⟨"LetOffModel", "cellHere", "(III)Z"⟩, 40) := ⟨⟨by decide +kernel, by decide +kernel⟩, List.mem_of_getElem? (i := 951) (by decide +kernel), List.mem_of_getElem? (i := 1140) (by decide +kernel), List.mem_of_getElem? (i := 1141) (by decide +kernel)⟩
theorem lw_p53 : lw_okq (⟨"LetOffModel", "numberHere", "(II)Z"⟩, 40) := ⟨⟨by decide +kernel, by decide +kernel⟩, List.mem_of_getElem? (i := 951) (by decide +kernel), List.mem_of_getElem? (i := 1144) (by decide +kernel), List.mem_of_getElem? (i := 1145) (by decide +kernel)⟩
theorem lw_p54 : lw_okq (⟨"LetOffModel", "isDigit", "(I)Z"⟩, 40) := ⟨⟨by decide +kernel, by decide +kernel⟩, List.mem_of_getElem? (i := 951) (by decide +kernel), List.mem_of_getElem? (i := 1148) (by decide +kernel), List.mem_of_getElem? (i := 1149) (by decide +kernel)⟩
theorem lw_p55 : lw_okq (⟨"LetOffModel", "isRoadHere", "(I)Z"⟩, 40) := ⟨⟨by decide +kernel, by decide +kernel⟩, List.mem_of_getElem? (i := 951) (by decide +kernel), List.mem_of_getElem? (i := 1155) (by decide +kernel), List.mem_of_getElem? (i := 1156) (by decide +kernel)⟩
theorem lw_p56 : lw_okq (⟨"LetOffModel", "isRoadIn", "(I)Z"⟩, 40) := ⟨⟨by decide +kernel, by decide +kernel⟩, List.mem_of_getElem? (i := 951) (by decide +kernel), List.mem_of_getElem? (i := 1159) (by decide +kernel), List.mem_of_getElem? (i := 1160) (by decide +kernel)⟩
theorem lw_p57 : lw_okq (⟨"LetOffModel", "isCarHere", "(I)Z"⟩, 40) := ⟨⟨by decide +kernel, by decide +kernel⟩, List.mem_of_getElem? (i := 951) (by decide +kernel), List.mem_of_getElem? (i := 1163) (by decide +kernel), List.mem_of_getElem? (i := 1164) (by decide +kernel)⟩
theorem lw_p58 : lw_okq (⟨"LetOffModel", "isCarIn", "(I)Z"⟩, 40) := ⟨⟨by decide +kernel, by decide +kernel⟩, List.mem_of_getElem? (i := 951) (by decide +kernel), List.mem_of_getElem? (i := 1167) (by decide +kernel), List.mem_of_getElem? (i := 1168) (by decide +kernel)⟩
theorem lw_p59 : lw_okq (⟨"LetOffModel", "isGapHere", "()Z"⟩, 40) := ⟨⟨by decide +kernel, by decide +kernel⟩, List.mem_of_getElem? (i := 951) (by decide +kernel), List.mem_of_getElem? (i := 1171) (by decide +kernel), List.mem_of_getElem? (i := 1172) (by decide +kernel)⟩
theorem lw_p60 : lw_okq (⟨"LetOffModel", "isGoHere", "()Z"⟩, 40) := ⟨⟨by decide +kernel, by decide +kernel⟩, List.mem_of_getElem? (i := 951) (by decide +kernel), List.mem_of_getElem? (i := 1175) (by decide +kernel), List.mem_of_getElem? (i := 1176) (by decide +kernel)⟩
theorem lw_p61 : lw_okq (⟨"LetOffModel", "sum", "()Z"⟩, 40) := ⟨⟨by decide +kernel, by decide +kernel⟩, List.mem_of_getElem? (i := 951) (by decide +kernel), List.mem_of_getElem? (i := 1179) (by decide +kernel), List.mem_of_getElem? (i := 1180) (by decide +kernel)⟩
theorem lw_p62 : lw_okq (⟨"LetOffModel", "term", "()Z"⟩, 40) := ⟨⟨by decide +kernel, by decide +kernel⟩, List.mem_of_getElem? (i := 951) (by decide +kernel), List.mem_of_getElem? (i := 1183) (by decide +kernel), List.mem_of_getElem? (i := 1184) (by decide +kernel)⟩
theorem lw_p63 : lw_okq (⟨"LetOffModel", "value", "()Z"⟩, 40) := ⟨⟨by decide +kernel, by decide +kernel⟩, List.mem_of_getElem? (i := 951) (by decide +kernel), List.mem_of_getElem? (i := 1187) (by decide +kernel), List.mem_of_getElem? (i := 1188) (by decide +kernel)⟩
def lw_privs_4 : List (MethodName × Nat) := [(⟨"LetOffModel", "fails", "(II)Z"⟩, 40), (⟨"LetOffModel", "showLineHere", "(I)Z"⟩, 40), (⟨"LetOffModel", "isShowHere", "(I)Z"⟩, 40), (⟨"LetOffModel", "passWord", "()V"⟩, 40), (⟨"LetOffModel", "cellHere", "(III)Z"⟩, 40), (⟨"LetOffModel", "numberHere", "(II)Z"⟩, 40), (⟨"LetOffModel", "isDigit", "(I)Z"⟩, 40), (⟨"LetOffModel", "isRoadHere", "(I)Z"⟩, 40), (⟨"LetOffModel", "isRoadIn", "(I)Z"⟩, 40), (⟨"LetOffModel", "isCarHere", "(I)Z"⟩, 40), (⟨"LetOffModel", "isCarIn", "(I)Z"⟩, 40), (⟨"LetOffModel", "isGapHere", "()Z"⟩, 40), (⟨"LetOffModel", "isGoHere", "()Z"⟩, 40), (⟨"LetOffModel", "sum", "()Z"⟩, 40), (⟨"LetOffModel", "term", "()Z"⟩, 40), (⟨"LetOffModel", "value", "()Z"⟩, 40)]
theorem lw_r4 : ∀ q ∈ lw_privs_4, lw_okq q := List.forall_mem_cons.mpr ⟨lw_p48, List.forall_mem_cons.mpr ⟨lw_p49, List.forall_mem_cons.mpr ⟨lw_p50, List.forall_mem_cons.mpr ⟨lw_p51, List.forall_mem_cons.mpr ⟨lw_p52, List.forall_mem_cons.mpr ⟨lw_p53, List.forall_mem_cons.mpr ⟨lw_p54, List.forall_mem_cons.mpr ⟨lw_p55, List.forall_mem_cons.mpr ⟨lw_p56, List.forall_mem_cons.mpr ⟨lw_p57, List.forall_mem_cons.mpr ⟨lw_p58, List.forall_mem_cons.mpr ⟨lw_p59, List.forall_mem_cons.mpr ⟨lw_p60, List.forall_mem_cons.mpr ⟨lw_p61, List.forall_mem_cons.mpr ⟨lw_p62, List.forall_mem_cons.mpr ⟨lw_p63, fun _ h => absurd h List.not_mem_nil⟩⟩⟩⟩⟩⟩⟩⟩⟩⟩⟩⟩⟩⟩⟩⟩
theorem lw_p64 : lw_okq (⟨"LetOffModel", "makes", "(I)Z"⟩, 40) := ⟨⟨by decide +kernel, by decide +kernel⟩, List.mem_of_getElem? (i := 951) (by decide +kernel), List.mem_of_getElem? (i := 1192) (by decide +kernel), List.mem_of_getElem? (i := 1193) (by decide +kernel)⟩
theorem lw_p65 : lw_okq (⟨"LetOffModel", "puts", "(II)V"⟩, 40) := ⟨⟨by decide +kernel, by decide +kernel⟩, List.mem_of_getElem? (i := 951) (by decide +kernel), List.mem_of_getElem? (i := 1196) (by decide +kernel), List.mem_of_getElem? (i := 1197) (by decide +kernel)⟩
theorem lw_p66 : lw_okq (⟨"LetOffModel", "wordHere", "()I"⟩, 40) := ⟨⟨by decide +kernel, by decide +kernel⟩, List.mem_of_getElem? (i := 951) (by decide +kernel), List.mem_of_getElem? (i := 1200) (by decide +kernel), List.mem_of_getElem? (i := 1201) (by decide +kernel)⟩
theorem lw_p67 : lw_okq (⟨"LetOffModel", "takesWord", "(J)Z"⟩, 40) := ⟨⟨by decide +kernel, by decide +kernel⟩, List.mem_of_getElem? (i := 951) (by decide +kernel), List.mem_of_getElem? (i := 1213) (by decide +kernel), List.mem_of_getElem? (i := 1214) (by decide +kernel)⟩
theorem lw_p68 : lw_okq (⟨"LetOffModel", "tested", "()Z"⟩, 40) := ⟨⟨by decide +kernel, by decide +kernel⟩, List.mem_of_getElem? (i := 951) (by decide +kernel), List.mem_of_getElem? (i := 1217) (by decide +kernel), List.mem_of_getElem? (i := 1218) (by decide +kernel)⟩
theorem lw_p69 : lw_okq (⟨"LetOffModel", "fact", "()Z"⟩, 40) := ⟨⟨by decide +kernel, by decide +kernel⟩, List.mem_of_getElem? (i := 951) (by decide +kernel), List.mem_of_getElem? (i := 1221) (by decide +kernel), List.mem_of_getElem? (i := 1222) (by decide +kernel)⟩
theorem lw_p70 : lw_okq (⟨"LetOffModel", "opens", "(I)Z"⟩, 40) := ⟨⟨by decide +kernel, by decide +kernel⟩, List.mem_of_getElem? (i := 951) (by decide +kernel), List.mem_of_getElem? (i := 1226) (by decide +kernel), List.mem_of_getElem? (i := 1227) (by decide +kernel)⟩
theorem lw_p71 : lw_okq (⟨"LetOffModel", "compare", "()Z"⟩, 40) := ⟨⟨by decide +kernel, by decide +kernel⟩, List.mem_of_getElem? (i := 951) (by decide +kernel), List.mem_of_getElem? (i := 1230) (by decide +kernel), List.mem_of_getElem? (i := 1231) (by decide +kernel)⟩
theorem lw_p72 : lw_okq (⟨"LetOffModel", "closes", "()V"⟩, 40) := ⟨⟨by decide +kernel, by decide +kernel⟩, List.mem_of_getElem? (i := 951) (by decide +kernel), List.mem_of_getElem? (i := 1234) (by decide +kernel), List.mem_of_getElem? (i := 1235) (by decide +kernel)⟩
theorem lw_p73 : lw_okq (⟨"LetOffModel", "layDown", "(I)V"⟩, 40) := ⟨⟨by decide +kernel, by decide +kernel⟩, List.mem_of_getElem? (i := 951) (by decide +kernel), List.mem_of_getElem? (i := 1238) (by decide +kernel), List.mem_of_getElem? (i := 1239) (by decide +kernel)⟩
theorem lw_p74 : lw_okq (⟨"LetOffModel", "isInside", "()Z"⟩, 40) := ⟨⟨by decide +kernel, by decide +kernel⟩, List.mem_of_getElem? (i := 951) (by decide +kernel), List.mem_of_getElem? (i := 1245) (by decide +kernel), List.mem_of_getElem? (i := 1246) (by decide +kernel)⟩
theorem lw_p75 : lw_okq (⟨"LetOffModel", "begins", "()V"⟩, 40) := ⟨⟨by decide +kernel, by decide +kernel⟩, List.mem_of_getElem? (i := 951) (by decide +kernel), List.mem_of_getElem? (i := 1255) (by decide +kernel), List.mem_of_getElem? (i := 1256) (by decide +kernel)⟩
theorem lw_p76 : lw_okq (⟨"LetOffModel", "stands", "(IIIII)V"⟩, 40) := ⟨⟨by decide +kernel, by decide +kernel⟩, List.mem_of_getElem? (i := 951) (by decide +kernel), List.mem_of_getElem? (i := 1259) (by decide +kernel), List.mem_of_getElem? (i := 1260) (by decide +kernel)⟩
theorem lw_p77 : lw_okq (⟨"LetOffModel", "isRule", "(I)Z"⟩, 40) := ⟨⟨by decide +kernel, by decide +kernel⟩, List.mem_of_getElem? (i := 951) (by decide +kernel), List.mem_of_getElem? (i := 1267) (by decide +kernel), List.mem_of_getElem? (i := 1268) (by decide +kernel)⟩
theorem lw_p78 : lw_okq (⟨"LetOffModel", "isCar", "(I)Z"⟩, 40) := ⟨⟨by decide +kernel, by decide +kernel⟩, List.mem_of_getElem? (i := 951) (by decide +kernel), List.mem_of_getElem? (i := 1275) (by decide +kernel), List.mem_of_getElem? (i := 1276) (by decide +kernel)⟩
theorem lw_p79 : lw_okq (⟨"LetOffModel", "isShow", "()Z"⟩, 40) := ⟨⟨by decide +kernel, by decide +kernel⟩, List.mem_of_getElem? (i := 951) (by decide +kernel), List.mem_of_getElem? (i := 1279) (by decide +kernel), List.mem_of_getElem? (i := 1280) (by decide +kernel)⟩
def lw_privs_5 : List (MethodName × Nat) := [(⟨"LetOffModel", "makes", "(I)Z"⟩, 40), (⟨"LetOffModel", "puts", "(II)V"⟩, 40), (⟨"LetOffModel", "wordHere", "()I"⟩, 40), (⟨"LetOffModel", "takesWord", "(J)Z"⟩, 40), (⟨"LetOffModel", "tested", "()Z"⟩, 40), (⟨"LetOffModel", "fact", "()Z"⟩, 40), (⟨"LetOffModel", "opens", "(I)Z"⟩, 40), (⟨"LetOffModel", "compare", "()Z"⟩, 40), (⟨"LetOffModel", "closes", "()V"⟩, 40), (⟨"LetOffModel", "layDown", "(I)V"⟩, 40), (⟨"LetOffModel", "isInside", "()Z"⟩, 40), (⟨"LetOffModel", "begins", "()V"⟩, 40), (⟨"LetOffModel", "stands", "(IIIII)V"⟩, 40), (⟨"LetOffModel", "isRule", "(I)Z"⟩, 40), (⟨"LetOffModel", "isCar", "(I)Z"⟩, 40), (⟨"LetOffModel", "isShow", "()Z"⟩, 40)]
theorem lw_r5 : ∀ q ∈ lw_privs_5, lw_okq q := List.forall_mem_cons.mpr ⟨lw_p64, List.forall_mem_cons.mpr ⟨lw_p65, List.forall_mem_cons.mpr ⟨lw_p66, List.forall_mem_cons.mpr ⟨lw_p67, List.forall_mem_cons.mpr ⟨lw_p68, List.forall_mem_cons.mpr ⟨lw_p69, List.forall_mem_cons.mpr ⟨lw_p70, List.forall_mem_cons.mpr ⟨lw_p71, List.forall_mem_cons.mpr ⟨lw_p72, List.forall_mem_cons.mpr ⟨lw_p73, List.forall_mem_cons.mpr ⟨lw_p74, List.forall_mem_cons.mpr ⟨lw_p75, List.forall_mem_cons.mpr ⟨lw_p76, List.forall_mem_cons.mpr ⟨lw_p77, List.forall_mem_cons.mpr ⟨lw_p78, List.forall_mem_cons.mpr ⟨lw_p79, fun _ h => absurd h List.not_mem_nil⟩⟩⟩⟩⟩⟩⟩⟩⟩⟩⟩⟩⟩⟩⟩⟩
theorem lw_p80 : lw_okq (⟨"LetOffModel", "isOn", "(I)Z"⟩, 40) := ⟨⟨by decide +kernel, by decide +kernel⟩, List.mem_of_getElem? (i := 951) (by decide +kernel), List.mem_of_getElem? (i := 1285) (by decide +kernel), List.mem_of_getElem? (i := 1286) (by decide +kernel)⟩
theorem lw_p81 : lw_okq (⟨"LetOffModel", "isRoad", "(I)Z"⟩, 40) := ⟨⟨by decide +kernel, by decide +kernel⟩, List.mem_of_getElem? (i := 951) (by decide +kernel), List.mem_of_getElem? (i := 1293) (by decide +kernel), List.mem_of_getElem? (i := 1294) (by decide +kernel)⟩
theorem lw_p82 : lw_okq (⟨"LetOffModel", "isCell", "(I)Z"⟩, 40) := ⟨⟨by decide +kernel, by decide +kernel⟩, List.mem_of_getElem? (i := 951) (by decide +kernel), List.mem_of_getElem? (i := 1302) (by decide +kernel), List.mem_of_getElem? (i := 1303) (by decide +kernel)⟩
theorem lw_p83 : lw_okq (⟨"LetOffModel", "keepsAct", "()V"⟩, 40) := ⟨⟨by decide +kernel, by decide +kernel⟩, List.mem_of_getElem? (i := 951) (by decide +kernel), List.mem_of_getElem? (i := 1314) (by decide +kernel), List.mem_of_getElem? (i := 1315) (by decide +kernel)⟩
theorem lw_p84 : lw_okq (⟨"LetOffModel", "passes", "()I"⟩, 40) := ⟨⟨by decide +kernel, by decide +kernel⟩, List.mem_of_getElem? (i := 951) (by decide +kernel), List.mem_of_getElem? (i := 1318) (by decide +kernel), List.mem_of_getElem? (i := 1319) (by decide +kernel)⟩
theorem lw_p85 : lw_okq (⟨"LetOffModel", "fuelOf", "(I)I"⟩, 40) := ⟨⟨by decide +kernel, by decide +kernel⟩, List.mem_of_getElem? (i := 951) (by decide +kernel), List.mem_of_getElem? (i := 1322) (by decide +kernel), List.mem_of_getElem? (i := 1323) (by decide +kernel)⟩
theorem lw_p86 : lw_okq (⟨"LetOffModel", "drives", "(I)Z"⟩, 40) := ⟨⟨by decide +kernel, by decide +kernel⟩, List.mem_of_getElem? (i := 951) (by decide +kernel), List.mem_of_getElem? (i := 1326) (by decide +kernel), List.mem_of_getElem? (i := 1327) (by decide +kernel)⟩
theorem lw_p87 : lw_okq (⟨"LetOffModel", "cellOf", "(I)I"⟩, 40) := ⟨⟨by decide +kernel, by decide +kernel⟩, List.mem_of_getElem? (i := 951) (by decide +kernel), List.mem_of_getElem? (i := 1330) (by decide +kernel), List.mem_of_getElem? (i := 1331) (by decide +kernel)⟩
theorem lw_p88 : lw_okq (⟨"LetOffModel", "roadOf", "(I)I"⟩, 40) := ⟨⟨by decide +kernel, by decide +kernel⟩, List.mem_of_getElem? (i := 951) (by decide +kernel), List.mem_of_getElem? (i := 1334) (by decide +kernel), List.mem_of_getElem? (i := 1335) (by decide +kernel)⟩
theorem lw_p89 : lw_okq (⟨"LetOffModel", "isLetOff", "(I)Z"⟩, 40) := ⟨⟨by decide +kernel, by decide +kernel⟩, List.mem_of_getElem? (i := 951) (by decide +kernel), List.mem_of_getElem? (i := 1338) (by decide +kernel), List.mem_of_getElem? (i := 1339) (by decide +kernel)⟩
theorem lw_p90 : lw_okq (⟨"LetOffModel", "behindOf", "(I)I"⟩, 40) := ⟨⟨by decide +kernel, by decide +kernel⟩, List.mem_of_getElem? (i := 951) (by decide +kernel), List.mem_of_getElem? (i := 1345) (by decide +kernel), List.mem_of_getElem? (i := 1346) (by decide +kernel)⟩
theorem lw_p91 : lw_okq (⟨"LetOffModel", "carIn", "(I)I"⟩, 40) := ⟨⟨by decide +kernel, by decide +kernel⟩, List.mem_of_getElem? (i := 951) (by decide +kernel), List.mem_of_getElem? (i := 1349) (by decide +kernel), List.mem_of_getElem? (i := 1350) (by decide +kernel)⟩
theorem lw_p92 : lw_okq (⟨"LetOffModel", "manyOn", "()I"⟩, 40) := ⟨⟨by decide +kernel, by decide +kernel⟩, List.mem_of_getElem? (i := 951) (by decide +kernel), List.mem_of_getElem? (i := 1353) (by decide +kernel), List.mem_of_getElem? (i := 1354) (by decide +kernel)⟩
theorem lw_p93 : lw_okq (⟨"LetOffModel", "summedBy", "(I)J"⟩, 40) := ⟨⟨by decide +kernel, by decide +kernel⟩, List.mem_of_getElem? (i := 951) (by decide +kernel), List.mem_of_getElem? (i := 1357) (by decide +kernel), List.mem_of_getElem? (i := 1358) (by decide +kernel)⟩
theorem lw_p94 : lw_okq (⟨"LetOffModel", "reckons", "(III)J"⟩, 40) := ⟨⟨by decide +kernel, by decide +kernel⟩, List.mem_of_getElem? (i := 951) (by decide +kernel), List.mem_of_getElem? (i := 1361) (by decide +kernel), List.mem_of_getElem? (i := 1362) (by decide +kernel)⟩
theorem lw_p95 : lw_okq (⟨"LetOffModel", "push", "(J)V"⟩, 40) := ⟨⟨by decide +kernel, by decide +kernel⟩, List.mem_of_getElem? (i := 951) (by decide +kernel), List.mem_of_getElem? (i := 1365) (by decide +kernel), List.mem_of_getElem? (i := 1366) (by decide +kernel)⟩
def lw_privs_6 : List (MethodName × Nat) := [(⟨"LetOffModel", "isOn", "(I)Z"⟩, 40), (⟨"LetOffModel", "isRoad", "(I)Z"⟩, 40), (⟨"LetOffModel", "isCell", "(I)Z"⟩, 40), (⟨"LetOffModel", "keepsAct", "()V"⟩, 40), (⟨"LetOffModel", "passes", "()I"⟩, 40), (⟨"LetOffModel", "fuelOf", "(I)I"⟩, 40), (⟨"LetOffModel", "drives", "(I)Z"⟩, 40), (⟨"LetOffModel", "cellOf", "(I)I"⟩, 40), (⟨"LetOffModel", "roadOf", "(I)I"⟩, 40), (⟨"LetOffModel", "isLetOff", "(I)Z"⟩, 40), (⟨"LetOffModel", "behindOf", "(I)I"⟩, 40), (⟨"LetOffModel", "carIn", "(I)I"⟩, 40), (⟨"LetOffModel", "manyOn", "()I"⟩, 40), (⟨"LetOffModel", "summedBy", "(I)J"⟩, 40), (⟨"LetOffModel", "reckons", "(III)J"⟩, 40), (⟨"LetOffModel", "push", "(J)V"⟩, 40)]
theorem lw_r6 : ∀ q ∈ lw_privs_6, lw_okq q := List.forall_mem_cons.mpr ⟨lw_p80, List.forall_mem_cons.mpr ⟨lw_p81, List.forall_mem_cons.mpr ⟨lw_p82, List.forall_mem_cons.mpr ⟨lw_p83, List.forall_mem_cons.mpr ⟨lw_p84, List.forall_mem_cons.mpr ⟨lw_p85, List.forall_mem_cons.mpr ⟨lw_p86, List.forall_mem_cons.mpr ⟨lw_p87, List.forall_mem_cons.mpr ⟨lw_p88, List.forall_mem_cons.mpr ⟨lw_p89, List.forall_mem_cons.mpr ⟨lw_p90, List.forall_mem_cons.mpr ⟨lw_p91, List.forall_mem_cons.mpr ⟨lw_p92, List.forall_mem_cons.mpr ⟨lw_p93, List.forall_mem_cons.mpr ⟨lw_p94, List.forall_mem_cons.mpr ⟨lw_p95, fun _ h => absurd h List.not_mem_nil⟩⟩⟩⟩⟩⟩⟩⟩⟩⟩⟩⟩⟩⟩⟩⟩
theorem lw_p96 : lw_okq (⟨"LetOffModel", "pop", "()J"⟩, 40) := ⟨⟨by decide +kernel, by decide +kernel⟩, List.mem_of_getElem? (i := 951) (by decide +kernel), List.mem_of_getElem? (i := 1369) (by decide +kernel), List.mem_of_getElem? (i := 1370) (by decide +kernel)⟩
theorem lw_p97 : lw_okq (⟨"LetOffModel", "leaves", "(I)V"⟩, 40) := ⟨⟨by decide +kernel, by decide +kernel⟩, List.mem_of_getElem? (i := 951) (by decide +kernel), List.mem_of_getElem? (i := 1376) (by decide +kernel), List.mem_of_getElem? (i := 1377) (by decide +kernel)⟩
theorem lw_p98 : lw_okq (⟨"LetOffModel", "isFree", "(I)Z"⟩, 40) := ⟨⟨by decide +kernel, by decide +kernel⟩, List.mem_of_getElem? (i := 951) (by decide +kernel), List.mem_of_getElem? (i := 1380) (by decide +kernel), List.mem_of_getElem? (i := 1381) (by decide +kernel)⟩
theorem lw_p99 : lw_okq (⟨"LetOffModel", "waits", "(I)V"⟩, 40) := ⟨⟨by decide +kernel, by decide +kernel⟩, List.mem_of_getElem? (i := 951) (by decide +kernel), List.mem_of_getElem? (i := 1384) (by decide +kernel), List.mem_of_getElem? (i := 1385) (by decide +kernel)⟩
theorem lw_p100 : lw_okq (⟨"LetOffModel", "comesOn", "(I)V"⟩, 40) := ⟨⟨by decide +kernel, by decide +kernel⟩, List.mem_of_getElem? (i := 951) (by decide +kernel), List.mem_of_getElem? (i := 1388) (by decide +kernel), List.mem_of_getElem? (i := 1389) (by decide +kernel)⟩
theorem lw_p101 : lw_okq (⟨"LetOffModel", "isCarOn", "(I)Z"⟩, 40) := ⟨⟨by decide +kernel, by decide +kernel⟩, List.mem_of_getElem? (i := 951) (by decide +kernel), List.mem_of_getElem? (i := 1396) (by decide +kernel), List.mem_of_getElem? (i := 1397) (by decide +kernel)⟩
theorem lw_p102 : lw_okq (⟨"LetOffModel", "crosses", "(I)V"⟩, 40) := ⟨⟨by decide +kernel, by decide +kernel⟩, List.mem_of_getElem? (i := 951) (by decide +kernel), List.mem_of_getElem? (i := 1405) (by decide +kernel), List.mem_of_getElem? (i := 1406) (by decide +kernel)⟩
theorem lw_p103 : lw_okq (⟨"LetOffModel", "gaps", "()I"⟩, 40) := ⟨⟨by decide +kernel, by decide +kernel⟩, List.mem_of_getElem? (i := 951) (by decide +kernel), List.mem_of_getElem? (i := 1413) (by decide +kernel), List.mem_of_getElem? (i := 1414) (by decide +kernel)⟩
theorem lw_p104 : lw_okq (⟨"LetOffModel", "keeps", "()V"⟩, 40) := ⟨⟨by decide +kernel, by decide +kernel⟩, List.mem_of_getElem? (i := 951) (by decide +kernel), List.mem_of_getElem? (i := 1426) (by decide +kernel), List.mem_of_getElem? (i := 1427) (by decide +kernel)⟩
theorem lw_p105 : lw_okq (⟨"LetOffModel", "passesAll", "(I)V"⟩, 40) := ⟨⟨by decide +kernel, by decide +kernel⟩, List.mem_of_getElem? (i := 951) (by decide +kernel), List.mem_of_getElem? (i := 1430) (by decide +kernel), List.mem_of_getElem? (i := 1431) (by decide +kernel)⟩
theorem lw_p106 : lw_okq (⟨"LetOffModel", "laysBack", "()V"⟩, 40) := ⟨⟨by decide +kernel, by decide +kernel⟩, List.mem_of_getElem? (i := 951) (by decide +kernel), List.mem_of_getElem? (i := 1435) (by decide +kernel), List.mem_of_getElem? (i := 1436) (by decide +kernel)⟩
theorem lw_p107 : lw_okq (⟨"LetOffModel", "offIn", "(II)I"⟩, 40) := ⟨⟨by decide +kernel, by decide +kernel⟩, List.mem_of_getElem? (i := 951) (by decide +kernel), List.mem_of_getElem? (i := 1451) (by decide +kernel), List.mem_of_getElem? (i := 1452) (by decide +kernel)⟩
theorem lw_p108 : lw_okq (⟨"LetOffModel", "offAllIn", "(I)I"⟩, 40) := ⟨⟨by decide +kernel, by decide +kernel⟩, List.mem_of_getElem? (i := 951) (by decide +kernel), List.mem_of_getElem? (i := 1460) (by decide +kernel), List.mem_of_getElem? (i := 1461) (by decide +kernel)⟩
theorem lw_p109 : lw_okq (⟨"LetOffModel", "weighs", "(II)V"⟩, 40) := ⟨⟨by decide +kernel, by decide +kernel⟩, List.mem_of_getElem? (i := 951) (by decide +kernel), List.mem_of_getElem? (i := 1464) (by decide +kernel), List.mem_of_getElem? (i := 1465) (by decide +kernel)⟩
theorem lw_p110 : lw_okq (⟨"LetOffModel", "offByRow", "(II)I"⟩, 40) := ⟨⟨by decide +kernel, by decide +kernel⟩, List.mem_of_getElem? (i := 951) (by decide +kernel), List.mem_of_getElem? (i := 1480) (by decide +kernel), List.mem_of_getElem? (i := 1481) (by decide +kernel)⟩
theorem lw_p111 : lw_okq (⟨"LetOffModel", "isTwo", "(I)Z"⟩, 40) := ⟨⟨by decide +kernel, by decide +kernel⟩, List.mem_of_getElem? (i := 951) (by decide +kernel), List.mem_of_getElem? (i := 1492) (by decide +kernel), List.mem_of_getElem? (i := 1493) (by decide +kernel)⟩
def lw_privs_7 : List (MethodName × Nat) := [(⟨"LetOffModel", "pop", "()J"⟩, 40), (⟨"LetOffModel", "leaves", "(I)V"⟩, 40), (⟨"LetOffModel", "isFree", "(I)Z"⟩, 40), (⟨"LetOffModel", "waits", "(I)V"⟩, 40), (⟨"LetOffModel", "comesOn", "(I)V"⟩, 40), (⟨"LetOffModel", "isCarOn", "(I)Z"⟩, 40), (⟨"LetOffModel", "crosses", "(I)V"⟩, 40), (⟨"LetOffModel", "gaps", "()I"⟩, 40), (⟨"LetOffModel", "keeps", "()V"⟩, 40), (⟨"LetOffModel", "passesAll", "(I)V"⟩, 40), (⟨"LetOffModel", "laysBack", "()V"⟩, 40), (⟨"LetOffModel", "offIn", "(II)I"⟩, 40), (⟨"LetOffModel", "offAllIn", "(I)I"⟩, 40), (⟨"LetOffModel", "weighs", "(II)V"⟩, 40), (⟨"LetOffModel", "offByRow", "(II)I"⟩, 40), (⟨"LetOffModel", "isTwo", "(I)Z"⟩, 40)]
theorem lw_r7 : ∀ q ∈ lw_privs_7, lw_okq q := List.forall_mem_cons.mpr ⟨lw_p96, List.forall_mem_cons.mpr ⟨lw_p97, List.forall_mem_cons.mpr ⟨lw_p98, List.forall_mem_cons.mpr ⟨lw_p99, List.forall_mem_cons.mpr ⟨lw_p100, List.forall_mem_cons.mpr ⟨lw_p101, List.forall_mem_cons.mpr ⟨lw_p102, List.forall_mem_cons.mpr ⟨lw_p103, List.forall_mem_cons.mpr ⟨lw_p104, List.forall_mem_cons.mpr ⟨lw_p105, List.forall_mem_cons.mpr ⟨lw_p106, List.forall_mem_cons.mpr ⟨lw_p107, List.forall_mem_cons.mpr ⟨lw_p108, List.forall_mem_cons.mpr ⟨lw_p109, List.forall_mem_cons.mpr ⟨lw_p110, List.forall_mem_cons.mpr ⟨lw_p111, fun _ h => absurd h List.not_mem_nil⟩⟩⟩⟩⟩⟩⟩⟩⟩⟩⟩⟩⟩⟩⟩⟩
theorem lw_p112 : lw_okq (⟨"LetOffModel", "fillsRest", "(IIII)V"⟩, 40) := ⟨⟨by decide +kernel, by decide +kernel⟩, List.mem_of_getElem? (i := 951) (by decide +kernel), List.mem_of_getElem? (i := 1496) (by decide +kernel), List.mem_of_getElem? (i := 1497) (by decide +kernel)⟩
theorem lw_p113 : lw_okq (⟨"LetOffModel", "isRest", "(II)Z"⟩, 40) := ⟨⟨by decide +kernel, by decide +kernel⟩, List.mem_of_getElem? (i := 951) (by decide +kernel), List.mem_of_getElem? (i := 1500) (by decide +kernel), List.mem_of_getElem? (i := 1501) (by decide +kernel)⟩
theorem lw_p114 : lw_okq (⟨"LetOffModel", "areAlike", "(II)Z"⟩, 40) := ⟨⟨by decide +kernel, by decide +kernel⟩, List.mem_of_getElem? (i := 951) (by decide +kernel), List.mem_of_getElem? (i := 1508) (by decide +kernel), List.mem_of_getElem? (i := 1509) (by decide +kernel)⟩
theorem lw_p115 : lw_okq (⟨"LetOffModel", "shortOf", "(I)I"⟩, 40) := ⟨⟨by decide +kernel, by decide +kernel⟩, List.mem_of_getElem? (i := 951) (by decide +kernel), List.mem_of_getElem? (i := 1517) (by decide +kernel), List.mem_of_getElem? (i := 1518) (by decide +kernel)⟩
theorem lw_p116 : lw_okq (⟨"LetOffModel", "areAllSo", "(II)Z"⟩, 40) := ⟨⟨by decide +kernel, by decide +kernel⟩, List.mem_of_getElem? (i := 951) (by decide +kernel), List.mem_of_getElem? (i := 1530) (by decide +kernel), List.mem_of_getElem? (i := 1531) (by decide +kernel)⟩
theorem lw_p117 : lw_okq (⟨"LetOffModel", "areNotesSo", "(I)Z"⟩, 40) := ⟨⟨by decide +kernel, by decide +kernel⟩, List.mem_of_getElem? (i := 951) (by decide +kernel), List.mem_of_getElem? (i := 1534) (by decide +kernel), List.mem_of_getElem? (i := 1535) (by decide +kernel)⟩
theorem lw_p118 : lw_okq (⟨"LetOffModel", "cellOn", "(I)I"⟩, 40) := ⟨⟨by decide +kernel, by decide +kernel⟩, List.mem_of_getElem? (i := 951) (by decide +kernel), List.mem_of_getElem? (i := 1538) (by decide +kernel), List.mem_of_getElem? (i := 1539) (by decide +kernel)⟩
theorem lw_p119 : lw_okq (⟨"LetOffModel", "fillsFits", "(I)V"⟩, 40) := ⟨⟨by decide +kernel, by decide +kernel⟩, List.mem_of_getElem? (i := 951) (by decide +kernel), List.mem_of_getElem? (i := 1546) (by decide +kernel), List.mem_of_getElem? (i := 1547) (by decide +kernel)⟩
theorem lw_p120 : lw_okq (⟨"LetOffModel", "alikeAt", "(I)I"⟩, 40) := ⟨⟨by decide +kernel, by decide +kernel⟩, List.mem_of_getElem? (i := 951) (by decide +kernel), List.mem_of_getElem? (i := 1554) (by decide +kernel), List.mem_of_getElem? (i := 1555) (by decide +kernel)⟩
theorem lw_p121 : lw_okq (⟨"LetOffModel", "draw", "(I)I"⟩, 40) := ⟨⟨by decide +kernel, by decide +kernel⟩, List.mem_of_getElem? (i := 951) (by decide +kernel), List.mem_of_getElem? (i := 1567) (by decide +kernel), List.mem_of_getElem? (i := 1568) (by decide +kernel)⟩
theorem lw_p122 : lw_okq (⟨"LetOffModel", "waitAll", "()I"⟩, 40) := ⟨⟨by decide +kernel, by decide +kernel⟩, List.mem_of_getElem? (i := 951) (by decide +kernel), List.mem_of_getElem? (i := 1575) (by decide +kernel), List.mem_of_getElem? (i := 1576) (by decide +kernel)⟩
theorem lw_p123 : lw_okq (⟨"LetOffModel", "onesOn", "()I"⟩, 40) := ⟨⟨by decide +kernel, by decide +kernel⟩, List.mem_of_getElem? (i := 951) (by decide +kernel), List.mem_of_getElem? (i := 1583) (by decide +kernel), List.mem_of_getElem? (i := 1584) (by decide +kernel)⟩
def lw_privs_8 : List (MethodName × Nat) := [(⟨"LetOffModel", "fillsRest", "(IIII)V"⟩, 40), (⟨"LetOffModel", "isRest", "(II)Z"⟩, 40), (⟨"LetOffModel", "areAlike", "(II)Z"⟩, 40), (⟨"LetOffModel", "shortOf", "(I)I"⟩, 40), (⟨"LetOffModel", "areAllSo", "(II)Z"⟩, 40), (⟨"LetOffModel", "areNotesSo", "(I)Z"⟩, 40), (⟨"LetOffModel", "cellOn", "(I)I"⟩, 40), (⟨"LetOffModel", "fillsFits", "(I)V"⟩, 40), (⟨"LetOffModel", "alikeAt", "(I)I"⟩, 40), (⟨"LetOffModel", "draw", "(I)I"⟩, 40), (⟨"LetOffModel", "waitAll", "()I"⟩, 40), (⟨"LetOffModel", "onesOn", "()I"⟩, 40)]
theorem lw_r8 : ∀ q ∈ lw_privs_8, lw_okq q := List.forall_mem_cons.mpr ⟨lw_p112, List.forall_mem_cons.mpr ⟨lw_p113, List.forall_mem_cons.mpr ⟨lw_p114, List.forall_mem_cons.mpr ⟨lw_p115, List.forall_mem_cons.mpr ⟨lw_p116, List.forall_mem_cons.mpr ⟨lw_p117, List.forall_mem_cons.mpr ⟨lw_p118, List.forall_mem_cons.mpr ⟨lw_p119, List.forall_mem_cons.mpr ⟨lw_p120, List.forall_mem_cons.mpr ⟨lw_p121, List.forall_mem_cons.mpr ⟨lw_p122, List.forall_mem_cons.mpr ⟨lw_p123, fun _ h => absurd h List.not_mem_nil⟩⟩⟩⟩⟩⟩⟩⟩⟩⟩⟩⟩
def lw_privs : List (MethodName × Nat) := lw_privs_1 ++ (lw_privs_2 ++ (lw_privs_3 ++ (lw_privs_4 ++ (lw_privs_5 ++ (lw_privs_6 ++ (lw_privs_7 ++ (lw_privs_8)))))))
def lw_tbl : List Cond := k2_sels lw_privs ++ tables_1
theorem lw_privs_ok : ∀ q ∈ lw_privs, lw_okq q := by
  show ∀ q ∈ lw_privs_1 ++ (lw_privs_2 ++ (lw_privs_3 ++ (lw_privs_4 ++ (lw_privs_5 ++ (lw_privs_6 ++ (lw_privs_7 ++ (lw_privs_8))))))), lw_okq q
  exact List.forall_mem_append.mpr ⟨lw_r1, List.forall_mem_append.mpr ⟨lw_r2, List.forall_mem_append.mpr ⟨lw_r3, List.forall_mem_append.mpr ⟨lw_r4, List.forall_mem_append.mpr ⟨lw_r5, List.forall_mem_append.mpr ⟨lw_r6, List.forall_mem_append.mpr ⟨lw_r7, lw_r8⟩⟩⟩⟩⟩⟩⟩
end
section
/-! ===== BEGIN words of one list among another's, by their places ===== -/
theorem goodIn_r {big : List Cond} (ws : List Cond) (ps : List Nat) (hp : ws = ps.filterMap (fun i => big[i]?)) (h : ws.all goodWord = true) : GoodIn big ws := by
  intro w hw
  have h1 := List.all_eq_true.mp h w hw
  rw [hp] at hw
  obtain ⟨i, -, hi⟩ := List.mem_filterMap.mp hw
  have hm : w ∈ big := by first | exact List.mem_of_getElem? hi | exact List.getElem?_mem hi
  exact ⟨hm, good_of_word h1⟩
theorem goodIn_app {big a b : List Cond} (ha : GoodIn big a) (hb : GoodIn big b) : GoodIn big (a ++ b) := fun w h => (List.mem_append.mp h).elim (ha w) (hb w)
theorem goodIn_ca {big a b : List Cond} {c : Cond} (ha : GoodIn big (c :: a)) (hb : GoodIn big b) : GoodIn big (c :: (a ++ b)) := fun w h => (List.mem_cons.mp h).elim (fun e => ha w (List.mem_cons.mpr (Or.inl e))) (fun h => (List.mem_append.mp h).elim (fun h => ha w (List.mem_cons.mpr (Or.inr h))) (hb w))
theorem goodIn_sub {big ws : List Cond} (hm : ∀ w ∈ ws, w ∈ big) (h : ws.all goodWord = true) : GoodIn big ws := fun w hw => ⟨hm w hw, good_of_word (List.all_eq_true.mp h w hw)⟩
/-! ===== END ===== -/

/-! ===== BEGIN printed: names, fields, word lists, decode rows ===== -/
def RX0 : String := "LetOff$Engine"
def TX0 : u_T := fun k => match k with
  | 0 => ("LetOff$Engine", "plan", "LLetOff$Plan;", false)
  | 1 => ("LetOff$Engine", "rule", "LLetOff$Rule;", false)
  | 2 => ("LetOff$Engine", "closedRoad", "I", false)
  | 3 => ("LetOff$Engine", "chosenSet", "I", false)
  | 4 => ("LetOff$Engine", "stirred", "Z", false)
  | 5 => ("LetOff$Engine", "words", "[J", true)
  | _ => ("LetOff$Engine", "stack", "[J", true)
def tyX0 : Nat → FieldType := fun k => match k with
  | 0 => .object "LetOff$Plan"
  | 1 => .object "LetOff$Rule"
  | 2 => .int
  | 3 => .int
  | 4 => .boolean
  | 5 => .array .long
  | _ => .array .long
abbrev wsX00 : List Cond := u_ws RX0 TX0 7
theorem nmX0 : ∀ a, a < 7 → ∀ b, b < 7 → a ≠ b → (TX0 a).2.1 ≠ (TX0 b).2.1 := by decide +kernel
theorem tyX0_ok : ∀ k, k < 7 → parseFieldDescriptor (TX0 k).2.2.1 = some (tyX0 k) := by decide +kernel
abbrev cX0_init : ByteArray := prog_2_method_1_code
def yX0_init : MethodName := ⟨RX0, "<init>", "()V"⟩
abbrev cX0_drive : ByteArray := prog_2_method_2_code
def yX0_drive : MethodName := ⟨RX0, "drive", "(LLetOff$Round;)I"⟩
abbrev cX0_goOnIfFree : ByteArray := prog_2_method_3_code
def yX0_goOnIfFree : MethodName := ⟨RX0, "goOnIfFree", "(LLetOff$Round;I)V"⟩
abbrev cX0_ready : ByteArray := prog_2_method_4_code
def yX0_ready : MethodName := ⟨RX0, "ready", "(LLetOff$Round;)I"⟩
abbrev cX0_isAtItsRoad : ByteArray := prog_2_method_5_code
def yX0_isAtItsRoad : MethodName := ⟨RX0, "isAtItsRoad", "(LLetOff$Round;I)Z"⟩
abbrev cX0_goesOff : ByteArray := prog_2_method_6_code
def yX0_goesOff : MethodName := ⟨RX0, "goesOff", "(LLetOff$Round;I)Z"⟩
abbrev cX0_setWords : ByteArray := prog_2_method_7_code
def yX0_setWords : MethodName := ⟨RX0, "setWords", "(LLetOff$Round;I)V"⟩
abbrev cX0_cellsBehind : ByteArray := prog_2_method_8_code
def yX0_cellsBehind : MethodName := ⟨RX0, "cellsBehind", "(LLetOff$Round;I)I"⟩
abbrev cX0_letCome : ByteArray := prog_2_method_9_code
def yX0_letCome : MethodName := ⟨RX0, "letCome", "(LLetOff$Round;I)V"⟩
def RX1 : String := "LetOff$Image"
def TX1 : u_T := fun k => match k with
  | 0 => ("LetOff$Image", "made", "Z", false)
  | 1 => ("LetOff$Image", "plan", "LLetOff$Plan;", false)
  | 2 => ("LetOff$Image", "inForce", "I", false)
  | 3 => ("LetOff$Image", "x", "I", false)
  | 4 => ("LetOff$Image", "round", "LLetOff$Round;", true)
  | _ => ("LetOff$Image", "notes", "LLetOff$Notes;", true)
def tyX1 : Nat → FieldType := fun k => match k with
  | 0 => .boolean
  | 1 => .object "LetOff$Plan"
  | 2 => .int
  | 3 => .int
  | 4 => .object "LetOff$Round"
  | _ => .object "LetOff$Notes"
abbrev wsX10 : List Cond := u_ws RX1 TX1 6
theorem nmX1 : ∀ a, a < 6 → ∀ b, b < 6 → a ≠ b → (TX1 a).2.1 ≠ (TX1 b).2.1 := by decide +kernel
theorem tyX1_ok : ∀ k, k < 6 → parseFieldDescriptor (TX1 k).2.2.1 = some (tyX1 k) := by decide +kernel
abbrev cX1_init : ByteArray := prog_3_method_1_code
def yX1_init : MethodName := ⟨RX1, "<init>", "()V"⟩
def RX2 : String := "LetOff$Notes"
def TX2 : u_T := fun k => match k with
  | 0 => ("LetOff$Notes", "size", "I", false)
  | 1 => ("LetOff$Notes", "steps", "[I", true)
  | 2 => ("LetOff$Notes", "cars", "[I", true)
  | _ => ("LetOff$Notes", "cells", "[I", true)
def tyX2 : Nat → FieldType := fun k => match k with
  | 0 => .int
  | 1 => .array .int
  | 2 => .array .int
  | _ => .array .int
abbrev wsX20 : List Cond := u_ws RX2 TX2 4
theorem nmX2 : ∀ a, a < 4 → ∀ b, b < 4 → a ≠ b → (TX2 a).2.1 ≠ (TX2 b).2.1 := by decide +kernel
theorem tyX2_ok : ∀ k, k < 4 → parseFieldDescriptor (TX2 k).2.2.1 = some (tyX2 k) := by decide +kernel
abbrev cX2_init : ByteArray := prog_4_method_1_code
def yX2_init : MethodName := ⟨RX2, "<init>", "()V"⟩
abbrev cX2_add : ByteArray := prog_4_method_2_code
def yX2_add : MethodName := ⟨RX2, "add", "(III)V"⟩
abbrev cX2_copyFrom : ByteArray := prog_4_method_3_code
def yX2_copyFrom : MethodName := ⟨RX2, "copyFrom", "(LLetOff$Notes;)V"⟩
abbrev cX2_lastStep : ByteArray := prog_4_method_4_code
def yX2_lastStep : MethodName := ⟨RX2, "lastStep", "()I"⟩
abbrev cX2_areSo : ByteArray := prog_4_method_5_code
def yX2_areSo : MethodName := ⟨RX2, "areSo", "(ILLetOff$Round;)Z"⟩
def RX3 : String := "LetOff$Plan"
def TX3 : u_T := fun k => match k with
  | 0 => ("LetOff$Plan", "cells", "I", false)
  | 1 => ("LetOff$Plan", "roads", "I", false)
  | 2 => ("LetOff$Plan", "told", "I", false)
  | 3 => ("LetOff$Plan", "roadCell", "[I", true)
  | 4 => ("LetOff$Plan", "roadEvery", "[I", true)
  | _ => ("LetOff$Plan", "start", "LLetOff$Round;", true)
def tyX3 : Nat → FieldType := fun k => match k with
  | 0 => .int
  | 1 => .int
  | 2 => .int
  | 3 => .array .int
  | 4 => .array .int
  | _ => .object "LetOff$Round"
abbrev wsX30 : List Cond := u_ws RX3 TX3 6
theorem nmX3 : ∀ a, a < 6 → ∀ b, b < 6 → a ≠ b → (TX3 a).2.1 ≠ (TX3 b).2.1 := by decide +kernel
theorem tyX3_ok : ∀ k, k < 6 → parseFieldDescriptor (TX3 k).2.2.1 = some (tyX3 k) := by decide +kernel
abbrev cX3_init : ByteArray := prog_5_method_1_code
def yX3_init : MethodName := ⟨RX3, "<init>", "()V"⟩
abbrev cX3_roadCells : ByteArray := prog_5_method_2_code
def yX3_roadCells : MethodName := ⟨RX3, "roadCells", "()I"⟩
def RX4 : String := "LetOff$Reader"
def TX4 : u_T := fun k => match k with
  | 0 => ("LetOff$Reader", "kind", "I", false)
  | 1 => ("LetOff$Reader", "value", "I", false)
  | 2 => ("LetOff$Reader", "fault", "I", false)
  | 3 => ("LetOff$Reader", "text", "[B", true)
  | 4 => ("LetOff$Reader", "length", "I", false)
  | 5 => ("LetOff$Reader", "from", "I", false)
  | _ => ("LetOff$Reader", "to", "I", false)
def tyX4 : Nat → FieldType := fun k => match k with
  | 0 => .int
  | 1 => .int
  | 2 => .int
  | 3 => .array .byte
  | 4 => .int
  | 5 => .int
  | _ => .int
abbrev wsX40 : List Cond := u_ws RX4 TX4 7
theorem nmX4 : ∀ a, a < 7 → ∀ b, b < 7 → a ≠ b → (TX4 a).2.1 ≠ (TX4 b).2.1 := by decide +kernel
theorem tyX4_ok : ∀ k, k < 7 → parseFieldDescriptor (TX4 k).2.2.1 = some (tyX4 k) := by decide +kernel
abbrev cX4_init : ByteArray := prog_6_method_1_code
def yX4_init : MethodName := ⟨RX4, "<init>", "()V"⟩
abbrev cX4_open : ByteArray := prog_6_method_2_code
def yX4_open : MethodName := ⟨RX4, "open", "([BI)V"⟩
abbrev cX4_next : ByteArray := prog_6_method_3_code
def yX4_next : MethodName := ⟨RX4, "next", "()V"⟩
abbrev cX4_kindOf : ByteArray := prog_6_method_4_code
def yX4_kindOf : MethodName := ⟨RX4, "kindOf", "(B)I"⟩
abbrev cX4_refuse : ByteArray := prog_6_method_5_code
def yX4_refuse : MethodName := ⟨RX4, "refuse", "(I)V"⟩
abbrev cX4_isSign : ByteArray := prog_6_method_6_code
def yX4_isSign : MethodName := ⟨RX4, "isSign", "(I)Z"⟩
abbrev cX4_takeSign : ByteArray := prog_6_method_7_code
def yX4_takeSign : MethodName := ⟨RX4, "takeSign", "(I)V"⟩
abbrev cX4_isTooLong : ByteArray := prog_6_method_8_code
def yX4_isTooLong : MethodName := ⟨RX4, "isTooLong", "()Z"⟩
abbrev cX4_takeNumber : ByteArray := prog_6_method_9_code
def yX4_takeNumber : MethodName := ⟨RX4, "takeNumber", "(III)I"⟩
abbrev cX4_wordOf : ByteArray := prog_6_method_10_code
def yX4_wordOf : MethodName := ⟨RX4, "wordOf", "(Ljava/lang/String;)I"⟩
def RX5 : String := "LetOff$Round"
def TX5 : u_T := fun k => match k with
  | 0 => ("LetOff$Round", "cell", "[I", true)
  | 1 => ("LetOff$Round", "want", "[I", true)
  | 2 => ("LetOff$Round", "fuel", "[I", true)
  | 3 => ("LetOff$Round", "age", "[I", true)
  | 4 => ("LetOff$Round", "waits", "[I", true)
  | 5 => ("LetOff$Round", "taken", "I", false)
  | 6 => ("LetOff$Round", "gaps", "I", false)
  | 7 => ("LetOff$Round", "steps", "I", false)
  | _ => ("LetOff$Round", "gone", "I", false)
def tyX5 : Nat → FieldType := fun k => match k with
  | 0 => .array .int
  | 1 => .array .int
  | 2 => .array .int
  | 3 => .array .int
  | 4 => .array .int
  | 5 => .int
  | 6 => .int
  | 7 => .int
  | _ => .int
abbrev wsX50 : List Cond := u_ws RX5 TX5 9
theorem nmX5 : ∀ a, a < 9 → ∀ b, b < 9 → a ≠ b → (TX5 a).2.1 ≠ (TX5 b).2.1 := by decide +kernel
theorem tyX5_ok : ∀ k, k < 9 → parseFieldDescriptor (TX5 k).2.2.1 = some (tyX5 k) := by decide +kernel
abbrev cX5_init : ByteArray := prog_7_method_1_code
def yX5_init : MethodName := ⟨RX5, "<init>", "()V"⟩
abbrev cX5_copyFrom : ByteArray := prog_7_method_2_code
def yX5_copyFrom : MethodName := ⟨RX5, "copyFrom", "(LLetOff$Round;)V"⟩
abbrev cX5_hasGap : ByteArray := prog_7_method_3_code
def yX5_hasGap : MethodName := ⟨RX5, "hasGap", "(I)Z"⟩
abbrev cX5_closeGap : ByteArray := prog_7_method_4_code
def yX5_closeGap : MethodName := ⟨RX5, "closeGap", "(I)V"⟩
abbrev cX5_isFree : ByteArray := prog_7_method_5_code
def yX5_isFree : MethodName := ⟨RX5, "isFree", "(I)Z"⟩
abbrev cX5_comeOn : ByteArray := prog_7_method_6_code
def yX5_comeOn : MethodName := ⟨RX5, "comeOn", "(IIII)V"⟩
abbrev cX5_goOn : ByteArray := prog_7_method_7_code
def yX5_goOn : MethodName := ⟨RX5, "goOn", "(II)V"⟩
abbrev cX5_goOff : ByteArray := prog_7_method_8_code
def yX5_goOff : MethodName := ⟨RX5, "goOff", "(I)V"⟩
abbrev cX5_goOverGrass : ByteArray := prog_7_method_9_code
def yX5_goOverGrass : MethodName := ⟨RX5, "goOverGrass", "(I)V"⟩
abbrev cX5_carsOn : ByteArray := prog_7_method_10_code
def yX5_carsOn : MethodName := ⟨RX5, "carsOn", "()I"⟩
abbrev cX5_firstNotOn : ByteArray := prog_7_method_11_code
def yX5_firstNotOn : MethodName := ⟨RX5, "firstNotOn", "()I"⟩
abbrev cX5_allWaiting : ByteArray := prog_7_method_12_code
def yX5_allWaiting : MethodName := ⟨RX5, "allWaiting", "()I"⟩
abbrev cX5_face : ByteArray := prog_7_method_13_code
def yX5_face : MethodName := ⟨RX5, "face", "()J"⟩
def RX6 : String := "LetOff$RowSearch"
def TX6 : u_T := fun k => match k with
  | 0 => ("LetOff$RowSearch", "most", "I", false)
  | 1 => ("LetOff$RowSearch", "best", "[I", true)
  | 2 => ("LetOff$RowSearch", "tried", "[I", true)
  | _ => ("LetOff$RowSearch", "rounds", "[LLetOff$Round;", true)
def tyX6 : Nat → FieldType := fun k => match k with
  | 0 => .int
  | 1 => .array .int
  | 2 => .array .int
  | _ => .array (.object "LetOff$Round")
abbrev wsX60 : List Cond := u_ws RX6 TX6 4
theorem nmX6 : ∀ a, a < 4 → ∀ b, b < 4 → a ≠ b → (TX6 a).2.1 ≠ (TX6 b).2.1 := by decide +kernel
theorem tyX6_ok : ∀ k, k < 4 → parseFieldDescriptor (TX6 k).2.2.1 = some (tyX6 k) := by decide +kernel
abbrev cX6_init : ByteArray := prog_8_method_1_code
def yX6_init : MethodName := ⟨RX6, "<init>", "()V"⟩
abbrev cX6_search : ByteArray := prog_8_method_2_code
def yX6_search : MethodName := ⟨RX6, "search", "(LLetOff$Engine;LLetOff$Round;I)V"⟩
abbrev cX6_trySets : ByteArray := prog_8_method_3_code
def yX6_trySets : MethodName := ⟨RX6, "trySets", "(LLetOff$Engine;III)V"⟩
abbrev cX6_keepIfBest : ByteArray := prog_8_method_4_code
def yX6_keepIfBest : MethodName := ⟨RX6, "keepIfBest", "(I)V"⟩
def RX7 : String := "LetOff$Rule"
def TX7 : u_T := fun k => match k with
  | _ => ("LetOff$Rule", "codes", "[I", true)
def tyX7 : Nat → FieldType := fun k => match k with
  | _ => .array .int
abbrev wsX70 : List Cond := u_ws RX7 TX7 1
theorem nmX7 : ∀ a, a < 1 → ∀ b, b < 1 → a ≠ b → (TX7 a).2.1 ≠ (TX7 b).2.1 := by decide +kernel
theorem tyX7_ok : ∀ k, k < 1 → parseFieldDescriptor (TX7 k).2.2.1 = some (tyX7 k) := by decide +kernel
abbrev cX7_init : ByteArray := prog_9_method_1_code
def yX7_init : MethodName := ⟨RX7, "<init>", "([I)V"⟩
abbrev cX7_allows : ByteArray := prog_9_method_2_code
def yX7_allows : MethodName := ⟨RX7, "allows", "([J[J)Z"⟩
abbrev cX7_takesTwo : ByteArray := prog_9_method_3_code
def yX7_takesTwo : MethodName := ⟨RX7, "takesTwo", "(I)Z"⟩
abbrev cX7_join : ByteArray := prog_9_method_4_code
def yX7_join : MethodName := ⟨RX7, "join", "(IJJ)J"⟩
abbrev cX7_compared : ByteArray := prog_9_method_5_code
def yX7_compared : MethodName := ⟨RX7, "compared", "(IJJ)Z"⟩
def RX8 : String := "LetOff$RuleReader"
def TX8 : u_T := fun k => match k with
  | 0 => ("LetOff$RuleReader", "in", "LLetOff$Reader;", true)
  | 1 => ("LetOff$RuleReader", "codes", "[I", true)
  | 2 => ("LetOff$RuleReader", "size", "I", false)
  | _ => ("LetOff$RuleReader", "counted", "I", false)
def tyX8 : Nat → FieldType := fun k => match k with
  | 0 => .object "LetOff$Reader"
  | 1 => .array .int
  | 2 => .int
  | _ => .int
abbrev wsX80 : List Cond := u_ws RX8 TX8 4
theorem nmX8 : ∀ a, a < 4 → ∀ b, b < 4 → a ≠ b → (TX8 a).2.1 ≠ (TX8 b).2.1 := by decide +kernel
theorem tyX8_ok : ∀ k, k < 4 → parseFieldDescriptor (TX8 k).2.2.1 = some (tyX8 k) := by decide +kernel
abbrev cX8_init : ByteArray := prog_10_method_1_code
def yX8_init : MethodName := ⟨RX8, "<init>", "()V"⟩
abbrev cX8_read : ByteArray := prog_10_method_2_code
def yX8_read : MethodName := ⟨RX8, "read", "([BI)LLetOff$Rule;"⟩
abbrev cX8_put : ByteArray := prog_10_method_3_code
def yX8_put : MethodName := ⟨RX8, "put", "(I)V"⟩
abbrev cX8_putSign : ByteArray := prog_10_method_4_code
def yX8_putSign : MethodName := ⟨RX8, "putSign", "(I)V"⟩
abbrev cX8_countOne : ByteArray := prog_10_method_5_code
def yX8_countOne : MethodName := ⟨RX8, "countOne", "()V"⟩
abbrev cX8_readGo : ByteArray := prog_10_method_6_code
def yX8_readGo : MethodName := ⟨RX8, "readGo", "(I)V"⟩
abbrev cX8_readTest : ByteArray := prog_10_method_7_code
def yX8_readTest : MethodName := ⟨RX8, "readTest", "(I)V"⟩
abbrev cX8_readFact : ByteArray := prog_10_method_8_code
def yX8_readFact : MethodName := ⟨RX8, "readFact", "(I)V"⟩
abbrev cX8_readNested : ByteArray := prog_10_method_9_code
def yX8_readNested : MethodName := ⟨RX8, "readNested", "(IZ)V"⟩
abbrev cX8_readSum : ByteArray := prog_10_method_10_code
def yX8_readSum : MethodName := ⟨RX8, "readSum", "()V"⟩
abbrev cX8_readValue : ByteArray := prog_10_method_11_code
def yX8_readValue : MethodName := ⟨RX8, "readValue", "()V"⟩
def RX9 : String := "LetOff$ShowReader"
def TX9 : u_T := fun k => match k with
  | _ => ("LetOff$ShowReader", "in", "LLetOff$Reader;", true)
def tyX9 : Nat → FieldType := fun k => match k with
  | _ => .object "LetOff$Reader"
abbrev wsX90 : List Cond := u_ws RX9 TX9 1
theorem nmX9 : ∀ a, a < 1 → ∀ b, b < 1 → a ≠ b → (TX9 a).2.1 ≠ (TX9 b).2.1 := by decide +kernel
theorem tyX9_ok : ∀ k, k < 1 → parseFieldDescriptor (TX9 k).2.2.1 = some (tyX9 k) := by decide +kernel
abbrev cX9_init : ByteArray := prog_11_method_1_code
def yX9_init : MethodName := ⟨RX9, "<init>", "()V"⟩
abbrev cX9_read : ByteArray := prog_11_method_2_code
def yX9_read : MethodName := ⟨RX9, "read", "([BI)LLetOff$Plan;"⟩
abbrev cX9_readClause : ByteArray := prog_11_method_3_code
def yX9_readClause : MethodName := ⟨RX9, "readClause", "(LLetOff$Plan;I)V"⟩
abbrev cX9_readRoad : ByteArray := prog_11_method_4_code
def yX9_readRoad : MethodName := ⟨RX9, "readRoad", "(LLetOff$Plan;)V"⟩
abbrev cX9_readCar : ByteArray := prog_11_method_5_code
def yX9_readCar : MethodName := ⟨RX9, "readCar", "(LLetOff$Plan;)V"⟩
abbrev cX9_readGap : ByteArray := prog_11_method_6_code
def yX9_readGap : MethodName := ⟨RX9, "readGap", "(LLetOff$Plan;)V"⟩
def RX10 : String := "LetOff"
def TX10 : u_T := fun k => match k with
  | 0 => ("LetOff", "tape", "[B", true)
  | 1 => ("LetOff", "tapeLength", "I", false)
  | 2 => ("LetOff", "rules", "[LLetOff$Rule;", true)
  | 3 => ("LetOff", "ruleCount", "I", false)
  | 4 => ("LetOff", "plan", "LLetOff$Plan;", false)
  | 5 => ("LetOff", "now", "LLetOff$Round;", true)
  | 6 => ("LetOff", "inForce", "I", false)
  | 7 => ("LetOff", "x", "I", false)
  | 8 => ("LetOff", "notes", "LLetOff$Notes;", true)
  | 9 => ("LetOff", "images", "[LLetOff$Image;", true)
  | 10 => ("LetOff", "undos", "[LLetOff$Round;", true)
  | 11 => ("LetOff", "undoCount", "I", false)
  | 12 => ("LetOff", "undoNext", "I", false)
  | 13 => ("LetOff", "showReader", "LLetOff$ShowReader;", true)
  | 14 => ("LetOff", "ruleReader", "LLetOff$RuleReader;", true)
  | 15 => ("LetOff", "engine", "LLetOff$Engine;", true)
  | 16 => ("LetOff", "rowSearch", "LLetOff$RowSearch;", true)
  | 17 => ("LetOff", "trial", "LLetOff$Round;", true)
  | 18 => ("LetOff", "table", "[I", true)
  | _ => ("LetOff", "faces", "[J", true)
def tyX10 : Nat → FieldType := fun k => match k with
  | 0 => .array .byte
  | 1 => .int
  | 2 => .array (.object "LetOff$Rule")
  | 3 => .int
  | 4 => .object "LetOff$Plan"
  | 5 => .object "LetOff$Round"
  | 6 => .int
  | 7 => .int
  | 8 => .object "LetOff$Notes"
  | 9 => .array (.object "LetOff$Image")
  | 10 => .array (.object "LetOff$Round")
  | 11 => .int
  | 12 => .int
  | 13 => .object "LetOff$ShowReader"
  | 14 => .object "LetOff$RuleReader"
  | 15 => .object "LetOff$Engine"
  | 16 => .object "LetOff$RowSearch"
  | 17 => .object "LetOff$Round"
  | 18 => .array .int
  | _ => .array .long
abbrev wsX100 : List Cond := u_ws RX10 TX10 20
theorem nmX10 : ∀ a, a < 20 → ∀ b, b < 20 → a ≠ b → (TX10 a).2.1 ≠ (TX10 b).2.1 := by decide +kernel
theorem tyX10_ok : ∀ k, k < 20 → parseFieldDescriptor (TX10 k).2.2.1 = some (tyX10 k) := by decide +kernel
abbrev cX10_init : ByteArray := prog_1_method_1_code
def yX10_init : MethodName := ⟨RX10, "<init>", "()V"⟩
abbrev cX10_feed : ByteArray := prog_1_method_2_code
def yX10_feed : MethodName := ⟨RX10, "feed", "(IIIII)I"⟩
abbrev cX10_putBytes : ByteArray := prog_1_method_3_code
def yX10_putBytes : MethodName := ⟨RX10, "putBytes", "(I)V"⟩
abbrev cX10_end : ByteArray := prog_1_method_4_code
def yX10_end : MethodName := ⟨RX10, "end", "(I)I"⟩
abbrev cX10_show : ByteArray := prog_1_method_5_code
def yX10_show : MethodName := ⟨RX10, "show", "()I"⟩
abbrev cX10_rule : ByteArray := prog_1_method_6_code
def yX10_rule : MethodName := ⟨RX10, "rule", "()I"⟩
abbrev cX10_force : ByteArray := prog_1_method_7_code
def yX10_force : MethodName := ⟨RX10, "force", "(I)I"⟩
abbrev cX10_car : ByteArray := prog_1_method_8_code
def yX10_car : MethodName := ⟨RX10, "car", "(II)I"⟩
abbrev cX10_road : ByteArray := prog_1_method_9_code
def yX10_road : MethodName := ⟨RX10, "road", "(II)I"⟩
abbrev cX10_gapIn : ByteArray := prog_1_method_10_code
def yX10_gapIn : MethodName := ⟨RX10, "gapIn", "(I)I"⟩
abbrev cX10_count : ByteArray := prog_1_method_11_code
def yX10_count : MethodName := ⟨RX10, "count", "(I)I"⟩
abbrev cX10_isCar : ByteArray := prog_1_method_12_code
def yX10_isCar : MethodName := ⟨RX10, "isCar", "(I)Z"⟩
abbrev cX10_isOn : ByteArray := prog_1_method_13_code
def yX10_isOn : MethodName := ⟨RX10, "isOn", "(I)Z"⟩
abbrev cX10_isRoad : ByteArray := prog_1_method_14_code
def yX10_isRoad : MethodName := ⟨RX10, "isRoad", "(I)Z"⟩
abbrev cX10_isCell : ByteArray := prog_1_method_15_code
def yX10_isCell : MethodName := ⟨RX10, "isCell", "(I)Z"⟩
abbrev cX10_within : ByteArray := prog_1_method_16_code
def yX10_within : MethodName := ⟨RX10, "within", "(III)Z"⟩
abbrev cX10_step : ByteArray := prog_1_method_17_code
def yX10_step : MethodName := ⟨RX10, "step", "()I"⟩
abbrev cX10_pole : ByteArray := prog_1_method_18_code
def yX10_pole : MethodName := ⟨RX10, "pole", "(II)I"⟩
abbrev cX10_grass : ByteArray := prog_1_method_19_code
def yX10_grass : MethodName := ⟨RX10, "grass", "(I)I"⟩
abbrev cX10_fill : ByteArray := prog_1_method_20_code
def yX10_fill : MethodName := ⟨RX10, "fill", "(I)I"⟩
abbrev cX10_wish : ByteArray := prog_1_method_21_code
def yX10_wish : MethodName := ⟨RX10, "wish", "(II)I"⟩
abbrev cX10_undo : ByteArray := prog_1_method_22_code
def yX10_undo : MethodName := ⟨RX10, "undo", "()I"⟩
abbrev cX10_keepForUndo : ByteArray := prog_1_method_23_code
def yX10_keepForUndo : MethodName := ⟨RX10, "keepForUndo", "()V"⟩
abbrev cX10_setEngine : ByteArray := prog_1_method_24_code
def yX10_setEngine : MethodName := ⟨RX10, "setEngine", "(I)V"⟩
abbrev cX10_tryFromNow : ByteArray := prog_1_method_25_code
def yX10_tryFromNow : MethodName := ⟨RX10, "tryFromNow", "()LLetOff$Round;"⟩
abbrev cX10_stepOff : ByteArray := prog_1_method_26_code
def yX10_stepOff : MethodName := ⟨RX10, "stepOff", "(LLetOff$Round;II)I"⟩
abbrev cX10_goneIn : ByteArray := prog_1_method_27_code
def yX10_goneIn : MethodName := ⟨RX10, "goneIn", "(LLetOff$Round;I)I"⟩
abbrev cX10_ahead : ByteArray := prog_1_method_28_code
def yX10_ahead : MethodName := ⟨RX10, "ahead", "(III)I"⟩
abbrev cX10_lets : ByteArray := prog_1_method_29_code
def yX10_lets : MethodName := ⟨RX10, "lets", "(I)I"⟩
abbrev cX10_still : ByteArray := prog_1_method_30_code
def yX10_still : MethodName := ⟨RX10, "still", "()I"⟩
abbrev cX10_leastFuel : ByteArray := prog_1_method_31_code
def yX10_leastFuel : MethodName := ⟨RX10, "leastFuel", "(II)I"⟩
abbrev cX10_bestGrass : ByteArray := prog_1_method_32_code
def yX10_bestGrass : MethodName := ⟨RX10, "bestGrass", "(II)I"⟩
abbrev cX10_bestFill : ByteArray := prog_1_method_33_code
def yX10_bestFill : MethodName := ⟨RX10, "bestFill", "(II)I"⟩
abbrev cX10_closed : ByteArray := prog_1_method_34_code
def yX10_closed : MethodName := ⟨RX10, "closed", "(II)I"⟩
abbrev cX10_bestDeed : ByteArray := prog_1_method_35_code
def yX10_bestDeed : MethodName := ⟨RX10, "bestDeed", "(III)I"⟩
abbrev cX10_doDeed : ByteArray := prog_1_method_36_code
def yX10_doDeed : MethodName := ⟨RX10, "doDeed", "(LLetOff$Round;II)Z"⟩
abbrev cX10_row : ByteArray := prog_1_method_37_code
def yX10_row : MethodName := ⟨RX10, "row", "(II)I"⟩
abbrev cX10_longest : ByteArray := prog_1_method_38_code
def yX10_longest : MethodName := ⟨RX10, "longest", "(II)I"⟩
abbrev cX10_rests : ByteArray := prog_1_method_39_code
def yX10_rests : MethodName := ⟨RX10, "rests", "(IIII)I"⟩
abbrev cX10_gainAt : ByteArray := prog_1_method_40_code
def yX10_gainAt : MethodName := ⟨RX10, "gainAt", "(II)I"⟩
abbrev cX10_fillTable : ByteArray := prog_1_method_41_code
def yX10_fillTable : MethodName := ⟨RX10, "fillTable", "(III)V"⟩
abbrev cX10_gainBehind : ByteArray := prog_1_method_42_code
def yX10_gainBehind : MethodName := ⟨RX10, "gainBehind", "(IIII)I"⟩
abbrev cX10_isRest : ByteArray := prog_1_method_43_code
def yX10_isRest : MethodName := ⟨RX10, "isRest", "(II)Z"⟩
abbrev cX10_ring : ByteArray := prog_1_method_44_code
def yX10_ring : MethodName := ⟨RX10, "ring", "(I)I"⟩
abbrev cX10_litres : ByteArray := prog_1_method_45_code
def yX10_litres : MethodName := ⟨RX10, "litres", "(II)I"⟩
abbrev cX10_lack : ByteArray := prog_1_method_46_code
def yX10_lack : MethodName := ⟨RX10, "lack", "(I)I"⟩
abbrev cX10_note : ByteArray := prog_1_method_47_code
def yX10_note : MethodName := ⟨RX10, "note", "(III)I"⟩
abbrev cX10_tryFromBegin : ByteArray := prog_1_method_48_code
def yX10_tryFromBegin : MethodName := ⟨RX10, "tryFromBegin", "(I)LLetOff$Round;"⟩
abbrev cX10_fitsNotes : ByteArray := prog_1_method_49_code
def yX10_fitsNotes : MethodName := ⟨RX10, "fitsNotes", "(LLetOff$Round;)Z"⟩
abbrev cX10_wished : ByteArray := prog_1_method_50_code
def yX10_wished : MethodName := ⟨RX10, "wished", "(II)I"⟩
abbrev cX10_ruled : ByteArray := prog_1_method_51_code
def yX10_ruled : MethodName := ⟨RX10, "ruled", "(I)I"⟩
abbrev cX10_look : ByteArray := prog_1_method_52_code
def yX10_look : MethodName := ⟨RX10, "look", "(II)I"⟩
abbrev cX10_countCells : ByteArray := prog_1_method_53_code
def yX10_countCells : MethodName := ⟨RX10, "countCells", "(LLetOff$Round;)V"⟩
abbrev cX10_mostAlike : ByteArray := prog_1_method_54_code
def yX10_mostAlike : MethodName := ⟨RX10, "mostAlike", "(I)I"⟩
abbrev cX10_seed : ByteArray := prog_1_method_55_code
def yX10_seed : MethodName := ⟨RX10, "seed", "(I)I"⟩
abbrev cX10_shows : ByteArray := prog_1_method_56_code
def yX10_shows : MethodName := ⟨RX10, "shows", "(IIII)I"⟩
abbrev cX10_drawWaiting : ByteArray := prog_1_method_57_code
def yX10_drawWaiting : MethodName := ⟨RX10, "drawWaiting", "(LLetOff$Round;I)V"⟩
abbrev cX10_draw : ByteArray := prog_1_method_58_code
def yX10_draw : MethodName := ⟨RX10, "draw", "()I"⟩
abbrev cX10_image : ByteArray := prog_1_method_59_code
def yX10_image : MethodName := ⟨RX10, "image", "(I)I"⟩
abbrev cX10_back : ByteArray := prog_1_method_60_code
def yX10_back : MethodName := ⟨RX10, "back", "(I)I"⟩
def RX11 : String := "LetOffModel"
def TX11 : u_T := fun k => match k with
  | 0 => ("LetOffModel", "tape", "[B", true)
  | 1 => ("LetOffModel", "taped", "I", false)
  | 2 => ("LetOffModel", "rules", "I", false)
  | 3 => ("LetOffModel", "sign", "[I", true)
  | 4 => ("LetOffModel", "length", "[I", true)
  | 5 => ("LetOffModel", "clause", "[I", true)
  | 6 => ("LetOffModel", "clauses", "[I", true)
  | 7 => ("LetOffModel", "read", "[I", true)
  | 8 => ("LetOffModel", "next", "I", false)
  | 9 => ("LetOffModel", "wrong", "I", false)
  | 10 => ("LetOffModel", "number", "I", false)
  | 11 => ("LetOffModel", "text", "I", false)
  | 12 => ("LetOffModel", "made", "I", false)
  | 13 => ("LetOffModel", "deep", "I", false)
  | 14 => ("LetOffModel", "lines", "I", false)
  | 15 => ("LetOffModel", "open", "[I", true)
  | 16 => ("LetOffModel", "opened", "I", false)
  | 17 => ("LetOffModel", "stack", "[J", true)
  | 18 => ("LetOffModel", "top", "I", false)
  | 19 => ("LetOffModel", "word", "[J", true)
  | 20 => ("LetOffModel", "said", "[I", true)
  | 21 => ("LetOffModel", "force", "I", false)
  | 22 => ("LetOffModel", "x", "I", false)
  | 23 => ("LetOffModel", "closedRoad", "I", false)
  | 24 => ("LetOffModel", "planned", "I", false)
  | 25 => ("LetOffModel", "isMoved", "Z", false)
  | 26 => ("LetOffModel", "wasSaid", "[I", true)
  | 27 => ("LetOffModel", "undone", "I", false)
  | 28 => ("LetOffModel", "kept", "[I", true)
  | 29 => ("LetOffModel", "bestOne", "I", false)
  | 30 => ("LetOffModel", "bestMany", "I", false)
  | 31 => ("LetOffModel", "hasBy", "[I", true)
  | 32 => ("LetOffModel", "whereThen", "[I", true)
  | 33 => ("LetOffModel", "isFit", "[Z", true)
  | 34 => ("LetOffModel", "cellThen", "[I", true)
  | 35 => ("LetOffModel", "drawX", "J", false)
  | 36 => ("LetOffModel", "images", "[I", true)
  | 37 => ("LetOffModel", "imageForce", "[I", true)
  | 38 => ("LetOffModel", "imageX", "[I", true)
  | _ => ("LetOffModel", "isMade", "[Z", true)
def tyX11 : Nat → FieldType := fun k => match k with
  | 0 => .array .byte
  | 1 => .int
  | 2 => .int
  | 3 => .array .int
  | 4 => .array .int
  | 5 => .array .int
  | 6 => .array .int
  | 7 => .array .int
  | 8 => .int
  | 9 => .int
  | 10 => .int
  | 11 => .int
  | 12 => .int
  | 13 => .int
  | 14 => .int
  | 15 => .array .int
  | 16 => .int
  | 17 => .array .long
  | 18 => .int
  | 19 => .array .long
  | 20 => .array .int
  | 21 => .int
  | 22 => .int
  | 23 => .int
  | 24 => .int
  | 25 => .boolean
  | 26 => .array .int
  | 27 => .int
  | 28 => .array .int
  | 29 => .int
  | 30 => .int
  | 31 => .array .int
  | 32 => .array .int
  | 33 => .array .boolean
  | 34 => .array .int
  | 35 => .long
  | 36 => .array .int
  | 37 => .array .int
  | 38 => .array .int
  | _ => .array .boolean
abbrev wsX110 : List Cond := u_ws RX11 TX11 40
theorem nmX11 : ∀ a, a < 40 → ∀ b, b < 40 → a ≠ b → (TX11 a).2.1 ≠ (TX11 b).2.1 := by decide +kernel
theorem tyX11_ok : ∀ k, k < 40 → parseFieldDescriptor (TX11 k).2.2.1 = some (tyX11 k) := by decide +kernel
abbrev cX11_init : ByteArray := prog_13_method_1_code
def yX11_init : MethodName := ⟨RX11, "<init>", "()V"⟩
abbrev cX11_in : ByteArray := prog_13_method_2_code
def yX11_in : MethodName := ⟨RX11, "in", "(JJJ)Z"⟩
abbrev cX11_isOf : ByteArray := prog_13_method_3_code
def yX11_isOf : MethodName := ⟨RX11, "isOf", "(II)Z"⟩
abbrev cX11_four : ByteArray := prog_13_method_4_code
def yX11_four : MethodName := ⟨RX11, "four", "(I)V"⟩
abbrev cX11_feed : ByteArray := prog_13_method_5_code
def yX11_feed : MethodName := ⟨RX11, "feed", "(IIIII)I"⟩
abbrev cX11_end : ByteArray := prog_13_method_6_code
def yX11_end : MethodName := ⟨RX11, "end", "(I)I"⟩
abbrev cX11_fails : ByteArray := prog_13_method_7_code
def yX11_fails : MethodName := ⟨RX11, "fails", "(II)Z"⟩
abbrev cX11_see : ByteArray := prog_13_method_8_code
def yX11_see : MethodName := ⟨RX11, "see", "()I"⟩
abbrev cX11_isDigit : ByteArray := prog_13_method_9_code
def yX11_isDigit : MethodName := ⟨RX11, "isDigit", "(I)Z"⟩
abbrev cX11_isLetter : ByteArray := prog_13_method_10_code
def yX11_isLetter : MethodName := ⟨RX11, "isLetter", "(I)Z"⟩
abbrev cX11_isWord : ByteArray := prog_13_method_11_code
def yX11_isWord : MethodName := ⟨RX11, "isWord", "(J)Z"⟩
abbrev cX11_passWord : ByteArray := prog_13_method_12_code
def yX11_passWord : MethodName := ⟨RX11, "passWord", "()V"⟩
abbrev cX11_takesWord : ByteArray := prog_13_method_13_code
def yX11_takesWord : MethodName := ⟨RX11, "takesWord", "(J)Z"⟩
abbrev cX11_numberHere : ByteArray := prog_13_method_14_code
def yX11_numberHere : MethodName := ⟨RX11, "numberHere", "(II)Z"⟩
abbrev cX11_wordHere : ByteArray := prog_13_method_15_code
def yX11_wordHere : MethodName := ⟨RX11, "wordHere", "()I"⟩
abbrev cX11_puts : ByteArray := prog_13_method_16_code
def yX11_puts : MethodName := ⟨RX11, "puts", "(II)V"⟩
abbrev cX11_makes : ByteArray := prog_13_method_17_code
def yX11_makes : MethodName := ⟨RX11, "makes", "(I)Z"⟩
abbrev cX11_opens : ByteArray := prog_13_method_18_code
def yX11_opens : MethodName := ⟨RX11, "opens", "(I)Z"⟩
abbrev cX11_strength : ByteArray := prog_13_method_19_code
def yX11_strength : MethodName := ⟨RX11, "strength", "(I)I"⟩
abbrev cX11_layDown : ByteArray := prog_13_method_20_code
def yX11_layDown : MethodName := ⟨RX11, "layDown", "(I)V"⟩
abbrev cX11_value : ByteArray := prog_13_method_21_code
def yX11_value : MethodName := ⟨RX11, "value", "()Z"⟩
abbrev cX11_term : ByteArray := prog_13_method_22_code
def yX11_term : MethodName := ⟨RX11, "term", "()Z"⟩
abbrev cX11_sum : ByteArray := prog_13_method_23_code
def yX11_sum : MethodName := ⟨RX11, "sum", "()Z"⟩
abbrev cX11_compare : ByteArray := prog_13_method_24_code
def yX11_compare : MethodName := ⟨RX11, "compare", "()Z"⟩
abbrev cX11_fact : ByteArray := prog_13_method_25_code
def yX11_fact : MethodName := ⟨RX11, "fact", "()Z"⟩
abbrev cX11_isInside : ByteArray := prog_13_method_26_code
def yX11_isInside : MethodName := ⟨RX11, "isInside", "()Z"⟩
abbrev cX11_closes : ByteArray := prog_13_method_27_code
def yX11_closes : MethodName := ⟨RX11, "closes", "()V"⟩
abbrev cX11_tested : ByteArray := prog_13_method_28_code
def yX11_tested : MethodName := ⟨RX11, "tested", "()Z"⟩
abbrev cX11_isGoHere : ByteArray := prog_13_method_29_code
def yX11_isGoHere : MethodName := ⟨RX11, "isGoHere", "()Z"⟩
abbrev cX11_cellHere : ByteArray := prog_13_method_30_code
def yX11_cellHere : MethodName := ⟨RX11, "cellHere", "(III)Z"⟩
abbrev cX11_isShowHere : ByteArray := prog_13_method_31_code
def yX11_isShowHere : MethodName := ⟨RX11, "isShowHere", "(I)Z"⟩
abbrev cX11_isRoadIn : ByteArray := prog_13_method_32_code
def yX11_isRoadIn : MethodName := ⟨RX11, "isRoadIn", "(I)Z"⟩
abbrev cX11_isCarIn : ByteArray := prog_13_method_33_code
def yX11_isCarIn : MethodName := ⟨RX11, "isCarIn", "(I)Z"⟩
abbrev cX11_isRoadHere : ByteArray := prog_13_method_34_code
def yX11_isRoadHere : MethodName := ⟨RX11, "isRoadHere", "(I)Z"⟩
abbrev cX11_isCarHere : ByteArray := prog_13_method_35_code
def yX11_isCarHere : MethodName := ⟨RX11, "isCarHere", "(I)Z"⟩
abbrev cX11_isGapHere : ByteArray := prog_13_method_36_code
def yX11_isGapHere : MethodName := ⟨RX11, "isGapHere", "()Z"⟩
abbrev cX11_showLineHere : ByteArray := prog_13_method_37_code
def yX11_showLineHere : MethodName := ⟨RX11, "showLineHere", "(I)Z"⟩
abbrev cX11_isShowWord : ByteArray := prog_13_method_38_code
def yX11_isShowWord : MethodName := ⟨RX11, "isShowWord", "()Z"⟩
abbrev cX11_clauseHere : ByteArray := prog_13_method_39_code
def yX11_clauseHere : MethodName := ⟨RX11, "clauseHere", "()Z"⟩
abbrev cX11_readsAll : ByteArray := prog_13_method_40_code
def yX11_readsAll : MethodName := ⟨RX11, "readsAll", "()Z"⟩
abbrev cX11_rule : ByteArray := prog_13_method_41_code
def yX11_rule : MethodName := ⟨RX11, "rule", "()I"⟩
abbrev cX11_show : ByteArray := prog_13_method_42_code
def yX11_show : MethodName := ⟨RX11, "show", "()I"⟩
abbrev cX11_isRule : ByteArray := prog_13_method_43_code
def yX11_isRule : MethodName := ⟨RX11, "isRule", "(I)Z"⟩
abbrev cX11_push : ByteArray := prog_13_method_44_code
def yX11_push : MethodName := ⟨RX11, "push", "(J)V"⟩
abbrev cX11_pop : ByteArray := prog_13_method_45_code
def yX11_pop : MethodName := ⟨RX11, "pop", "()J"⟩
abbrev cX11_one : ByteArray := prog_13_method_46_code
def yX11_one : MethodName := ⟨RX11, "one", "(IJJ)J"⟩
abbrev cX11_reckons : ByteArray := prog_13_method_47_code
def yX11_reckons : MethodName := ⟨RX11, "reckons", "(III)J"⟩
abbrev cX11_isShow : ByteArray := prog_13_method_48_code
def yX11_isShow : MethodName := ⟨RX11, "isShow", "()Z"⟩
abbrev cX11_isCell : ByteArray := prog_13_method_49_code
def yX11_isCell : MethodName := ⟨RX11, "isCell", "(I)Z"⟩
abbrev cX11_isRoad : ByteArray := prog_13_method_50_code
def yX11_isRoad : MethodName := ⟨RX11, "isRoad", "(I)Z"⟩
abbrev cX11_isCar : ByteArray := prog_13_method_51_code
def yX11_isCar : MethodName := ⟨RX11, "isCar", "(I)Z"⟩
abbrev cX11_isOn : ByteArray := prog_13_method_52_code
def yX11_isOn : MethodName := ⟨RX11, "isOn", "(I)Z"⟩
abbrev cX11_isCarOn : ByteArray := prog_13_method_53_code
def yX11_isCarOn : MethodName := ⟨RX11, "isCarOn", "(I)Z"⟩
abbrev cX11_cellOf : ByteArray := prog_13_method_54_code
def yX11_cellOf : MethodName := ⟨RX11, "cellOf", "(I)I"⟩
abbrev cX11_roadOf : ByteArray := prog_13_method_55_code
def yX11_roadOf : MethodName := ⟨RX11, "roadOf", "(I)I"⟩
abbrev cX11_fuelOf : ByteArray := prog_13_method_56_code
def yX11_fuelOf : MethodName := ⟨RX11, "fuelOf", "(I)I"⟩
abbrev cX11_onesOn : ByteArray := prog_13_method_57_code
def yX11_onesOn : MethodName := ⟨RX11, "onesOn", "()I"⟩
abbrev cX11_manyOn : ByteArray := prog_13_method_58_code
def yX11_manyOn : MethodName := ⟨RX11, "manyOn", "()I"⟩
abbrev cX11_gaps : ByteArray := prog_13_method_59_code
def yX11_gaps : MethodName := ⟨RX11, "gaps", "()I"⟩
abbrev cX11_waitAll : ByteArray := prog_13_method_60_code
def yX11_waitAll : MethodName := ⟨RX11, "waitAll", "()I"⟩
abbrev cX11_carIn : ByteArray := prog_13_method_61_code
def yX11_carIn : MethodName := ⟨RX11, "carIn", "(I)I"⟩
abbrev cX11_isFree : ByteArray := prog_13_method_62_code
def yX11_isFree : MethodName := ⟨RX11, "isFree", "(I)Z"⟩
abbrev cX11_stands : ByteArray := prog_13_method_63_code
def yX11_stands : MethodName := ⟨RX11, "stands", "(IIIII)V"⟩
abbrev cX11_leaves : ByteArray := prog_13_method_64_code
def yX11_leaves : MethodName := ⟨RX11, "leaves", "(I)V"⟩
abbrev cX11_begins : ByteArray := prog_13_method_65_code
def yX11_begins : MethodName := ⟨RX11, "begins", "()V"⟩
abbrev cX11_force : ByteArray := prog_13_method_66_code
def yX11_force : MethodName := ⟨RX11, "force", "(I)I"⟩
abbrev cX11_car : ByteArray := prog_13_method_67_code
def yX11_car : MethodName := ⟨RX11, "car", "(II)I"⟩
abbrev cX11_road : ByteArray := prog_13_method_68_code
def yX11_road : MethodName := ⟨RX11, "road", "(II)I"⟩
abbrev cX11_gapIn : ByteArray := prog_13_method_69_code
def yX11_gapIn : MethodName := ⟨RX11, "gapIn", "(I)I"⟩
abbrev cX11_summedBy : ByteArray := prog_13_method_70_code
def yX11_summedBy : MethodName := ⟨RX11, "summedBy", "(I)J"⟩
abbrev cX11_behindOf : ByteArray := prog_13_method_71_code
def yX11_behindOf : MethodName := ⟨RX11, "behindOf", "(I)I"⟩
abbrev cX11_isLetOff : ByteArray := prog_13_method_72_code
def yX11_isLetOff : MethodName := ⟨RX11, "isLetOff", "(I)Z"⟩
abbrev cX11_drives : ByteArray := prog_13_method_73_code
def yX11_drives : MethodName := ⟨RX11, "drives", "(I)Z"⟩
abbrev cX11_comesOn : ByteArray := prog_13_method_74_code
def yX11_comesOn : MethodName := ⟨RX11, "comesOn", "(I)V"⟩
abbrev cX11_waits : ByteArray := prog_13_method_75_code
def yX11_waits : MethodName := ⟨RX11, "waits", "(I)V"⟩
abbrev cX11_passes : ByteArray := prog_13_method_76_code
def yX11_passes : MethodName := ⟨RX11, "passes", "()I"⟩
abbrev cX11_passesAll : ByteArray := prog_13_method_77_code
def yX11_passesAll : MethodName := ⟨RX11, "passesAll", "(I)V"⟩
abbrev cX11_keepsAct : ByteArray := prog_13_method_78_code
def yX11_keepsAct : MethodName := ⟨RX11, "keepsAct", "()V"⟩
abbrev cX11_undo : ByteArray := prog_13_method_79_code
def yX11_undo : MethodName := ⟨RX11, "undo", "()I"⟩
abbrev cX11_step : ByteArray := prog_13_method_80_code
def yX11_step : MethodName := ⟨RX11, "step", "()I"⟩
abbrev cX11_pole : ByteArray := prog_13_method_81_code
def yX11_pole : MethodName := ⟨RX11, "pole", "(II)I"⟩
abbrev cX11_crosses : ByteArray := prog_13_method_82_code
def yX11_crosses : MethodName := ⟨RX11, "crosses", "(I)V"⟩
abbrev cX11_grass : ByteArray := prog_13_method_83_code
def yX11_grass : MethodName := ⟨RX11, "grass", "(I)I"⟩
abbrev cX11_fill : ByteArray := prog_13_method_84_code
def yX11_fill : MethodName := ⟨RX11, "fill", "(I)I"⟩
abbrev cX11_wish : ByteArray := prog_13_method_85_code
def yX11_wish : MethodName := ⟨RX11, "wish", "(II)I"⟩
abbrev cX11_keeps : ByteArray := prog_13_method_86_code
def yX11_keeps : MethodName := ⟨RX11, "keeps", "()V"⟩
abbrev cX11_laysBack : ByteArray := prog_13_method_87_code
def yX11_laysBack : MethodName := ⟨RX11, "laysBack", "()V"⟩
abbrev cX11_ahead : ByteArray := prog_13_method_88_code
def yX11_ahead : MethodName := ⟨RX11, "ahead", "(III)I"⟩
abbrev cX11_lets : ByteArray := prog_13_method_89_code
def yX11_lets : MethodName := ⟨RX11, "lets", "(I)I"⟩
abbrev cX11_still : ByteArray := prog_13_method_90_code
def yX11_still : MethodName := ⟨RX11, "still", "()I"⟩
abbrev cX11_offIn : ByteArray := prog_13_method_91_code
def yX11_offIn : MethodName := ⟨RX11, "offIn", "(II)I"⟩
abbrev cX11_leastFuel : ByteArray := prog_13_method_92_code
def yX11_leastFuel : MethodName := ⟨RX11, "leastFuel", "(II)I"⟩
abbrev cX11_offAllIn : ByteArray := prog_13_method_93_code
def yX11_offAllIn : MethodName := ⟨RX11, "offAllIn", "(I)I"⟩
abbrev cX11_weighs : ByteArray := prog_13_method_94_code
def yX11_weighs : MethodName := ⟨RX11, "weighs", "(II)V"⟩
abbrev cX11_bestGrass : ByteArray := prog_13_method_95_code
def yX11_bestGrass : MethodName := ⟨RX11, "bestGrass", "(II)I"⟩
abbrev cX11_bestFill : ByteArray := prog_13_method_96_code
def yX11_bestFill : MethodName := ⟨RX11, "bestFill", "(II)I"⟩
abbrev cX11_closed : ByteArray := prog_13_method_97_code
def yX11_closed : MethodName := ⟨RX11, "closed", "(II)I"⟩
abbrev cX11_offByRow : ByteArray := prog_13_method_98_code
def yX11_offByRow : MethodName := ⟨RX11, "offByRow", "(II)I"⟩
abbrev cX11_row : ByteArray := prog_13_method_99_code
def yX11_row : MethodName := ⟨RX11, "row", "(II)I"⟩
abbrev cX11_longest : ByteArray := prog_13_method_100_code
def yX11_longest : MethodName := ⟨RX11, "longest", "(II)I"⟩
abbrev cX11_isRest : ByteArray := prog_13_method_101_code
def yX11_isRest : MethodName := ⟨RX11, "isRest", "(II)Z"⟩
abbrev cX11_fillsRest : ByteArray := prog_13_method_102_code
def yX11_fillsRest : MethodName := ⟨RX11, "fillsRest", "(IIII)V"⟩
abbrev cX11_isTwo : ByteArray := prog_13_method_103_code
def yX11_isTwo : MethodName := ⟨RX11, "isTwo", "(I)Z"⟩
abbrev cX11_rests : ByteArray := prog_13_method_104_code
def yX11_rests : MethodName := ⟨RX11, "rests", "(IIII)I"⟩
abbrev cX11_areAlike : ByteArray := prog_13_method_105_code
def yX11_areAlike : MethodName := ⟨RX11, "areAlike", "(II)Z"⟩
abbrev cX11_ring : ByteArray := prog_13_method_106_code
def yX11_ring : MethodName := ⟨RX11, "ring", "(I)I"⟩
abbrev cX11_shortOf : ByteArray := prog_13_method_107_code
def yX11_shortOf : MethodName := ⟨RX11, "shortOf", "(I)I"⟩
abbrev cX11_litres : ByteArray := prog_13_method_108_code
def yX11_litres : MethodName := ⟨RX11, "litres", "(II)I"⟩
abbrev cX11_note : ByteArray := prog_13_method_109_code
def yX11_note : MethodName := ⟨RX11, "note", "(III)I"⟩
abbrev cX11_cellOn : ByteArray := prog_13_method_110_code
def yX11_cellOn : MethodName := ⟨RX11, "cellOn", "(I)I"⟩
abbrev cX11_areNotesSo : ByteArray := prog_13_method_111_code
def yX11_areNotesSo : MethodName := ⟨RX11, "areNotesSo", "(I)Z"⟩
abbrev cX11_areAllSo : ByteArray := prog_13_method_112_code
def yX11_areAllSo : MethodName := ⟨RX11, "areAllSo", "(II)Z"⟩
abbrev cX11_wished : ByteArray := prog_13_method_113_code
def yX11_wished : MethodName := ⟨RX11, "wished", "(II)I"⟩
abbrev cX11_fillsFits : ByteArray := prog_13_method_114_code
def yX11_fillsFits : MethodName := ⟨RX11, "fillsFits", "(I)V"⟩
abbrev cX11_ruled : ByteArray := prog_13_method_115_code
def yX11_ruled : MethodName := ⟨RX11, "ruled", "(I)I"⟩
abbrev cX11_alikeAt : ByteArray := prog_13_method_116_code
def yX11_alikeAt : MethodName := ⟨RX11, "alikeAt", "(I)I"⟩
abbrev cX11_look : ByteArray := prog_13_method_117_code
def yX11_look : MethodName := ⟨RX11, "look", "(II)I"⟩
abbrev cX11_seed : ByteArray := prog_13_method_118_code
def yX11_seed : MethodName := ⟨RX11, "seed", "(I)I"⟩
abbrev cX11_draw : ByteArray := prog_13_method_119_code
def yX11_draw : MethodName := ⟨RX11, "draw", "(I)I"⟩
abbrev cX11_shows : ByteArray := prog_13_method_120_code
def yX11_shows : MethodName := ⟨RX11, "shows", "(IIII)I"⟩
abbrev cX11_count : ByteArray := prog_13_method_121_code
def yX11_count : MethodName := ⟨RX11, "count", "(I)I"⟩
abbrev cX11_image : ByteArray := prog_13_method_122_code
def yX11_image : MethodName := ⟨RX11, "image", "(I)I"⟩
abbrev cX11_back : ByteArray := prog_13_method_123_code
def yX11_back : MethodName := ⟨RX11, "back", "(I)I"⟩
def RJx145de : String := "java/io/Serializable"
def TJx145de : u_T := fun k => match k with
  | _ => ("", "", "", false)
def tyJx145de : Nat → FieldType := fun k => match k with
  | _ => .int
abbrev wsJx145de0 : List Cond := u_ws RJx145de TJx145de 0
theorem nmJx145de : ∀ a, a < 0 → ∀ b, b < 0 → a ≠ b → (TJx145de a).2.1 ≠ (TJx145de b).2.1 := by decide +kernel
theorem tyJx145de_ok : ∀ k, k < 0 → parseFieldDescriptor (TJx145de k).2.2.1 = some (tyJx145de k) := by decide +kernel
def RJx9f9b0 : String := "java/lang/CharSequence"
def TJx9f9b0 : u_T := fun k => match k with
  | _ => ("", "", "", false)
def tyJx9f9b0 : Nat → FieldType := fun k => match k with
  | _ => .int
abbrev wsJx9f9b00 : List Cond := u_ws RJx9f9b0 TJx9f9b0 0
theorem nmJx9f9b0 : ∀ a, a < 0 → ∀ b, b < 0 → a ≠ b → (TJx9f9b0 a).2.1 ≠ (TJx9f9b0 b).2.1 := by decide +kernel
theorem tyJx9f9b0_ok : ∀ k, k < 0 → parseFieldDescriptor (TJx9f9b0 k).2.2.1 = some (tyJx9f9b0 k) := by decide +kernel
def RJx8e188 : String := "java/lang/Cloneable"
def TJx8e188 : u_T := fun k => match k with
  | _ => ("", "", "", false)
def tyJx8e188 : Nat → FieldType := fun k => match k with
  | _ => .int
abbrev wsJx8e1880 : List Cond := u_ws RJx8e188 TJx8e188 0
theorem nmJx8e188 : ∀ a, a < 0 → ∀ b, b < 0 → a ≠ b → (TJx8e188 a).2.1 ≠ (TJx8e188 b).2.1 := by decide +kernel
theorem tyJx8e188_ok : ∀ k, k < 0 → parseFieldDescriptor (TJx8e188 k).2.2.1 = some (tyJx8e188 k) := by decide +kernel
def RJxb160c : String := "java/lang/Comparable"
def TJxb160c : u_T := fun k => match k with
  | _ => ("", "", "", false)
def tyJxb160c : Nat → FieldType := fun k => match k with
  | _ => .int
abbrev wsJxb160c0 : List Cond := u_ws RJxb160c TJxb160c 0
theorem nmJxb160c : ∀ a, a < 0 → ∀ b, b < 0 → a ≠ b → (TJxb160c a).2.1 ≠ (TJxb160c b).2.1 := by decide +kernel
theorem tyJxb160c_ok : ∀ k, k < 0 → parseFieldDescriptor (TJxb160c k).2.2.1 = some (tyJxb160c k) := by decide +kernel
def RJ6 : String := "java/lang/Integer"
def TJ6 : u_T := fun k => match k with
  | _ => ("", "", "", false)
def tyJ6 : Nat → FieldType := fun k => match k with
  | _ => .int
abbrev wsJ60 : List Cond := u_ws RJ6 TJ6 0
theorem nmJ6 : ∀ a, a < 0 → ∀ b, b < 0 → a ≠ b → (TJ6 a).2.1 ≠ (TJ6 b).2.1 := by decide +kernel
theorem tyJ6_ok : ∀ k, k < 0 → parseFieldDescriptor (TJ6 k).2.2.1 = some (tyJ6 k) := by decide +kernel
abbrev cJ6_bitCount_0f7a4 : ByteArray := prog_15_method_49_code
def yJ6_bitCount_0f7a4 : MethodName := ⟨RJ6, "bitCount", "(I)I"⟩
def RJ9 : String := "java/lang/Math"
def TJ9 : u_T := fun k => match k with
  | _ => ("", "", "", false)
def tyJ9 : Nat → FieldType := fun k => match k with
  | _ => .int
abbrev wsJ90 : List Cond := u_ws RJ9 TJ9 0
theorem nmJ9 : ∀ a, a < 0 → ∀ b, b < 0 → a ≠ b → (TJ9 a).2.1 ≠ (TJ9 b).2.1 := by decide +kernel
theorem tyJ9_ok : ∀ k, k < 0 → parseFieldDescriptor (TJ9 k).2.2.1 = some (tyJ9 k) := by decide +kernel
abbrev cJ9_floorMod_7cf53 : ByteArray := prog_16_method_50_code
def yJ9_floorMod_7cf53 : MethodName := ⟨RJ9, "floorMod", "(II)I"⟩
abbrev cJ9_max_7cf53 : ByteArray := prog_16_method_65_code
def yJ9_max_7cf53 : MethodName := ⟨RJ9, "max", "(II)I"⟩
abbrev cJ9_min_7cf53 : ByteArray := prog_16_method_69_code
def yJ9_min_7cf53 : MethodName := ⟨RJ9, "min", "(II)I"⟩
def RJ0 : String := "java/lang/String"
def TJ0 : u_T := fun k => match k with
  | _ => ("", "", "", false)
def tyJ0 : Nat → FieldType := fun k => match k with
  | _ => .int
abbrev wsJ00 : List Cond := u_ws RJ0 TJ0 0
theorem nmJ0 : ∀ a, a < 0 → ∀ b, b < 0 → a ≠ b → (TJ0 a).2.1 ≠ (TJ0 b).2.1 := by decide +kernel
theorem tyJ0_ok : ∀ k, k < 0 → parseFieldDescriptor (TJ0 k).2.2.1 = some (tyJ0 k) := by decide +kernel
abbrev cJ0_length_8abf5 : ByteArray := prog_17_method_54_code
def yJ0_length_8abf5 : MethodName := ⟨RJ0, "length", "()I"⟩
abbrev cJ0_charAt_5068e : ByteArray := prog_17_method_56_code
def yJ0_charAt_5068e : MethodName := ⟨RJ0, "charAt", "(I)C"⟩
abbrev cJ0_coder_7d493 : ByteArray := prog_17_method_152_code
def yJ0_coder_7d493 : MethodName := ⟨RJ0, "coder", "()B"⟩
abbrev cJ0_isLatin1_aae02 : ByteArray := prog_17_method_154_code
def yJ0_isLatin1_aae02 : MethodName := ⟨RJ0, "isLatin1", "()Z"⟩
abbrev cJ0_checkIndex_df160 : ByteArray := prog_17_method_155_code
def yJ0_checkIndex_df160 : MethodName := ⟨RJ0, "checkIndex", "(II)V"⟩
def RJ1 : String := "java/lang/StringLatin1"
def TJ1 : u_T := fun k => match k with
  | _ => ("", "", "", false)
def tyJ1 : Nat → FieldType := fun k => match k with
  | _ => .int
abbrev wsJ10 : List Cond := u_ws RJ1 TJ1 0
theorem nmJ1 : ∀ a, a < 0 → ∀ b, b < 0 → a ≠ b → (TJ1 a).2.1 ≠ (TJ1 b).2.1 := by decide +kernel
theorem tyJ1_ok : ∀ k, k < 0 → parseFieldDescriptor (TJ1 k).2.2.1 = some (tyJ1 k) := by decide +kernel
abbrev cJ1_charAt_3b067 : ByteArray := prog_18_method_2_code
def yJ1_charAt_3b067 : MethodName := ⟨RJ1, "charAt", "([BI)C"⟩
def RJ2 : String := "java/lang/StringUTF16"
def TJ2 : u_T := fun k => match k with
  | _ => ("", "", "", false)
def tyJ2 : Nat → FieldType := fun k => match k with
  | _ => .int
abbrev wsJ20 : List Cond := u_ws RJ2 TJ2 0
theorem nmJ2 : ∀ a, a < 0 → ∀ b, b < 0 → a ≠ b → (TJ2 a).2.1 ≠ (TJ2 b).2.1 := by decide +kernel
theorem tyJ2_ok : ∀ k, k < 0 → parseFieldDescriptor (TJ2 k).2.2.1 = some (tyJ2 k) := by decide +kernel
abbrev cJ2_getChar_3b067 : ByteArray := prog_19_method_5_code
def yJ2_getChar_3b067 : MethodName := ⟨RJ2, "getChar", "([BI)C"⟩
abbrev cJ2_length_9d52b : ByteArray := prog_19_method_6_code
def yJ2_length_9d52b : MethodName := ⟨RJ2, "length", "([B)I"⟩
abbrev cJ2_charAt_3b067 : ByteArray := prog_19_method_83_code
def yJ2_charAt_3b067 : MethodName := ⟨RJ2, "charAt", "([BI)C"⟩
abbrev cJ2_checkIndex_2214a : ByteArray := prog_19_method_91_code
def yJ2_checkIndex_2214a : MethodName := ⟨RJ2, "checkIndex", "(I[B)V"⟩
def RJ10 : String := "java/lang/System"
def TJ10 : u_T := fun k => match k with
  | _ => ("", "", "", false)
def tyJ10 : Nat → FieldType := fun k => match k with
  | _ => .int
abbrev wsJ100 : List Cond := u_ws RJ10 TJ10 0
theorem nmJ10 : ∀ a, a < 0 → ∀ b, b < 0 → a ≠ b → (TJ10 a).2.1 ≠ (TJ10 b).2.1 := by decide +kernel
theorem tyJ10_ok : ∀ k, k < 0 → parseFieldDescriptor (TJ10 k).2.2.1 = some (tyJ10 k) := by decide +kernel
def RJxfd54e : String := "java/lang/constant/Constable"
def TJxfd54e : u_T := fun k => match k with
  | _ => ("", "", "", false)
def tyJxfd54e : Nat → FieldType := fun k => match k with
  | _ => .int
abbrev wsJxfd54e0 : List Cond := u_ws RJxfd54e TJxfd54e 0
theorem nmJxfd54e : ∀ a, a < 0 → ∀ b, b < 0 → a ≠ b → (TJxfd54e a).2.1 ≠ (TJxfd54e b).2.1 := by decide +kernel
theorem tyJxfd54e_ok : ∀ k, k < 0 → parseFieldDescriptor (TJxfd54e k).2.2.1 = some (tyJxfd54e k) := by decide +kernel
def RJx3cf43 : String := "java/lang/constant/ConstantDesc"
def TJx3cf43 : u_T := fun k => match k with
  | _ => ("", "", "", false)
def tyJx3cf43 : Nat → FieldType := fun k => match k with
  | _ => .int
abbrev wsJx3cf430 : List Cond := u_ws RJx3cf43 TJx3cf43 0
theorem nmJx3cf43 : ∀ a, a < 0 → ∀ b, b < 0 → a ≠ b → (TJx3cf43 a).2.1 ≠ (TJx3cf43 b).2.1 := by decide +kernel
theorem tyJx3cf43_ok : ∀ k, k < 0 → parseFieldDescriptor (TJx3cf43 k).2.2.1 = some (tyJx3cf43 k) := by decide +kernel
def RJ7 : String := "java/util/Arrays"
def TJ7 : u_T := fun k => match k with
  | _ => ("", "", "", false)
def tyJ7 : Nat → FieldType := fun k => match k with
  | _ => .int
abbrev wsJ70 : List Cond := u_ws RJ7 TJ7 0
theorem nmJ7 : ∀ a, a < 0 → ∀ b, b < 0 → a ≠ b → (TJ7 a).2.1 ≠ (TJ7 b).2.1 := by decide +kernel
theorem tyJ7_ok : ∀ k, k < 0 → parseFieldDescriptor (TJ7 k).2.2.1 = some (tyJ7 k) := by decide +kernel
abbrev cJ7_fill_53178 : ByteArray := prog_21_method_103_code
def yJ7_fill_53178 : MethodName := ⟨RJ7, "fill", "([II)V"⟩
abbrev cJ7_copyOf_59c91 : ByteArray := prog_21_method_123_code
def yJ7_copyOf_59c91 : MethodName := ⟨RJ7, "copyOf", "([II)[I"⟩
def RJ3 : String := "jdk/internal/util/Preconditions"
def TJ3 : u_T := fun k => match k with
  | _ => ("", "", "", false)
def tyJ3 : Nat → FieldType := fun k => match k with
  | _ => .int
abbrev wsJ30 : List Cond := u_ws RJ3 TJ3 0
theorem nmJ3 : ∀ a, a < 0 → ∀ b, b < 0 → a ≠ b → (TJ3 a).2.1 ≠ (TJ3 b).2.1 := by decide +kernel
theorem tyJ3_ok : ∀ k, k < 0 → parseFieldDescriptor (TJ3 k).2.2.1 = some (tyJ3 k) := by decide +kernel
abbrev cJ3_checkIndex_8e157 : ByteArray := prog_22_method_11_code
def yJ3_checkIndex_8e157 : MethodName := ⟨RJ3, "checkIndex", "(IILjava/util/function/BiFunction;)I"⟩
def RL : String := "LetOffLaw"
abbrev cL_law : ByteArray := code
def yL_law : MethodName := ⟨RL, "law", "([I)Z"⟩
abbrev vwCl : List vw_C := [(RX0, TX0, 7), (RX1, TX1, 6), (RX2, TX2, 4), (RX3, TX3, 6), (RX4, TX4, 7), (RX5, TX5, 9), (RX6, TX6, 4), (RX7, TX7, 1), (RX8, TX8, 4), (RX9, TX9, 1), (RX10, TX10, 20), (RX11, TX11, 40)]
end
section
/-! A small machine of my own over numbers: what the bytecode does, said on lists, whole numbers and a heap of functions. -/
/-- a value: an int, a long, a reference, nothing -/
abbrev ZV : Type := Int ⊕ Int ⊕ Option Nat ⊕ Unit
abbrev zi (x : Int) : ZV := .inl x
abbrev zl (x : Int) : ZV := .inr (.inl x)
abbrev zr (x : Option Nat) : ZV := .inr (.inr (.inl x))
abbrev zu : ZV := .inr (.inr (.inr ()))
/-- sizes (cells, slots) and the kind and length of each cell -/
abbrev ZS : Type := (Nat × Nat) × (Nat → Nat × Nat)
abbrev ZF : Type := Nat → Nat → Int
abbrev ZG : Type := Nat → Nat → Option Nat
abbrev ZH : Type := ZS × ZF × ZG
def up2 {α : Type} (f : Nat → Nat → α) (a i : Nat) (v : α) : Nat → Nat → α := fun b j => if b = a ∧ j = i then v else f b j
theorem up2_same {α : Type} (f : Nat → Nat → α) (a i : Nat) (v : α) : up2 f a i v a i = v := by simp [up2]
theorem up2_ne {α : Type} (f : Nat → Nat → α) {a i b j : Nat} (v : α) (h : ¬ (b = a ∧ j = i)) : up2 f a i v b j = f b j := by simp [up2, h]
/-- cell k is an object of class c -/
def zO (σ : ZS) (k c : Nat) : Prop := k < σ.1.1 ∧ (σ.2 k).1 = c
/-- cell k is an array of kind t with n elements -/
def zA (σ : ZS) (k t n : Nat) : Prop := k < σ.1.1 ∧ σ.2 k = (t, n)
def zNewS (σ : ZS) (t n : Nat) : ZS := ((σ.1.1 + 1, σ.1.2 + n), fun k => if k = σ.1.1 then (t, n) else σ.2 k)
def zNewF (σ : ZS) (f : ZF) : ZF := fun k j => if k = σ.1.1 then 0 else f k j
def zNewG (σ : ZS) (g : ZG) : ZG := fun k j => if k = σ.1.1 then none else g k j
def wr (x : Int) : Int := (x + 2147483648) % 4294967296 - 2147483648
def wl (x : Int) : Int := (x + 9223372036854775808) % 18446744073709551616 - 9223372036854775808
theorem wr_id {x : Int} (h : -2147483648 ≤ x ∧ x ≤ 2147483647) : wr x = x := by unfold wr; omega
theorem wl_id {x : Int} (h : -9223372036854775808 ≤ x ∧ x ≤ 9223372036854775807) : wl x = x := by unfold wl; omega
def z_and (x y : Int) : Int := (Int32.ofInt x &&& Int32.ofInt y).toInt
def z_or (x y : Int) : Int := (Int32.ofInt x ||| Int32.ofInt y).toInt
def z_xor (x y : Int) : Int := (Int32.ofInt x ^^^ Int32.ofInt y).toInt
def z_shl (x y : Int) : Int := (Int32.ofInt x <<< Int32.ofInt y).toInt
def z_shr (x y : Int) : Int := (Int32.ofInt x >>> Int32.ofInt y).toInt
def z_ushr (x y : Int) : Int := ((Int32.ofInt x).toUInt32 >>> ((Int32.ofInt y).toUInt32 &&& Int32.toUInt32 31)).toInt32.toInt
def z_land (x y : Int) : Int := (Int64.ofInt x &&& Int64.ofInt y).toInt
def z_lor (x y : Int) : Int := (Int64.ofInt x ||| Int64.ofInt y).toInt
def z_lshl (x y : Int) : Int := (Int64.ofInt x <<< ((Int32.ofInt y).toInt64 &&& 63)).toInt
def z_div (x y : Int) : Int := (wr x).tdiv (wr y)
def z_rem (x y : Int) : Int := (wr x).tmod (wr y)
def z_ldiv (x y : Int) : Int := (wl x).tdiv (wl y)
def z_lrem (x y : Int) : Int := (wl x).tmod (wl y)
def z_cmp (x y : Int) : Int := if wl y < wl x then 1 else if wl x = wl y then 0 else -1
def z_b (x : Int) : Int := (x + 128) % 256 - 128
def z_cm (c : Jvm.ClassFile.Cond) (x y : Int) : Bool := match c with
  | .eq => decide (wr x = wr y)
  | .ne => decide (wr x ≠ wr y)
  | .lt => decide (wr x < wr y)
  | .ge => decide (wr y ≤ wr x)
  | .gt => decide (wr y < wr x)
  | .le => decide (wr x ≤ wr y)
def zget : List ZV → Nat → Option ZV
  | [], _ => none
  | u :: _, 0 => some u
  | _ :: t, n + 1 => zget t n
def zset : List ZV → Nat → ZV → List ZV
  | [], _, _ => []
  | _ :: t, 0, v => v :: t
  | u :: t, n + 1, v => u :: zset t n v
/-- what stays of a slot when the one behind it is written: a long goes -/
def zkeep (u : ZV) : ZV := match u with
  | .inr (.inl _) => zu
  | u => u
def zst1 : List ZV → Nat → ZV → List ZV
  | [], _, _ => []
  | _ :: t, 0, v => v :: t
  | u :: t, 1, v => zkeep u :: zset t 0 v
  | u :: t, n + 2, v => u :: zst1 t (n + 1) v
/-- a long into two slots -/
def zst2 : List ZV → Nat → ZV → List ZV
  | [], _, _ => []
  | _ :: t, 0, v => v :: zset t 0 zu
  | u :: t, 1, v => zkeep u :: zset (zset t 0 v) 1 zu
  | u :: t, n + 2, v => u :: zst2 t (n + 1) v
def zargs : List ZV → List ZV
  | [] => []
  | .inr (.inl x) :: t => zl x :: zu :: zargs t
  | v :: t => v :: zargs t
def zent (n : Nat) (as : List ZV) : List ZV := zargs as ++ List.replicate (n - (zargs as).length) zu
/-- an instruction: itself, the place behind it (or its goal), numbers that say what it means -/
abbrev ZE : Type := Instr × Nat × Nat × Nat × Nat × Int
abbrev ZO : Type := (Nat × List ZV × List ZV × ZH) ⊕ (Nat × List ZV × Nat × List ZV) ⊕ Option ZV
def znth {α : Type} : List α → Nat → Option α
  | [], _ => none
  | a :: _, 0 => some a
  | _ :: t, n + 1 => znth t n
abbrev ZT : Type := List (List (Option ZE))
def zlk (T : ZT) (pc : Nat) : Option ZE := match znth T (pc / 16) with
  | none => none
  | some r => match znth r (pc % 16) with
    | none => none
    | some e => e
/-- the texts of the String constants -/
def zstr (k : Nat) : List Int := match k with
  | 0 => [115, 104, 111, 119, 32, 114, 111, 97, 100, 32, 99, 97, 114, 32, 103, 97, 112]
  | 1 => [110, 111, 116]
  | 2 => [97, 110, 100, 32, 111, 114]
  | 3 => [103, 111]
  | 4 => [105, 102]
  | _ => [99, 97, 114, 32, 114, 111, 97, 100, 32, 102, 117, 101, 108, 32, 119, 97, 105, 116, 105, 110, 103, 32, 98, 101, 104, 105, 110, 100, 32, 111, 110, 32, 111, 102, 102, 32, 114, 111, 117, 110, 100, 115, 32, 101, 118, 101, 114, 121, 32, 115, 116, 101, 112]
def zX : Nat := 10000000
def zcpy (f : ZF) (a0 a sp dp n : Nat) : ZF := fun k j => if k = a ∧ dp ≤ j ∧ j < dp + n then f a0 (sp + (j - dp)) else f k j
/-- jump -/
def zgo (q : Nat) (L st : List ZV) (h : ZH) : Option ZO := some (.inl (q, L, st, h))
def z_if (c : Bool) (t q : Nat) (L st : List ZV) (h : ZH) : Option ZO := if c = true then zgo t L st h else zgo q L st h
def z_get (q a b c : Nat) (L st : List ZV) (h : ZH) : Option ZO := match st with
  | .inr (.inr (.inl (some k))) :: st => if k < h.1.1.1 ∧ (h.1.2 k).1 = c then (if b = 1 then zgo q L (zl (h.2.1 k a) :: st) h else if b = 2 then zgo q L (zr (h.2.2 k a) :: st) h else zgo q L (zi (h.2.1 k a) :: st) h) else none
  | _ => none
def z_put (q a b c : Nat) (L st : List ZV) (h : ZH) : Option ZO := match st with
  | .inl x :: .inr (.inr (.inl (some k))) :: st => if (k < h.1.1.1 ∧ (h.1.2 k).1 = c) ∧ (b = 0 ∨ (b = 3 ∧ (x = 0 ∨ x = 1))) then zgo q L st (h.1, up2 h.2.1 k a x, h.2.2) else none
  | .inr (.inl x) :: .inr (.inr (.inl (some k))) :: st => if (k < h.1.1.1 ∧ (h.1.2 k).1 = c) ∧ b = 1 then zgo q L st (h.1, up2 h.2.1 k a x, h.2.2) else none
  | .inr (.inr (.inl x)) :: .inr (.inr (.inl (some k))) :: st => if (k < h.1.1.1 ∧ (h.1.2 k).1 = c) ∧ b = 2 then zgo q L st (h.1, h.2.1, up2 h.2.2 k a x) else none
  | _ => none
/-- array element read: kind t -/
def z_ald (t q : Nat) (L st : List ZV) (h : ZH) : Option ZO := match st with
  | .inl i :: .inr (.inr (.inl (some k))) :: st => if (k < h.1.1.1 ∧ (h.1.2 k).1 = t) ∧ 0 ≤ i ∧ i < ((h.1.2 k).2 : Int) then (if t = 103 then zgo q L (zl (h.2.1 k i.toNat) :: st) h else if 110 ≤ t then zgo q L (zr (h.2.2 k i.toNat) :: st) h else zgo q L (zi (h.2.1 k i.toNat) :: st) h) else none
  | _ => none
def z_ast (t q : Nat) (L st : List ZV) (h : ZH) : Option ZO := match st with
  | .inl x :: .inl i :: .inr (.inr (.inl (some k))) :: st => if ((k < h.1.1.1 ∧ (h.1.2 k).1 = t) ∧ 0 ≤ i ∧ i < ((h.1.2 k).2 : Int)) ∧ (t = 100 ∨ (t = 101 ∧ -128 ≤ x ∧ x ≤ 127) ∨ (t = 102 ∧ (x = 0 ∨ x = 1))) then zgo q L st (h.1, up2 h.2.1 k i.toNat x, h.2.2) else none
  | .inr (.inl x) :: .inl i :: .inr (.inr (.inl (some k))) :: st => if ((k < h.1.1.1 ∧ (h.1.2 k).1 = t) ∧ 0 ≤ i ∧ i < ((h.1.2 k).2 : Int)) ∧ t = 103 then zgo q L st (h.1, up2 h.2.1 k i.toNat x, h.2.2) else none
  | .inr (.inr (.inl (some x))) :: .inl i :: .inr (.inr (.inl (some k))) :: st => if ((k < h.1.1.1 ∧ (h.1.2 k).1 = t) ∧ 0 ≤ i ∧ i < ((h.1.2 k).2 : Int)) ∧ 110 ≤ t ∧ x < h.1.1.1 ∧ (h.1.2 x).1 + 110 = t then zgo q L st (h.1, h.2.1, up2 h.2.2 k i.toNat (some x)) else none
  | _ => none
/-- a new cell of kind t with n slots -/
def z_new (t n q : Nat) (L st : List ZV) (h : ZH) : Option ZO := if h.1.1.1 < 1000000 then zgo q L (zr (some h.1.1.1) :: st) (zNewS h.1 t n, zNewF h.1 h.2.1, zNewG h.1 h.2.2) else none
def z_newa (t q : Nat) (L st : List ZV) (h : ZH) : Option ZO := match st with
  | .inl n :: st => if 0 ≤ n ∧ n ≤ 100000 then z_new t n.toNat q L st h else none
  | _ => none
def z_len (q : Nat) (L st : List ZV) (h : ZH) : Option ZO := match st with
  | .inr (.inr (.inl (some k))) :: st => if k < h.1.1.1 ∧ 100 ≤ (h.1.2 k).1 ∧ (h.1.2 k).2 ≤ 2147483647 then zgo q L (zi ((h.1.2 k).2 : Int) :: st) h else none
  | _ => none
/-- what is built in: Object's constructor, a text's length and signs, arraycopy, clone of an int array -/
def z_bi (a q : Nat) (L st : List ZV) (h : ZH) : Option ZO := match a with
  | 1000 => (match st with
    | .inr (.inr (.inl (some _))) :: st => zgo q L st h
    | _ => none)
  | 1001 => (match st with
    | .inr (.inr (.inl (some k))) :: st => if zX ≤ k ∧ k < zX + 6 then zgo q L (zi ((zstr (k - zX)).length : Int) :: st) h else none
    | _ => none)
  | 1002 => (match st with
    | .inl i :: .inr (.inr (.inl (some k))) :: st => if (zX ≤ k ∧ k < zX + 6) ∧ 0 ≤ i ∧ i < ((zstr (k - zX)).length : Int) then zgo q L (zi ((zstr (k - zX)).getD i.toNat 0) :: st) h else none
    | _ => none)
  | 1003 => (match st with
    | .inl n :: .inl dp :: .inr (.inr (.inl (some k))) :: .inl sp :: .inr (.inr (.inl (some k0))) :: st => if ((k < h.1.1.1 ∧ k0 < h.1.1.1) ∧ (h.1.2 k0).1 = (h.1.2 k).1 ∧ ((h.1.2 k).1 = 100 ∨ (h.1.2 k).1 = 101) ∧ (h.1.2 k).2 ≤ 2147483647 ∧ (h.1.2 k0).2 ≤ 2147483647) ∧ (0 ≤ sp ∧ 0 ≤ dp ∧ 0 ≤ n ∧ sp + n ≤ ((h.1.2 k0).2 : Int) ∧ dp + n ≤ ((h.1.2 k).2 : Int)) ∧ ((h.1.2 k).1 = 100 ∨ ∀ i, i < n.toNat → -128 ≤ h.2.1 k0 (sp.toNat + i) ∧ h.2.1 k0 (sp.toNat + i) ≤ 127) then zgo q L st (h.1, zcpy h.2.1 k0 k sp.toNat dp.toNat n.toNat, h.2.2) else none
    | _ => none)
  | _ => none
def zal (i : Instr) (st : List ZV) (v : Int) (a b : Nat) : Option (List ZV) := match i with
  | .iconst n => some (zi n :: st)
  | .bipush n => some (zi n :: st)
  | .sipush n => some (zi n :: st)
  | .lconst _ => some (zl v :: st)
  | .ldc _ => if b = 0 then some (zi v :: st) else some (zr (some a) :: st)
  | .ldc_w _ => some (zi v :: st)
  | .ldc2_w _ => some (zl v :: st)
  | .aconst_null => some (zr none :: st)
  | .iadd => (match st with | .inl y :: .inl x :: st => some (zi (x + y) :: st) | _ => none)
  | .isub => (match st with | .inl y :: .inl x :: st => some (zi (x - y) :: st) | _ => none)
  | .imul => (match st with | .inl y :: .inl x :: st => some (zi (x * y) :: st) | _ => none)
  | .idiv => (match st with | .inl y :: .inl x :: st => if wr y = 0 then none else some (zi (z_div x y) :: st) | _ => none)
  | .irem => (match st with | .inl y :: .inl x :: st => if wr y = 0 then none else some (zi (z_rem x y) :: st) | _ => none)
  | .iand => (match st with | .inl y :: .inl x :: st => some (zi (z_and x y) :: st) | _ => none)
  | .ior => (match st with | .inl y :: .inl x :: st => some (zi (z_or x y) :: st) | _ => none)
  | .ixor => (match st with | .inl y :: .inl x :: st => some (zi (z_xor x y) :: st) | _ => none)
  | .ishl => (match st with | .inl y :: .inl x :: st => some (zi (z_shl x y) :: st) | _ => none)
  | .ishr => (match st with | .inl y :: .inl x :: st => some (zi (z_shr x y) :: st) | _ => none)
  | .iushr => (match st with | .inl y :: .inl x :: st => some (zi (z_ushr x y) :: st) | _ => none)
  | .ladd => (match st with | .inr (.inl y) :: .inr (.inl x) :: st => some (zl (x + y) :: st) | _ => none)
  | .lsub => (match st with | .inr (.inl y) :: .inr (.inl x) :: st => some (zl (x - y) :: st) | _ => none)
  | .lmul => (match st with | .inr (.inl y) :: .inr (.inl x) :: st => some (zl (x * y) :: st) | _ => none)
  | .ldiv => (match st with | .inr (.inl y) :: .inr (.inl x) :: st => if wl y = 0 then none else some (zl (z_ldiv x y) :: st) | _ => none)
  | .lrem => (match st with | .inr (.inl y) :: .inr (.inl x) :: st => if wl y = 0 then none else some (zl (z_lrem x y) :: st) | _ => none)
  | .land => (match st with | .inr (.inl y) :: .inr (.inl x) :: st => some (zl (z_land x y) :: st) | _ => none)
  | .lor => (match st with | .inr (.inl y) :: .inr (.inl x) :: st => some (zl (z_lor x y) :: st) | _ => none)
  | .lshl => (match st with | .inl y :: .inr (.inl x) :: st => some (zl (z_lshl x y) :: st) | _ => none)
  | .lcmp => (match st with | .inr (.inl y) :: .inr (.inl x) :: st => some (zi (z_cmp x y) :: st) | _ => none)
  | .i2l => (match st with | .inl x :: st => some (zl (wr x) :: st) | _ => none)
  | .l2i => (match st with | .inr (.inl x) :: st => some (zi x :: st) | _ => none)
  | .i2b => (match st with | .inl x :: st => some (zi (z_b x) :: st) | _ => none)
  | .dup => (match st with | .inl x :: st => some (zi x :: zi x :: st) | .inr (.inr (.inl x)) :: st => some (zr x :: zr x :: st) | _ => none)
  | .dup2 => (match st with | .inl y :: .inr (.inr (.inl x)) :: st => some (zi y :: zr x :: zi y :: zr x :: st) | _ => none)
  | .pop => (match st with | .inl _ :: st => some st | .inr (.inr (.inl _)) :: st => some st | _ => none)
  | _ => none
/-- one instruction -/
def zx (e : ZE) (pc : Nat) (L st : List ZV) (h : ZH) : Option ZO := match e with
  | (i, q, a, b, c, v) => match i with
    | .iload _ | .iload_n _ => (match zget L a with
      | some (.inl x) => zgo q L (zi x :: st) h
      | _ => none)
    | .lload _ | .lload_n _ => (match zget L a with
      | some (.inr (.inl x)) => zgo q L (zl x :: st) h
      | _ => none)
    | .aload _ | .aload_n _ => (match zget L a with
      | some (.inr (.inr (.inl x))) => zgo q L (zr x :: st) h
      | _ => none)
    | .istore _ | .istore_n _ => (match st with
      | .inl x :: st => if a < L.length then zgo q (zst1 L a (zi x)) st h else none
      | _ => none)
    | .astore _ | .astore_n _ => (match st with
      | .inr (.inr (.inl x)) :: st => if a < L.length then zgo q (zst1 L a (zr x)) st h else none
      | _ => none)
    | .lstore _ | .lstore_n _ => (match st with
      | .inr (.inl x) :: st => if a + 1 < L.length then zgo q (zst2 L a (zl x)) st h else none
      | _ => none)
    | .iinc _ n => (match zget L a with
      | some (.inl x) => zgo q (zst1 L a (zi (x + n))) st h
      | _ => none)
    | .goto _ => zgo q L st h
    | .ifCond cm _ => (match st with
      | .inl x :: st => z_if (z_cm cm x 0) a q L st h
      | _ => none)
    | .if_icmp cm _ => (match st with
      | .inl y :: .inl x :: st => z_if (z_cm cm x y) a q L st h
      | _ => none)
    | .ifnull _ => (match st with
      | .inr (.inr (.inl x)) :: st => z_if x.isNone a q L st h
      | _ => none)
    | .ifnonnull _ => (match st with
      | .inr (.inr (.inl x)) :: st => z_if x.isSome a q L st h
      | _ => none)
    | .tableswitch dflt lo hi offs => (match st with
      | .inl x :: st => if wr x < lo ∨ hi < wr x then zgo ((pc : Int) + dflt).toNat L st h else (match offs.toList[(wr x - lo).toNat]? with
        | some off => zgo ((pc : Int) + off).toNat L st h
        | none => none)
      | _ => none)
    | .lookupswitch dflt ps => (match st with
      | .inl x :: st => zgo ((pc : Int) + Op.lookupswitch.offset ps.toList dflt (wr x)).toNat L st h
      | _ => none)
    | .getfield _ => z_get q a b c L st h
    | .putfield _ => z_put q a b c L st h
    | .iaload => z_ald 100 q L st h
    | .baload => z_ald (if a = 0 then 101 else 102) q L st h
    | .laload => z_ald 103 q L st h
    | .aaload => z_ald a q L st h
    | .iastore => z_ast 100 q L st h
    | .bastore => z_ast (if a = 0 then 101 else 102) q L st h
    | .lastore => z_ast 103 q L st h
    | .aastore => z_ast a q L st h
    | .arraylength => z_len q L st h
    | .new _ => z_new a b q L st h
    | .newarray _ => z_newa a q L st h
    | .anewarray _ => z_newa a q L st h
    | .invokevirtual _ | .invokestatic _ | .invokespecial _ => if 1000 ≤ a then z_bi a q L st h else if b ≤ st.length then some (.inr (.inl (a, (st.take b).reverse, q, st.drop b))) else none
    | .return_ => if c = 0 ∧ st = [] then some (.inr (.inr none)) else none
    | .ireturn => (match st with
      | [.inl x] => if c = 1 ∨ (c = 2 ∧ (x = 0 ∨ x = 1)) then some (.inr (.inr (some (zi x)))) else none
      | _ => none)
    | .lreturn => (match st with
      | [.inr (.inl x)] => if c = 3 then some (.inr (.inr (some (zl x)))) else none
      | _ => none)
    | .areturn => (match st with
      | [.inr (.inr (.inl x))] => if c = 4 then some (.inr (.inr (some (zr x)))) else none
      | _ => none)
    | i => (match zal i st v a b with
      | some st' => zgo q L st' h
      | none => none)
def zrun (call : Nat → List ZV → ZH → Option (Option ZV × ZH)) (T : ZT) : Nat → Nat → List ZV → List ZV → ZH → Option (Option ZV × ZH)
  | 0, _, _, _, _ => none
  | n + 1, pc, L, st, h => match zlk T pc with
    | none => none
    | some e => match zx e pc L st h with
      | none => none
      | some (.inl (q, L', st', h')) => zrun call T n q L' st' h'
      | some (.inr (.inl (y, as, q, st'))) => (match call y as h with
        | none => none
        | some (r, h') => zrun call T n q L (r.toList ++ st') h')
      | some (.inr (.inr r)) => some (r, h)
/-- method y's machine: at most d frames, each of at most n instructions -/
def zev (P : Nat → Nat × ZT) : Nat → Nat → Nat → List ZV → ZH → Option (Option ZV × ZH)
  | 0, _, _, _, _ => none
  | d + 1, n, y, as, h => zrun (zev P d n) (P y).2 n 0 (zent (P y).1 as) [] h
end
