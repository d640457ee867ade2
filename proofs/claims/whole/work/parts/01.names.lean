/-- a private method of a class that the tables say can be made, by its rows of tables_1 -/
def lw_okq (q : MethodName × Nat) : Prop := (q.1.cls ≠ "java/lang/invoke/MethodHandle" ∧ q.1.cls ≠ "java/lang/invoke/VarHandle") ∧ Cond.instantiable q.1.cls q.2 ∈ tables_1 ∧ Cond.privateMethod q.1 ∈ tables_1 ∧ Cond.instanceMethod q.1 ∈ tables_1
theorem lw_p0 : lw_okq (⟨"StairsThatGo", "tellAnew", "()V"⟩, 13) := ⟨⟨by decide +kernel, by decide +kernel⟩, List.mem_of_getElem? (i := 18) (by decide +kernel), List.mem_of_getElem? (i := 354) (by decide +kernel), List.mem_of_getElem? (i := 355) (by decide +kernel)⟩
theorem lw_p1 : lw_okq (⟨"StairsThatGo", "isStair", "(I)Z"⟩, 13) := ⟨⟨by decide +kernel, by decide +kernel⟩, List.mem_of_getElem? (i := 18) (by decide +kernel), List.mem_of_getElem? (i := 362) (by decide +kernel), List.mem_of_getElem? (i := 363) (by decide +kernel)⟩
theorem lw_p2 : lw_okq (⟨"StairsThatGo", "isPerson", "(I)Z"⟩, 13) := ⟨⟨by decide +kernel, by decide +kernel⟩, List.mem_of_getElem? (i := 18) (by decide +kernel), List.mem_of_getElem? (i := 394) (by decide +kernel), List.mem_of_getElem? (i := 395) (by decide +kernel)⟩
theorem lw_p3 : lw_okq (⟨"StairsThatGo$Tape", "parsePerson", "(I)I"⟩, 5) := ⟨⟨by decide +kernel, by decide +kernel⟩, List.mem_of_getElem? (i := 76) (by decide +kernel), List.mem_of_getElem? (i := 427) (by decide +kernel), List.mem_of_getElem? (i := 428) (by decide +kernel)⟩
theorem lw_p4 : lw_okq (⟨"StairsThatGo$Tape", "nextByte", "()I"⟩, 5) := ⟨⟨by decide +kernel, by decide +kernel⟩, List.mem_of_getElem? (i := 76) (by decide +kernel), List.mem_of_getElem? (i := 431) (by decide +kernel), List.mem_of_getElem? (i := 432) (by decide +kernel)⟩
theorem lw_p5 : lw_okq (⟨"StairsThatGo$Tape", "parseNumber", "()I"⟩, 5) := ⟨⟨by decide +kernel, by decide +kernel⟩, List.mem_of_getElem? (i := 76) (by decide +kernel), List.mem_of_getElem? (i := 435) (by decide +kernel), List.mem_of_getElem? (i := 436) (by decide +kernel)⟩
theorem lw_p6 : lw_okq (⟨"StairsThatGo$Tape", "nextLetter", "()I"⟩, 5) := ⟨⟨by decide +kernel, by decide +kernel⟩, List.mem_of_getElem? (i := 76) (by decide +kernel), List.mem_of_getElem? (i := 443) (by decide +kernel), List.mem_of_getElem? (i := 444) (by decide +kernel)⟩
theorem lw_p7 : lw_okq (⟨"StairsThatGo", "toldDay", "()LStairsThatGo$Day;"⟩, 13) := ⟨⟨by decide +kernel, by decide +kernel⟩, List.mem_of_getElem? (i := 18) (by decide +kernel), List.mem_of_getElem? (i := 543) (by decide +kernel), List.mem_of_getElem? (i := 544) (by decide +kernel)⟩
theorem lw_p8 : lw_okq (⟨"StairsThatGo$Day", "lineUp", "(I)V"⟩, 16) := ⟨⟨by decide +kernel, by decide +kernel⟩, List.mem_of_getElem? (i := 104) (by decide +kernel), List.mem_of_getElem? (i := 559) (by decide +kernel), List.mem_of_getElem? (i := 560) (by decide +kernel)⟩
theorem lw_p9 : lw_okq (⟨"StairsThatGo$Day", "passTick", "(I)V"⟩, 16) := ⟨⟨by decide +kernel, by decide +kernel⟩, List.mem_of_getElem? (i := 104) (by decide +kernel), List.mem_of_getElem? (i := 567) (by decide +kernel), List.mem_of_getElem? (i := 568) (by decide +kernel)⟩
theorem lw_p10 : lw_okq (⟨"StairsThatGo$Day", "arrive", "(I)V"⟩, 16) := ⟨⟨by decide +kernel, by decide +kernel⟩, List.mem_of_getElem? (i := 104) (by decide +kernel), List.mem_of_getElem? (i := 571) (by decide +kernel), List.mem_of_getElem? (i := 572) (by decide +kernel)⟩
theorem lw_p11 : lw_okq (⟨"StairsThatGo$Day", "turn", "(I)V"⟩, 16) := ⟨⟨by decide +kernel, by decide +kernel⟩, List.mem_of_getElem? (i := 104) (by decide +kernel), List.mem_of_getElem? (i := 575) (by decide +kernel), List.mem_of_getElem? (i := 576) (by decide +kernel)⟩
theorem lw_p12 : lw_okq (⟨"StairsThatGo$Day", "letAllThrough", "(II)V"⟩, 16) := ⟨⟨by decide +kernel, by decide +kernel⟩, List.mem_of_getElem? (i := 104) (by decide +kernel), List.mem_of_getElem? (i := 582) (by decide +kernel), List.mem_of_getElem? (i := 583) (by decide +kernel)⟩
theorem lw_p13 : lw_okq (⟨"StairsThatGo$Day", "advance", "(LStairsThatGo$Flight;I)V"⟩, 16) := ⟨⟨by decide +kernel, by decide +kernel⟩, List.mem_of_getElem? (i := 104) (by decide +kernel), List.mem_of_getElem? (i := 607) (by decide +kernel), List.mem_of_getElem? (i := 608) (by decide +kernel)⟩
theorem lw_p14 : lw_okq (⟨"StairsThatGo$Day", "land", "(LStairsThatGo$Flight;II)V"⟩, 16) := ⟨⟨by decide +kernel, by decide +kernel⟩, List.mem_of_getElem? (i := 104) (by decide +kernel), List.mem_of_getElem? (i := 619) (by decide +kernel), List.mem_of_getElem? (i := 620) (by decide +kernel)⟩
theorem lw_p15 : lw_okq (⟨"StairsThatGo$Day", "walk", "(LStairsThatGo$Flight;)V"⟩, 16) := ⟨⟨by decide +kernel, by decide +kernel⟩, List.mem_of_getElem? (i := 104) (by decide +kernel), List.mem_of_getElem? (i := 629) (by decide +kernel), List.mem_of_getElem? (i := 630) (by decide +kernel)⟩
def lw_privs_1 : List (MethodName × Nat) := [(⟨"StairsThatGo", "tellAnew", "()V"⟩, 13), (⟨"StairsThatGo", "isStair", "(I)Z"⟩, 13), (⟨"StairsThatGo", "isPerson", "(I)Z"⟩, 13), (⟨"StairsThatGo$Tape", "parsePerson", "(I)I"⟩, 5), (⟨"StairsThatGo$Tape", "nextByte", "()I"⟩, 5), (⟨"StairsThatGo$Tape", "parseNumber", "()I"⟩, 5), (⟨"StairsThatGo$Tape", "nextLetter", "()I"⟩, 5), (⟨"StairsThatGo", "toldDay", "()LStairsThatGo$Day;"⟩, 13), (⟨"StairsThatGo$Day", "lineUp", "(I)V"⟩, 16), (⟨"StairsThatGo$Day", "passTick", "(I)V"⟩, 16), (⟨"StairsThatGo$Day", "arrive", "(I)V"⟩, 16), (⟨"StairsThatGo$Day", "turn", "(I)V"⟩, 16), (⟨"StairsThatGo$Day", "letAllThrough", "(II)V"⟩, 16), (⟨"StairsThatGo$Day", "advance", "(LStairsThatGo$Flight;I)V"⟩, 16), (⟨"StairsThatGo$Day", "land", "(LStairsThatGo$Flight;II)V"⟩, 16), (⟨"StairsThatGo$Day", "walk", "(LStairsThatGo$Flight;)V"⟩, 16)]
theorem lw_r1 : ∀ q ∈ lw_privs_1, lw_okq q := List.forall_mem_cons.mpr ⟨lw_p0, List.forall_mem_cons.mpr ⟨lw_p1, List.forall_mem_cons.mpr ⟨lw_p2, List.forall_mem_cons.mpr ⟨lw_p3, List.forall_mem_cons.mpr ⟨lw_p4, List.forall_mem_cons.mpr ⟨lw_p5, List.forall_mem_cons.mpr ⟨lw_p6, List.forall_mem_cons.mpr ⟨lw_p7, List.forall_mem_cons.mpr ⟨lw_p8, List.forall_mem_cons.mpr ⟨lw_p9, List.forall_mem_cons.mpr ⟨lw_p10, List.forall_mem_cons.mpr ⟨lw_p11, List.forall_mem_cons.mpr ⟨lw_p12, List.forall_mem_cons.mpr ⟨lw_p13, List.forall_mem_cons.mpr ⟨lw_p14, List.forall_mem_cons.mpr ⟨lw_p15, fun _ h => absurd h List.not_mem_nil⟩⟩⟩⟩⟩⟩⟩⟩⟩⟩⟩⟩⟩⟩⟩⟩
theorem lw_p16 : lw_okq (⟨"StairsThatGo$Day", "leave", "(II)V"⟩, 16) := ⟨⟨by decide +kernel, by decide +kernel⟩, List.mem_of_getElem? (i := 104) (by decide +kernel), List.mem_of_getElem? (i := 634) (by decide +kernel), List.mem_of_getElem? (i := 635) (by decide +kernel)⟩
theorem lw_p17 : lw_okq (⟨"StairsThatGo$Day", "firstOnLanding", "(I)I"⟩, 16) := ⟨⟨by decide +kernel, by decide +kernel⟩, List.mem_of_getElem? (i := 104) (by decide +kernel), List.mem_of_getElem? (i := 638) (by decide +kernel), List.mem_of_getElem? (i := 639) (by decide +kernel)⟩
theorem lw_p18 : lw_okq (⟨"StairsThatGo$Day", "board", "(II)V"⟩, 16) := ⟨⟨by decide +kernel, by decide +kernel⟩, List.mem_of_getElem? (i := 104) (by decide +kernel), List.mem_of_getElem? (i := 642) (by decide +kernel), List.mem_of_getElem? (i := 643) (by decide +kernel)⟩
theorem lw_p19 : lw_okq (⟨"StairsThatGo$Day", "firstToBoard", "(LStairsThatGo$Flight;I)I"⟩, 16) := ⟨⟨by decide +kernel, by decide +kernel⟩, List.mem_of_getElem? (i := 104) (by decide +kernel), List.mem_of_getElem? (i := 646) (by decide +kernel), List.mem_of_getElem? (i := 647) (by decide +kernel)⟩
theorem lw_p20 : lw_okq (⟨"StairsThatGo$Day", "mayBoard", "(ILStairsThatGo$Flight;I)Z"⟩, 16) := ⟨⟨by decide +kernel, by decide +kernel⟩, List.mem_of_getElem? (i := 104) (by decide +kernel), List.mem_of_getElem? (i := 654) (by decide +kernel), List.mem_of_getElem? (i := 655) (by decide +kernel)⟩
theorem lw_p21 : lw_okq (⟨"StairsThatGo$Day", "weigh", "(I)V"⟩, 16) := ⟨⟨by decide +kernel, by decide +kernel⟩, List.mem_of_getElem? (i := 104) (by decide +kernel), List.mem_of_getElem? (i := 658) (by decide +kernel), List.mem_of_getElem? (i := 659) (by decide +kernel)⟩
theorem lw_p22 : lw_okq (⟨"StairsThatGo$Day", "letWalkersFall", "(I)V"⟩, 16) := ⟨⟨by decide +kernel, by decide +kernel⟩, List.mem_of_getElem? (i := 104) (by decide +kernel), List.mem_of_getElem? (i := 663) (by decide +kernel), List.mem_of_getElem? (i := 664) (by decide +kernel)⟩
theorem lw_p23 : lw_okq (⟨"StairsThatGo", "seekChange", "(I)V"⟩, 13) := ⟨⟨by decide +kernel, by decide +kernel⟩, List.mem_of_getElem? (i := 18) (by decide +kernel), List.mem_of_getElem? (i := 727) (by decide +kernel), List.mem_of_getElem? (i := 728) (by decide +kernel)⟩
theorem lw_p24 : lw_okq (⟨"StairsThatGo", "waitsByRule", "(I)I"⟩, 13) := ⟨⟨by decide +kernel, by decide +kernel⟩, List.mem_of_getElem? (i := 18) (by decide +kernel), List.mem_of_getElem? (i := 762) (by decide +kernel), List.mem_of_getElem? (i := 763) (by decide +kernel)⟩
theorem lw_p25 : lw_okq (⟨"StairsThatGo", "refuse", "(IIII)I"⟩, 13) := ⟨⟨by decide +kernel, by decide +kernel⟩, List.mem_of_getElem? (i := 18) (by decide +kernel), List.mem_of_getElem? (i := 770) (by decide +kernel), List.mem_of_getElem? (i := 771) (by decide +kernel)⟩
theorem lw_p26 : lw_okq (⟨"StairsThatGoModel", "isStair", "(I)Z"⟩, 44) := ⟨⟨by decide +kernel, by decide +kernel⟩, List.mem_of_getElem? (i := 833) (by decide +kernel), List.mem_of_getElem? (i := 989) (by decide +kernel), List.mem_of_getElem? (i := 990) (by decide +kernel)⟩
theorem lw_p27 : lw_okq (⟨"StairsThatGoModel", "comes", "(III)I"⟩, 44) := ⟨⟨by decide +kernel, by decide +kernel⟩, List.mem_of_getElem? (i := 833) (by decide +kernel), List.mem_of_getElem? (i := 1013) (by decide +kernel), List.mem_of_getElem? (i := 1014) (by decide +kernel)⟩
theorem lw_p28 : lw_okq (⟨"StairsThatGoModel", "isOne", "(I)Z"⟩, 44) := ⟨⟨by decide +kernel, by decide +kernel⟩, List.mem_of_getElem? (i := 833) (by decide +kernel), List.mem_of_getElem? (i := 1021) (by decide +kernel), List.mem_of_getElem? (i := 1022) (by decide +kernel)⟩
theorem lw_p29 : lw_okq (⟨"StairsThatGoModel", "number", "(I)I"⟩, 44) := ⟨⟨by decide +kernel, by decide +kernel⟩, List.mem_of_getElem? (i := 833) (by decide +kernel), List.mem_of_getElem? (i := 1044) (by decide +kernel), List.mem_of_getElem? (i := 1045) (by decide +kernel)⟩
theorem lw_p30 : lw_okq (⟨"StairsThatGoModel", "here", "()I"⟩, 44) := ⟨⟨by decide +kernel, by decide +kernel⟩, List.mem_of_getElem? (i := 833) (by decide +kernel), List.mem_of_getElem? (i := 1048) (by decide +kernel), List.mem_of_getElem? (i := 1049) (by decide +kernel)⟩
theorem lw_p31 : lw_okq (⟨"StairsThatGoModel", "letter", "(IIIII)I"⟩, 44) := ⟨⟨by decide +kernel, by decide +kernel⟩, List.mem_of_getElem? (i := 833) (by decide +kernel), List.mem_of_getElem? (i := 1054) (by decide +kernel), List.mem_of_getElem? (i := 1055) (by decide +kernel)⟩
def lw_privs_2 : List (MethodName × Nat) := [(⟨"StairsThatGo$Day", "leave", "(II)V"⟩, 16), (⟨"StairsThatGo$Day", "firstOnLanding", "(I)I"⟩, 16), (⟨"StairsThatGo$Day", "board", "(II)V"⟩, 16), (⟨"StairsThatGo$Day", "firstToBoard", "(LStairsThatGo$Flight;I)I"⟩, 16), (⟨"StairsThatGo$Day", "mayBoard", "(ILStairsThatGo$Flight;I)Z"⟩, 16), (⟨"StairsThatGo$Day", "weigh", "(I)V"⟩, 16), (⟨"StairsThatGo$Day", "letWalkersFall", "(I)V"⟩, 16), (⟨"StairsThatGo", "seekChange", "(I)V"⟩, 13), (⟨"StairsThatGo", "waitsByRule", "(I)I"⟩, 13), (⟨"StairsThatGo", "refuse", "(IIII)I"⟩, 13), (⟨"StairsThatGoModel", "isStair", "(I)Z"⟩, 44), (⟨"StairsThatGoModel", "comes", "(III)I"⟩, 44), (⟨"StairsThatGoModel", "isOne", "(I)Z"⟩, 44), (⟨"StairsThatGoModel", "number", "(I)I"⟩, 44), (⟨"StairsThatGoModel", "here", "()I"⟩, 44), (⟨"StairsThatGoModel", "letter", "(IIIII)I"⟩, 44)]
theorem lw_r2 : ∀ q ∈ lw_privs_2, lw_okq q := List.forall_mem_cons.mpr ⟨lw_p16, List.forall_mem_cons.mpr ⟨lw_p17, List.forall_mem_cons.mpr ⟨lw_p18, List.forall_mem_cons.mpr ⟨lw_p19, List.forall_mem_cons.mpr ⟨lw_p20, List.forall_mem_cons.mpr ⟨lw_p21, List.forall_mem_cons.mpr ⟨lw_p22, List.forall_mem_cons.mpr ⟨lw_p23, List.forall_mem_cons.mpr ⟨lw_p24, List.forall_mem_cons.mpr ⟨lw_p25, List.forall_mem_cons.mpr ⟨lw_p26, List.forall_mem_cons.mpr ⟨lw_p27, List.forall_mem_cons.mpr ⟨lw_p28, List.forall_mem_cons.mpr ⟨lw_p29, List.forall_mem_cons.mpr ⟨lw_p30, List.forall_mem_cons.mpr ⟨lw_p31, fun _ h => absurd h List.not_mem_nil⟩⟩⟩⟩⟩⟩⟩⟩⟩⟩⟩⟩⟩⟩⟩⟩
theorem lw_p32 : lw_okq (⟨"StairsThatGoModel", "asTold", "()V"⟩, 44) := ⟨⟨by decide +kernel, by decide +kernel⟩, List.mem_of_getElem? (i := 833) (by decide +kernel), List.mem_of_getElem? (i := 1066) (by decide +kernel), List.mem_of_getElem? (i := 1067) (by decide +kernel)⟩
theorem lw_p33 : lw_okq (⟨"StairsThatGoModel", "runs", "()V"⟩, 44) := ⟨⟨by decide +kernel, by decide +kernel⟩, List.mem_of_getElem? (i := 833) (by decide +kernel), List.mem_of_getElem? (i := 1070) (by decide +kernel), List.mem_of_getElem? (i := 1071) (by decide +kernel)⟩
theorem lw_p34 : lw_okq (⟨"StairsThatGoModel", "begins", "()V"⟩, 44) := ⟨⟨by decide +kernel, by decide +kernel⟩, List.mem_of_getElem? (i := 833) (by decide +kernel), List.mem_of_getElem? (i := 1074) (by decide +kernel), List.mem_of_getElem? (i := 1075) (by decide +kernel)⟩
theorem lw_p35 : lw_okq (⟨"StairsThatGoModel", "changes", "(I)V"⟩, 44) := ⟨⟨by decide +kernel, by decide +kernel⟩, List.mem_of_getElem? (i := 833) (by decide +kernel), List.mem_of_getElem? (i := 1078) (by decide +kernel), List.mem_of_getElem? (i := 1079) (by decide +kernel)⟩
theorem lw_p36 : lw_okq (⟨"StairsThatGoModel", "isOn", "(II)Z"⟩, 44) := ⟨⟨by decide +kernel, by decide +kernel⟩, List.mem_of_getElem? (i := 833) (by decide +kernel), List.mem_of_getElem? (i := 1082) (by decide +kernel), List.mem_of_getElem? (i := 1083) (by decide +kernel)⟩
theorem lw_p37 : lw_okq (⟨"StairsThatGoModel", "goes", "(I)Z"⟩, 44) := ⟨⟨by decide +kernel, by decide +kernel⟩, List.mem_of_getElem? (i := 833) (by decide +kernel), List.mem_of_getElem? (i := 1086) (by decide +kernel), List.mem_of_getElem? (i := 1087) (by decide +kernel)⟩
theorem lw_p38 : lw_okq (⟨"StairsThatGoModel", "goesOne", "(II)Z"⟩, 44) := ⟨⟨by decide +kernel, by decide +kernel⟩, List.mem_of_getElem? (i := 833) (by decide +kernel), List.mem_of_getElem? (i := 1090) (by decide +kernel), List.mem_of_getElem? (i := 1091) (by decide +kernel)⟩
theorem lw_p39 : lw_okq (⟨"StairsThatGoModel", "walks", "(I)V"⟩, 44) := ⟨⟨by decide +kernel, by decide +kernel⟩, List.mem_of_getElem? (i := 833) (by decide +kernel), List.mem_of_getElem? (i := 1094) (by decide +kernel), List.mem_of_getElem? (i := 1095) (by decide +kernel)⟩
theorem lw_p40 : lw_okq (⟨"StairsThatGoModel", "who", "(III)I"⟩, 44) := ⟨⟨by decide +kernel, by decide +kernel⟩, List.mem_of_getElem? (i := 833) (by decide +kernel), List.mem_of_getElem? (i := 1098) (by decide +kernel), List.mem_of_getElem? (i := 1099) (by decide +kernel)⟩
theorem lw_p41 : lw_okq (⟨"StairsThatGoModel", "leaves", "(I)V"⟩, 44) := ⟨⟨by decide +kernel, by decide +kernel⟩, List.mem_of_getElem? (i := 833) (by decide +kernel), List.mem_of_getElem? (i := 1102) (by decide +kernel), List.mem_of_getElem? (i := 1103) (by decide +kernel)⟩
theorem lw_p42 : lw_okq (⟨"StairsThatGoModel", "stepsOn", "(II)V"⟩, 44) := ⟨⟨by decide +kernel, by decide +kernel⟩, List.mem_of_getElem? (i := 833) (by decide +kernel), List.mem_of_getElem? (i := 1106) (by decide +kernel), List.mem_of_getElem? (i := 1107) (by decide +kernel)⟩
theorem lw_p43 : lw_okq (⟨"StairsThatGoModel", "may", "(III)Z"⟩, 44) := ⟨⟨by decide +kernel, by decide +kernel⟩, List.mem_of_getElem? (i := 833) (by decide +kernel), List.mem_of_getElem? (i := 1110) (by decide +kernel), List.mem_of_getElem? (i := 1111) (by decide +kernel)⟩
theorem lw_p44 : lw_okq (⟨"StairsThatGoModel", "loads", "(I)V"⟩, 44) := ⟨⟨by decide +kernel, by decide +kernel⟩, List.mem_of_getElem? (i := 833) (by decide +kernel), List.mem_of_getElem? (i := 1114) (by decide +kernel), List.mem_of_getElem? (i := 1115) (by decide +kernel)⟩
theorem lw_p45 : lw_okq (⟨"StairsThatGoModel", "weight", "(I)I"⟩, 44) := ⟨⟨by decide +kernel, by decide +kernel⟩, List.mem_of_getElem? (i := 833) (by decide +kernel), List.mem_of_getElem? (i := 1118) (by decide +kernel), List.mem_of_getElem? (i := 1119) (by decide +kernel)⟩
theorem lw_p46 : lw_okq (⟨"StairsThatGoModel", "notes", "(I)V"⟩, 44) := ⟨⟨by decide +kernel, by decide +kernel⟩, List.mem_of_getElem? (i := 833) (by decide +kernel), List.mem_of_getElem? (i := 1122) (by decide +kernel), List.mem_of_getElem? (i := 1123) (by decide +kernel)⟩
theorem lw_p47 : lw_okq (⟨"StairsThatGoModel", "waits", "()I"⟩, 44) := ⟨⟨by decide +kernel, by decide +kernel⟩, List.mem_of_getElem? (i := 833) (by decide +kernel), List.mem_of_getElem? (i := 1139) (by decide +kernel), List.mem_of_getElem? (i := 1140) (by decide +kernel)⟩
def lw_privs_3 : List (MethodName × Nat) := [(⟨"StairsThatGoModel", "asTold", "()V"⟩, 44), (⟨"StairsThatGoModel", "runs", "()V"⟩, 44), (⟨"StairsThatGoModel", "begins", "()V"⟩, 44), (⟨"StairsThatGoModel", "changes", "(I)V"⟩, 44), (⟨"StairsThatGoModel", "isOn", "(II)Z"⟩, 44), (⟨"StairsThatGoModel", "goes", "(I)Z"⟩, 44), (⟨"StairsThatGoModel", "goesOne", "(II)Z"⟩, 44), (⟨"StairsThatGoModel", "walks", "(I)V"⟩, 44), (⟨"StairsThatGoModel", "who", "(III)I"⟩, 44), (⟨"StairsThatGoModel", "leaves", "(I)V"⟩, 44), (⟨"StairsThatGoModel", "stepsOn", "(II)V"⟩, 44), (⟨"StairsThatGoModel", "may", "(III)Z"⟩, 44), (⟨"StairsThatGoModel", "loads", "(I)V"⟩, 44), (⟨"StairsThatGoModel", "weight", "(I)I"⟩, 44), (⟨"StairsThatGoModel", "notes", "(I)V"⟩, 44), (⟨"StairsThatGoModel", "waits", "()I"⟩, 44)]
theorem lw_r3 : ∀ q ∈ lw_privs_3, lw_okq q := List.forall_mem_cons.mpr ⟨lw_p32, List.forall_mem_cons.mpr ⟨lw_p33, List.forall_mem_cons.mpr ⟨lw_p34, List.forall_mem_cons.mpr ⟨lw_p35, List.forall_mem_cons.mpr ⟨lw_p36, List.forall_mem_cons.mpr ⟨lw_p37, List.forall_mem_cons.mpr ⟨lw_p38, List.forall_mem_cons.mpr ⟨lw_p39, List.forall_mem_cons.mpr ⟨lw_p40, List.forall_mem_cons.mpr ⟨lw_p41, List.forall_mem_cons.mpr ⟨lw_p42, List.forall_mem_cons.mpr ⟨lw_p43, List.forall_mem_cons.mpr ⟨lw_p44, List.forall_mem_cons.mpr ⟨lw_p45, List.forall_mem_cons.mpr ⟨lw_p46, List.forall_mem_cons.mpr ⟨lw_p47, fun _ h => absurd h List.not_mem_nil⟩⟩⟩⟩⟩⟩⟩⟩⟩⟩⟩⟩⟩⟩⟩⟩
theorem lw_p48 : lw_okq (⟨"StairsThatGoModel", "throughBy", "(I)I"⟩, 44) := ⟨⟨by decide +kernel, by decide +kernel⟩, List.mem_of_getElem? (i := 833) (by decide +kernel), List.mem_of_getElem? (i := 1143) (by decide +kernel), List.mem_of_getElem? (i := 1144) (by decide +kernel)⟩
theorem lw_p49 : lw_okq (⟨"StairsThatGoModel", "last", "()I"⟩, 44) := ⟨⟨by decide +kernel, by decide +kernel⟩, List.mem_of_getElem? (i := 833) (by decide +kernel), List.mem_of_getElem? (i := 1147) (by decide +kernel), List.mem_of_getElem? (i := 1148) (by decide +kernel)⟩
theorem lw_p50 : lw_okq (⟨"StairsThatGoModel", "waysMany", "()I"⟩, 44) := ⟨⟨by decide +kernel, by decide +kernel⟩, List.mem_of_getElem? (i := 833) (by decide +kernel), List.mem_of_getElem? (i := 1155) (by decide +kernel), List.mem_of_getElem? (i := 1156) (by decide +kernel)⟩
theorem lw_p51 : lw_okq (⟨"StairsThatGoModel", "finds", "(IIII)I"⟩, 44) := ⟨⟨by decide +kernel, by decide +kernel⟩, List.mem_of_getElem? (i := 833) (by decide +kernel), List.mem_of_getElem? (i := 1189) (by decide +kernel), List.mem_of_getElem? (i := 1190) (by decide +kernel)⟩
def lw_privs_4 : List (MethodName × Nat) := [(⟨"StairsThatGoModel", "throughBy", "(I)I"⟩, 44), (⟨"StairsThatGoModel", "last", "()I"⟩, 44), (⟨"StairsThatGoModel", "waysMany", "()I"⟩, 44), (⟨"StairsThatGoModel", "finds", "(IIII)I"⟩, 44)]
theorem lw_r4 : ∀ q ∈ lw_privs_4, lw_okq q := List.forall_mem_cons.mpr ⟨lw_p48, List.forall_mem_cons.mpr ⟨lw_p49, List.forall_mem_cons.mpr ⟨lw_p50, List.forall_mem_cons.mpr ⟨lw_p51, fun _ h => absurd h List.not_mem_nil⟩⟩⟩⟩
def lw_privs : List (MethodName × Nat) := lw_privs_1 ++ (lw_privs_2 ++ (lw_privs_3 ++ (lw_privs_4)))
def lw_tbl : List Cond := k2_sels lw_privs ++ tables_1
theorem lw_privs_ok : ∀ q ∈ lw_privs, lw_okq q := by
  show ∀ q ∈ lw_privs_1 ++ (lw_privs_2 ++ (lw_privs_3 ++ (lw_privs_4))), lw_okq q
  exact List.forall_mem_append.mpr ⟨lw_r1, List.forall_mem_append.mpr ⟨lw_r2, List.forall_mem_append.mpr ⟨lw_r3, lw_r4⟩⟩⟩
def RX0 : String := "StairsThatGo$Day"
def TX0 : u_T := fun k => match k with
  | 0 => ("StairsThatGo$Day", "riders", "[LStairsThatGo$Rider;", true)
  | 1 => ("StairsThatGo$Day", "flights", "[LStairsThatGo$Flight;", true)
  | 2 => ("StairsThatGo$Day", "setting", "[I", true)
  | 3 => ("StairsThatGo$Day", "line", "[I", true)
  | 4 => ("StairsThatGo$Day", "crowd", "[I", true)
  | 5 => ("StairsThatGo$Day", "stairs", "I", false)
  | 6 => ("StairsThatGo$Day", "people", "I", false)
  | 7 => ("StairsThatGo$Day", "coming", "I", false)
  | 8 => ("StairsThatGo$Day", "arrived", "I", false)
  | 9 => ("StairsThatGo$Day", "waiting", "I", false)
  | 10 => ("StairsThatGo$Day", "turnTick", "I", false)
  | 11 => ("StairsThatGo$Day", "turnWays", "I", false)
  | 12 => ("StairsThatGo$Day", "waits", "I", false)
  | 13 => ("StairsThatGo$Day", "energy", "I", false)
  | 14 => ("StairsThatGo$Day", "jams", "I", false)
  | _ => ("StairsThatGo$Day", "trips", "I", false)
def tyX0 : Nat → FieldType := fun k => match k with
  | 0 => .array (.object "StairsThatGo$Rider")
  | 1 => .array (.object "StairsThatGo$Flight")
  | 2 => .array .int
  | 3 => .array .int
  | 4 => .array .int
  | 5 => .int
  | 6 => .int
  | 7 => .int
  | 8 => .int
  | 9 => .int
  | 10 => .int
  | 11 => .int
  | 12 => .int
  | 13 => .int
  | 14 => .int
  | _ => .int
abbrev wsX00 : List Cond := u_ws RX0 TX0 16
theorem nmX0 : ∀ a, a < 16 → ∀ b, b < 16 → a ≠ b → (TX0 a).2.1 ≠ (TX0 b).2.1 := by decide +kernel
theorem tyX0_ok : ∀ k, k < 16 → parseFieldDescriptor (TX0 k).2.2.1 = some (tyX0 k) := by decide +kernel
abbrev cX0_init : ByteArray := prog_2_method_1_code
def yX0_init : MethodName := ⟨RX0, "<init>", "()V"⟩
abbrev cX0_load : ByteArray := prog_2_method_2_code
def yX0_load : MethodName := ⟨RX0, "load", "(LStairsThatGo$Plan;I)V"⟩
abbrev cX0_lineUp : ByteArray := prog_2_method_3_code
def yX0_lineUp : MethodName := ⟨RX0, "lineUp", "(I)V"⟩
abbrev cX0_copyFrom : ByteArray := prog_2_method_4_code
def yX0_copyFrom : MethodName := ⟨RX0, "copyFrom", "(LStairsThatGo$Day;)V"⟩
abbrev cX0_loadAllDay : ByteArray := prog_2_method_5_code
def yX0_loadAllDay : MethodName := ⟨RX0, "loadAllDay", "(LStairsThatGo$Plan;I)V"⟩
abbrev cX0_setPaces : ByteArray := prog_2_method_6_code
def yX0_setPaces : MethodName := ⟨RX0, "setPaces", "(I)V"⟩
abbrev cX0_turnAt : ByteArray := prog_2_method_7_code
def yX0_turnAt : MethodName := ⟨RX0, "turnAt", "(II)V"⟩
abbrev cX0_keepStanding : ByteArray := prog_2_method_8_code
def yX0_keepStanding : MethodName := ⟨RX0, "keepStanding", "(I)V"⟩
abbrev cX0_run : ByteArray := prog_2_method_9_code
def yX0_run : MethodName := ⟨RX0, "run", "(II)V"⟩
abbrev cX0_runWaits : ByteArray := prog_2_method_10_code
def yX0_runWaits : MethodName := ⟨RX0, "runWaits", "(II)V"⟩
abbrev cX0_passTick : ByteArray := prog_2_method_11_code
def yX0_passTick : MethodName := ⟨RX0, "passTick", "(I)V"⟩
abbrev cX0_arrive : ByteArray := prog_2_method_12_code
def yX0_arrive : MethodName := ⟨RX0, "arrive", "(I)V"⟩
abbrev cX0_turn : ByteArray := prog_2_method_13_code
def yX0_turn : MethodName := ⟨RX0, "turn", "(I)V"⟩
abbrev cX0_letAllThrough : ByteArray := prog_2_method_14_code
def yX0_letAllThrough : MethodName := ⟨RX0, "letAllThrough", "(II)V"⟩
abbrev cX0_advance : ByteArray := prog_2_method_15_code
def yX0_advance : MethodName := ⟨RX0, "advance", "(LStairsThatGo$Flight;I)V"⟩
abbrev cX0_land : ByteArray := prog_2_method_16_code
def yX0_land : MethodName := ⟨RX0, "land", "(LStairsThatGo$Flight;II)V"⟩
abbrev cX0_walk : ByteArray := prog_2_method_17_code
def yX0_walk : MethodName := ⟨RX0, "walk", "(LStairsThatGo$Flight;)V"⟩
abbrev cX0_leave : ByteArray := prog_2_method_18_code
def yX0_leave : MethodName := ⟨RX0, "leave", "(II)V"⟩
abbrev cX0_firstOnLanding : ByteArray := prog_2_method_19_code
def yX0_firstOnLanding : MethodName := ⟨RX0, "firstOnLanding", "(I)I"⟩
abbrev cX0_board : ByteArray := prog_2_method_20_code
def yX0_board : MethodName := ⟨RX0, "board", "(II)V"⟩
abbrev cX0_firstToBoard : ByteArray := prog_2_method_21_code
def yX0_firstToBoard : MethodName := ⟨RX0, "firstToBoard", "(LStairsThatGo$Flight;I)I"⟩
abbrev cX0_mayBoard : ByteArray := prog_2_method_22_code
def yX0_mayBoard : MethodName := ⟨RX0, "mayBoard", "(ILStairsThatGo$Flight;I)Z"⟩
abbrev cX0_weigh : ByteArray := prog_2_method_23_code
def yX0_weigh : MethodName := ⟨RX0, "weigh", "(I)V"⟩
abbrev cX0_letWalkersFall : ByteArray := prog_2_method_24_code
def yX0_letWalkersFall : MethodName := ⟨RX0, "letWalkersFall", "(I)V"⟩
abbrev cX0_setOf : ByteArray := prog_2_method_25_code
def yX0_setOf : MethodName := ⟨RX0, "setOf", "(I)I"⟩
abbrev cX0_setOfFallen : ByteArray := prog_2_method_26_code
def yX0_setOfFallen : MethodName := ⟨RX0, "setOfFallen", "()I"⟩
abbrev cX0_tripDigits : ByteArray := prog_2_method_27_code
def yX0_tripDigits : MethodName := ⟨RX0, "tripDigits", "()I"⟩
abbrev cX0_countThrough : ByteArray := prog_2_method_28_code
def yX0_countThrough : MethodName := ⟨RX0, "countThrough", "(I)I"⟩
abbrev cX0_lastThrough : ByteArray := prog_2_method_29_code
def yX0_lastThrough : MethodName := ⟨RX0, "lastThrough", "()I"⟩
def RX1 : String := "StairsThatGo$Flight"
def TX1 : u_T := fun k => match k with
  | 0 => ("StairsThatGo$Flight", "spot", "[I", true)
  | 1 => ("StairsThatGo$Flight", "length", "I", false)
  | 2 => ("StairsThatGo$Flight", "way", "I", false)
  | 3 => ("StairsThatGo$Flight", "pace", "I", false)
  | 4 => ("StairsThatGo$Flight", "trip", "I", false)
  | _ => ("StairsThatGo$Flight", "load", "I", false)
def tyX1 : Nat → FieldType := fun k => match k with
  | 0 => .array .int
  | 1 => .int
  | 2 => .int
  | 3 => .int
  | 4 => .int
  | _ => .int
abbrev wsX10 : List Cond := u_ws RX1 TX1 6
theorem nmX1 : ∀ a, a < 6 → ∀ b, b < 6 → a ≠ b → (TX1 a).2.1 ≠ (TX1 b).2.1 := by decide +kernel
theorem tyX1_ok : ∀ k, k < 6 → parseFieldDescriptor (TX1 k).2.2.1 = some (tyX1 k) := by decide +kernel
abbrev cX1_init : ByteArray := prog_3_method_1_code
def yX1_init : MethodName := ⟨RX1, "<init>", "()V"⟩
abbrev cX1_begin : ByteArray := prog_3_method_2_code
def yX1_begin : MethodName := ⟨RX1, "begin", "(III)V"⟩
abbrev cX1_copyFrom : ByteArray := prog_3_method_3_code
def yX1_copyFrom : MethodName := ⟨RX1, "copyFrom", "(LStairsThatGo$Flight;)V"⟩
abbrev cX1_moves : ByteArray := prog_3_method_4_code
def yX1_moves : MethodName := ⟨RX1, "moves", "()Z"⟩
abbrev cX1_startFloor : ByteArray := prog_3_method_5_code
def yX1_startFloor : MethodName := ⟨RX1, "startFloor", "()I"⟩
abbrev cX1_endFloor : ByteArray := prog_3_method_6_code
def yX1_endFloor : MethodName := ⟨RX1, "endFloor", "()I"⟩
abbrev cX1_who : ByteArray := prog_3_method_7_code
def yX1_who : MethodName := ⟨RX1, "who", "(II)I"⟩
abbrev cX1_put : ByteArray := prog_3_method_8_code
def yX1_put : MethodName := ⟨RX1, "put", "(III)V"⟩
abbrev cX1_empty : ByteArray := prog_3_method_9_code
def yX1_empty : MethodName := ⟨RX1, "empty", "()V"⟩
abbrev cX1_countOnLastStep : ByteArray := prog_3_method_10_code
def yX1_countOnLastStep : MethodName := ⟨RX1, "countOnLastStep", "()I"⟩
abbrev cX1_goOneStep : ByteArray := prog_3_method_11_code
def yX1_goOneStep : MethodName := ⟨RX1, "goOneStep", "()V"⟩
abbrev cX1_turnRound : ByteArray := prog_3_method_12_code
def yX1_turnRound : MethodName := ⟨RX1, "turnRound", "()V"⟩
def RX2 : String := "StairsThatGo$Plan"
def TX2 : u_T := fun k => match k with
  | 0 => ("StairsThatGo$Plan", "stair", "[[I", true)
  | 1 => ("StairsThatGo$Plan", "person", "[[I", true)
  | 2 => ("StairsThatGo$Plan", "setting", "[I", true)
  | 3 => ("StairsThatGo$Plan", "stairs", "I", false)
  | 4 => ("StairsThatGo$Plan", "people", "I", false)
  | 5 => ("StairsThatGo$Plan", "changeTick", "I", false)
  | _ => ("StairsThatGo$Plan", "changeWays", "I", false)
def tyX2 : Nat → FieldType := fun k => match k with
  | 0 => .array (.array .int)
  | 1 => .array (.array .int)
  | 2 => .array .int
  | 3 => .int
  | 4 => .int
  | 5 => .int
  | _ => .int
abbrev wsX20 : List Cond := u_ws RX2 TX2 7
theorem nmX2 : ∀ a, a < 7 → ∀ b, b < 7 → a ≠ b → (TX2 a).2.1 ≠ (TX2 b).2.1 := by decide +kernel
theorem tyX2_ok : ∀ k, k < 7 → parseFieldDescriptor (TX2 k).2.2.1 = some (tyX2 k) := by decide +kernel
abbrev cX2_init : ByteArray := prog_4_method_1_code
def yX2_init : MethodName := ⟨RX2, "<init>", "()V"⟩
abbrev cX2_copyFrom : ByteArray := prog_4_method_2_code
def yX2_copyFrom : MethodName := ⟨RX2, "copyFrom", "(LStairsThatGo$Plan;)V"⟩
abbrev cX2_addPerson : ByteArray := prog_4_method_3_code
def yX2_addPerson : MethodName := ⟨RX2, "addPerson", "(III)V"⟩
abbrev cX2_removePerson : ByteArray := prog_4_method_4_code
def yX2_removePerson : MethodName := ⟨RX2, "removePerson", "(I)V"⟩
abbrev cX2_countUp : ByteArray := prog_4_method_5_code
def yX2_countUp : MethodName := ⟨RX2, "countUp", "()I"⟩
def RX3 : String := "StairsThatGo$Rider"
def TX3 : u_T := fun k => match k with
  | 0 => ("StairsThatGo$Rider", "tick", "I", false)
  | 1 => ("StairsThatGo$Rider", "floor", "I", false)
  | 2 => ("StairsThatGo$Rider", "kind", "I", false)
  | 3 => ("StairsThatGo$Rider", "weight", "I", false)
  | 4 => ("StairsThatGo$Rider", "phase", "I", false)
  | 5 => ("StairsThatGo$Rider", "stair", "I", false)
  | 6 => ("StairsThatGo$Rider", "stepped", "I", false)
  | 7 => ("StairsThatGo$Rider", "landing", "I", false)
  | 8 => ("StairsThatGo$Rider", "landed", "I", false)
  | 9 => ("StairsThatGo$Rider", "through", "I", false)
  | _ => ("StairsThatGo$Rider", "fell", "Z", false)
def tyX3 : Nat → FieldType := fun k => match k with
  | 0 => .int
  | 1 => .int
  | 2 => .int
  | 3 => .int
  | 4 => .int
  | 5 => .int
  | 6 => .int
  | 7 => .int
  | 8 => .int
  | 9 => .int
  | _ => .boolean
abbrev wsX30 : List Cond := u_ws RX3 TX3 11
theorem nmX3 : ∀ a, a < 11 → ∀ b, b < 11 → a ≠ b → (TX3 a).2.1 ≠ (TX3 b).2.1 := by decide +kernel
theorem tyX3_ok : ∀ k, k < 11 → parseFieldDescriptor (TX3 k).2.2.1 = some (tyX3 k) := by decide +kernel
abbrev cX3_init : ByteArray := prog_5_method_1_code
def yX3_init : MethodName := ⟨RX3, "<init>", "()V"⟩
abbrev cX3_begin : ByteArray := prog_5_method_2_code
def yX3_begin : MethodName := ⟨RX3, "begin", "(III)V"⟩
abbrev cX3_copyFrom : ByteArray := prog_5_method_3_code
def yX3_copyFrom : MethodName := ⟨RX3, "copyFrom", "(LStairsThatGo$Rider;)V"⟩
abbrev cX3_goThrough : ByteArray := prog_5_method_4_code
def yX3_goThrough : MethodName := ⟨RX3, "goThrough", "(I)V"⟩
abbrev cX3_countWait : ByteArray := prog_5_method_5_code
def yX3_countWait : MethodName := ⟨RX3, "countWait", "()I"⟩
def RX4 : String := "StairsThatGo$Row"
def TX4 : u_T := fun k => match k with
  | 0 => ("StairsThatGo$Row", "items", "[I", true)
  | 1 => ("StairsThatGo$Row", "isThere", "Z", false)
  | 2 => ("StairsThatGo$Row", "lane", "I", false)
  | _ => ("StairsThatGo$Row", "size", "I", false)
def tyX4 : Nat → FieldType := fun k => match k with
  | 0 => .array .int
  | 1 => .boolean
  | 2 => .int
  | _ => .int
abbrev wsX40 : List Cond := u_ws RX4 TX4 4
theorem nmX4 : ∀ a, a < 4 → ∀ b, b < 4 → a ≠ b → (TX4 a).2.1 ≠ (TX4 b).2.1 := by decide +kernel
theorem tyX4_ok : ∀ k, k < 4 → parseFieldDescriptor (TX4 k).2.2.1 = some (tyX4 k) := by decide +kernel
abbrev cX4_init : ByteArray := prog_6_method_1_code
def yX4_init : MethodName := ⟨RX4, "<init>", "()V"⟩
abbrev cX4_begin : ByteArray := prog_6_method_2_code
def yX4_begin : MethodName := ⟨RX4, "begin", "(II)V"⟩
abbrev cX4_holds : ByteArray := prog_6_method_3_code
def yX4_holds : MethodName := ⟨RX4, "holds", "(II)Z"⟩
abbrev cX4_put : ByteArray := prog_6_method_4_code
def yX4_put : MethodName := ⟨RX4, "put", "(II)V"⟩
def RX5 : String := "StairsThatGo$Tape"
def TX5 : u_T := fun k => match k with
  | 0 => ("StairsThatGo$Tape", "bytes", "[I", true)
  | 1 => ("StairsThatGo$Tape", "length", "I", false)
  | 2 => ("StairsThatGo$Tape", "person", "[[I", true)
  | 3 => ("StairsThatGo$Tape", "found", "I", false)
  | _ => ("StairsThatGo$Tape", "place", "I", false)
def tyX5 : Nat → FieldType := fun k => match k with
  | 0 => .array .int
  | 1 => .int
  | 2 => .array (.array .int)
  | 3 => .int
  | _ => .int
abbrev wsX50 : List Cond := u_ws RX5 TX5 5
theorem nmX5 : ∀ a, a < 5 → ∀ b, b < 5 → a ≠ b → (TX5 a).2.1 ≠ (TX5 b).2.1 := by decide +kernel
theorem tyX5_ok : ∀ k, k < 5 → parseFieldDescriptor (TX5 k).2.2.1 = some (tyX5 k) := by decide +kernel
abbrev cX5_init : ByteArray := prog_7_method_1_code
def yX5_init : MethodName := ⟨RX5, "<init>", "()V"⟩
abbrev cX5_add : ByteArray := prog_7_method_2_code
def yX5_add : MethodName := ⟨RX5, "add", "(I)V"⟩
abbrev cX5_parse : ByteArray := prog_7_method_3_code
def yX5_parse : MethodName := ⟨RX5, "parse", "()I"⟩
abbrev cX5_parsePerson : ByteArray := prog_7_method_4_code
def yX5_parsePerson : MethodName := ⟨RX5, "parsePerson", "(I)I"⟩
abbrev cX5_parseNumber : ByteArray := prog_7_method_5_code
def yX5_parseNumber : MethodName := ⟨RX5, "parseNumber", "()I"⟩
abbrev cX5_nextByte : ByteArray := prog_7_method_6_code
def yX5_nextByte : MethodName := ⟨RX5, "nextByte", "()I"⟩
abbrev cX5_nextLetter : ByteArray := prog_7_method_7_code
def yX5_nextLetter : MethodName := ⟨RX5, "nextLetter", "()I"⟩
def RX6 : String := "StairsThatGo"
def TX6 : u_T := fun k => match k with
  | 0 => ("StairsThatGo", "plan", "LStairsThatGo$Plan;", true)
  | 1 => ("StairsThatGo", "kept", "LStairsThatGo$Plan;", true)
  | 2 => ("StairsThatGo", "isKept", "Z", false)
  | 3 => ("StairsThatGo", "tape", "LStairsThatGo$Tape;", true)
  | 4 => ("StairsThatGo", "rows", "[LStairsThatGo$Row;", true)
  | 5 => ("StairsThatGo", "day", "LStairsThatGo$Day;", true)
  | 6 => ("StairsThatGo", "trial", "LStairsThatGo$Day;", true)
  | 7 => ("StairsThatGo", "morning", "LStairsThatGo$Day;", true)
  | 8 => ("StairsThatGo", "isRun", "Z", false)
  | 9 => ("StairsThatGo", "soughtTick", "I", false)
  | 10 => ("StairsThatGo", "soughtBefore", "I", false)
  | 11 => ("StairsThatGo", "soughtAfter", "I", false)
  | _ => ("StairsThatGo", "soughtSum", "I", false)
def tyX6 : Nat → FieldType := fun k => match k with
  | 0 => .object "StairsThatGo$Plan"
  | 1 => .object "StairsThatGo$Plan"
  | 2 => .boolean
  | 3 => .object "StairsThatGo$Tape"
  | 4 => .array (.object "StairsThatGo$Row")
  | 5 => .object "StairsThatGo$Day"
  | 6 => .object "StairsThatGo$Day"
  | 7 => .object "StairsThatGo$Day"
  | 8 => .boolean
  | 9 => .int
  | 10 => .int
  | 11 => .int
  | _ => .int
abbrev wsX60 : List Cond := u_ws RX6 TX6 13
theorem nmX6 : ∀ a, a < 13 → ∀ b, b < 13 → a ≠ b → (TX6 a).2.1 ≠ (TX6 b).2.1 := by decide +kernel
theorem tyX6_ok : ∀ k, k < 13 → parseFieldDescriptor (TX6 k).2.2.1 = some (tyX6 k) := by decide +kernel
abbrev cX6_init : ByteArray := prog_1_method_1_code
def yX6_init : MethodName := ⟨RX6, "<init>", "()V"⟩
abbrev cX6_stair : ByteArray := prog_1_method_2_code
def yX6_stair : MethodName := ⟨RX6, "stair", "(II)I"⟩
abbrev cX6_of : ByteArray := prog_1_method_3_code
def yX6_of : MethodName := ⟨RX6, "of", "(III)I"⟩
abbrev cX6_set : ByteArray := prog_1_method_4_code
def yX6_set : MethodName := ⟨RX6, "set", "(II)I"⟩
abbrev cX6_change : ByteArray := prog_1_method_5_code
def yX6_change : MethodName := ⟨RX6, "change", "(II)I"⟩
abbrev cX6_person : ByteArray := prog_1_method_6_code
def yX6_person : MethodName := ⟨RX6, "person", "(III)I"⟩
abbrev cX6_told : ByteArray := prog_1_method_7_code
def yX6_told : MethodName := ⟨RX6, "told", "(II)I"⟩
abbrev cX6_strike : ByteArray := prog_1_method_8_code
def yX6_strike : MethodName := ⟨RX6, "strike", "(I)I"⟩
abbrev cX6_type : ByteArray := prog_1_method_9_code
def yX6_type : MethodName := ⟨RX6, "type", "(JI)I"⟩
abbrev cX6_people : ByteArray := prog_1_method_10_code
def yX6_people : MethodName := ⟨RX6, "people", "()I"⟩
abbrev cX6_count : ByteArray := prog_1_method_11_code
def yX6_count : MethodName := ⟨RX6, "count", "(I)I"⟩
abbrev cX6_fate : ByteArray := prog_1_method_12_code
def yX6_fate : MethodName := ⟨RX6, "fate", "(II)I"⟩
abbrev cX6_at : ByteArray := prog_1_method_13_code
def yX6_at : MethodName := ⟨RX6, "at", "(II)I"⟩
abbrev cX6_on : ByteArray := prog_1_method_14_code
def yX6_on : MethodName := ⟨RX6, "on", "(IIII)I"⟩
abbrev cX6_all : ByteArray := prog_1_method_15_code
def yX6_all : MethodName := ⟨RX6, "all", "(I)I"⟩
abbrev cX6_ways : ByteArray := prog_1_method_16_code
def yX6_ways : MethodName := ⟨RX6, "ways", "(I)I"⟩
abbrev cX6_best : ByteArray := prog_1_method_17_code
def yX6_best : MethodName := ⟨RX6, "best", "(II)I"⟩
abbrev cX6_thrift : ByteArray := prog_1_method_18_code
def yX6_thrift : MethodName := ⟨RX6, "thrift", "(II)I"⟩
abbrev cX6_costs : ByteArray := prog_1_method_19_code
def yX6_costs : MethodName := ⟨RX6, "costs", "(I)I"⟩
abbrev cX6_rules : ByteArray := prog_1_method_20_code
def yX6_rules : MethodName := ⟨RX6, "rules", "()I"⟩
abbrev cX6_stood : ByteArray := prog_1_method_21_code
def yX6_stood : MethodName := ⟨RX6, "stood", "(IIII)I"⟩
abbrev cX6_image : ByteArray := prog_1_method_22_code
def yX6_image : MethodName := ⟨RX6, "image", "()I"⟩
abbrev cX6_restore : ByteArray := prog_1_method_23_code
def yX6_restore : MethodName := ⟨RX6, "restore", "()I"⟩
abbrev cX6_film : ByteArray := prog_1_method_24_code
def yX6_film : MethodName := ⟨RX6, "film", "(IIII)I"⟩
abbrev cX6_sheet : ByteArray := prog_1_method_25_code
def yX6_sheet : MethodName := ⟨RX6, "sheet", "(III)I"⟩
abbrev cX6_drop : ByteArray := prog_1_method_26_code
def yX6_drop : MethodName := ⟨RX6, "drop", "(I)I"⟩
abbrev cX6_item : ByteArray := prog_1_method_27_code
def yX6_item : MethodName := ⟨RX6, "item", "(IIII)I"⟩
abbrev cX6_copy : ByteArray := prog_1_method_28_code
def yX6_copy : MethodName := ⟨RX6, "copy", "(IIIII)I"⟩
abbrev cX6_isBetween : ByteArray := prog_1_method_29_code
def yX6_isBetween : MethodName := ⟨RX6, "isBetween", "(III)Z"⟩
abbrev cX6_isStair : ByteArray := prog_1_method_30_code
def yX6_isStair : MethodName := ⟨RX6, "isStair", "(I)Z"⟩
abbrev cX6_isPerson : ByteArray := prog_1_method_31_code
def yX6_isPerson : MethodName := ⟨RX6, "isPerson", "(I)Z"⟩
abbrev cX6_isSheet : ByteArray := prog_1_method_32_code
def yX6_isSheet : MethodName := ⟨RX6, "isSheet", "(I)Z"⟩
abbrev cX6_orNone : ByteArray := prog_1_method_33_code
def yX6_orNone : MethodName := ⟨RX6, "orNone", "(I)I"⟩
abbrev cX6_weightOf : ByteArray := prog_1_method_34_code
def yX6_weightOf : MethodName := ⟨RX6, "weightOf", "(I)I"⟩
abbrev cX6_byteOf : ByteArray := prog_1_method_35_code
def yX6_byteOf : MethodName := ⟨RX6, "byteOf", "(JI)I"⟩
abbrev cX6_wayOf : ByteArray := prog_1_method_36_code
def yX6_wayOf : MethodName := ⟨RX6, "wayOf", "(II)I"⟩
abbrev cX6_tellAnew : ByteArray := prog_1_method_37_code
def yX6_tellAnew : MethodName := ⟨RX6, "tellAnew", "()V"⟩
abbrev cX6_toldDay : ByteArray := prog_1_method_38_code
def yX6_toldDay : MethodName := ⟨RX6, "toldDay", "()LStairsThatGo$Day;"⟩
abbrev cX6_waitsByRule : ByteArray := prog_1_method_39_code
def yX6_waitsByRule : MethodName := ⟨RX6, "waitsByRule", "(I)I"⟩
abbrev cX6_seekChange : ByteArray := prog_1_method_40_code
def yX6_seekChange : MethodName := ⟨RX6, "seekChange", "(I)V"⟩
abbrev cX6_refuse : ByteArray := prog_1_method_41_code
def yX6_refuse : MethodName := ⟨RX6, "refuse", "(IIII)I"⟩
abbrev cX6_isFilm : ByteArray := prog_1_method_42_code
def yX6_isFilm : MethodName := ⟨RX6, "isFilm", "(LStairsThatGo$Day;LStairsThatGo$Row;II)Z"⟩
def RX7 : String := "StairsThatGoModel"
def TX7 : u_T := fun k => match k with
  | 0 => ("StairsThatGoModel", "sets", "[I", true)
  | 1 => ("StairsThatGoModel", "stairs", "I", false)
  | 2 => ("StairsThatGoModel", "stairParts", "[I", true)
  | 3 => ("StairsThatGoModel", "changeTick", "I", false)
  | 4 => ("StairsThatGoModel", "changeWays", "I", false)
  | 5 => ("StairsThatGoModel", "people", "I", false)
  | 6 => ("StairsThatGoModel", "parts", "[I", true)
  | 7 => ("StairsThatGoModel", "tape", "[I", true)
  | 8 => ("StairsThatGoModel", "taped", "I", false)
  | 9 => ("StairsThatGoModel", "at", "I", false)
  | 10 => ("StairsThatGoModel", "wrong", "Z", false)
  | 11 => ("StairsThatGoModel", "read", "[I", true)
  | 12 => ("StairsThatGoModel", "ways", "[I", true)
  | 13 => ("StairsThatGoModel", "waysThen", "[I", true)
  | 14 => ("StairsThatGoModel", "paces", "[I", true)
  | 15 => ("StairsThatGoModel", "changeAt", "I", false)
  | 16 => ("StairsThatGoModel", "rule", "I", false)
  | 17 => ("StairsThatGoModel", "without", "I", false)
  | 18 => ("StairsThatGoModel", "state", "[I", true)
  | 19 => ("StairsThatGoModel", "kindNow", "[I", true)
  | 20 => ("StairsThatGoModel", "onStair", "[I", true)
  | 21 => ("StairsThatGoModel", "onStep", "[I", true)
  | 22 => ("StairsThatGoModel", "onPlace", "[I", true)
  | 23 => ("StairsThatGoModel", "landing", "[I", true)
  | 24 => ("StairsThatGoModel", "landed", "[I", true)
  | 25 => ("StairsThatGoModel", "stepped", "[I", true)
  | 26 => ("StairsThatGoModel", "by", "[I", true)
  | 27 => ("StairsThatGoModel", "through", "[I", true)
  | 28 => ("StairsThatGoModel", "waited", "[I", true)
  | 29 => ("StairsThatGoModel", "wayNow", "[I", true)
  | 30 => ("StairsThatGoModel", "tripped", "[I", true)
  | 31 => ("StairsThatGoModel", "fell", "I", false)
  | 32 => ("StairsThatGoModel", "jams", "I", false)
  | 33 => ("StairsThatGoModel", "trips", "I", false)
  | 34 => ("StairsThatGoModel", "energy", "I", false)
  | 35 => ("StairsThatGoModel", "sets4", "[I", true)
  | 36 => ("StairsThatGoModel", "trippedAt", "[I", true)
  | 37 => ("StairsThatGoModel", "whoAt", "[I", true)
  | 38 => ("StairsThatGoModel", "image", "[I", true)
  | 39 => ("StairsThatGoModel", "kept", "Z", false)
  | 40 => ("StairsThatGoModel", "lanes", "[I", true)
  | 41 => ("StairsThatGoModel", "sizes", "[I", true)
  | 42 => ("StairsThatGoModel", "items", "[I", true)
  | _ => ("StairsThatGoModel", "moved", "[I", true)
def tyX7 : Nat → FieldType := fun k => match k with
  | 0 => .array .int
  | 1 => .int
  | 2 => .array .int
  | 3 => .int
  | 4 => .int
  | 5 => .int
  | 6 => .array .int
  | 7 => .array .int
  | 8 => .int
  | 9 => .int
  | 10 => .boolean
  | 11 => .array .int
  | 12 => .array .int
  | 13 => .array .int
  | 14 => .array .int
  | 15 => .int
  | 16 => .int
  | 17 => .int
  | 18 => .array .int
  | 19 => .array .int
  | 20 => .array .int
  | 21 => .array .int
  | 22 => .array .int
  | 23 => .array .int
  | 24 => .array .int
  | 25 => .array .int
  | 26 => .array .int
  | 27 => .array .int
  | 28 => .array .int
  | 29 => .array .int
  | 30 => .array .int
  | 31 => .int
  | 32 => .int
  | 33 => .int
  | 34 => .int
  | 35 => .array .int
  | 36 => .array .int
  | 37 => .array .int
  | 38 => .array .int
  | 39 => .boolean
  | 40 => .array .int
  | 41 => .array .int
  | 42 => .array .int
  | _ => .array .int
abbrev wsX70 : List Cond := u_ws RX7 TX7 44
theorem nmX7 : ∀ a, a < 44 → ∀ b, b < 44 → a ≠ b → (TX7 a).2.1 ≠ (TX7 b).2.1 := by decide +kernel
theorem tyX7_ok : ∀ k, k < 44 → parseFieldDescriptor (TX7 k).2.2.1 = some (tyX7 k) := by decide +kernel
abbrev cX7_in : ByteArray := prog_9_method_2_code
def yX7_in : MethodName := ⟨RX7, "in", "(JJJ)Z"⟩
abbrev cX7_init : ByteArray := prog_9_method_3_code
def yX7_init : MethodName := ⟨RX7, "<init>", "()V"⟩
abbrev cX7_isStair : ByteArray := prog_9_method_4_code
def yX7_isStair : MethodName := ⟨RX7, "isStair", "(I)Z"⟩
abbrev cX7_isOne : ByteArray := prog_9_method_5_code
def yX7_isOne : MethodName := ⟨RX7, "isOne", "(I)Z"⟩
abbrev cX7_isOf : ByteArray := prog_9_method_6_code
def yX7_isOf : MethodName := ⟨RX7, "isOf", "(II)Z"⟩
abbrev cX7_stair : ByteArray := prog_9_method_7_code
def yX7_stair : MethodName := ⟨RX7, "stair", "(II)I"⟩
abbrev cX7_of : ByteArray := prog_9_method_8_code
def yX7_of : MethodName := ⟨RX7, "of", "(III)I"⟩
abbrev cX7_isSet : ByteArray := prog_9_method_9_code
def yX7_isSet : MethodName := ⟨RX7, "isSet", "(II)Z"⟩
abbrev cX7_set : ByteArray := prog_9_method_10_code
def yX7_set : MethodName := ⟨RX7, "set", "(II)I"⟩
abbrev cX7_change : ByteArray := prog_9_method_11_code
def yX7_change : MethodName := ⟨RX7, "change", "(II)I"⟩
abbrev cX7_comes : ByteArray := prog_9_method_12_code
def yX7_comes : MethodName := ⟨RX7, "comes", "(III)I"⟩
abbrev cX7_person : ByteArray := prog_9_method_13_code
def yX7_person : MethodName := ⟨RX7, "person", "(III)I"⟩
abbrev cX7_weightOf : ByteArray := prog_9_method_14_code
def yX7_weightOf : MethodName := ⟨RX7, "weightOf", "(I)I"⟩
abbrev cX7_told : ByteArray := prog_9_method_15_code
def yX7_told : MethodName := ⟨RX7, "told", "(II)I"⟩
abbrev cX7_strike : ByteArray := prog_9_method_16_code
def yX7_strike : MethodName := ⟨RX7, "strike", "(I)I"⟩
abbrev cX7_type : ByteArray := prog_9_method_17_code
def yX7_type : MethodName := ⟨RX7, "type", "(JI)I"⟩
abbrev cX7_here : ByteArray := prog_9_method_18_code
def yX7_here : MethodName := ⟨RX7, "here", "()I"⟩
abbrev cX7_number : ByteArray := prog_9_method_19_code
def yX7_number : MethodName := ⟨RX7, "number", "(I)I"⟩
abbrev cX7_letter : ByteArray := prog_9_method_20_code
def yX7_letter : MethodName := ⟨RX7, "letter", "(IIIII)I"⟩
abbrev cX7_people : ByteArray := prog_9_method_21_code
def yX7_people : MethodName := ⟨RX7, "people", "()I"⟩
abbrev cX7_count : ByteArray := prog_9_method_22_code
def yX7_count : MethodName := ⟨RX7, "count", "(I)I"⟩
abbrev cX7_asTold : ByteArray := prog_9_method_23_code
def yX7_asTold : MethodName := ⟨RX7, "asTold", "()V"⟩
abbrev cX7_isOn : ByteArray := prog_9_method_24_code
def yX7_isOn : MethodName := ⟨RX7, "isOn", "(II)Z"⟩
abbrev cX7_who : ByteArray := prog_9_method_25_code
def yX7_who : MethodName := ⟨RX7, "who", "(III)I"⟩
abbrev cX7_weight : ByteArray := prog_9_method_26_code
def yX7_weight : MethodName := ⟨RX7, "weight", "(I)I"⟩
abbrev cX7_goes : ByteArray := prog_9_method_27_code
def yX7_goes : MethodName := ⟨RX7, "goes", "(I)Z"⟩
abbrev cX7_changes : ByteArray := prog_9_method_28_code
def yX7_changes : MethodName := ⟨RX7, "changes", "(I)V"⟩
abbrev cX7_goesOne : ByteArray := prog_9_method_29_code
def yX7_goesOne : MethodName := ⟨RX7, "goesOne", "(II)Z"⟩
abbrev cX7_walks : ByteArray := prog_9_method_30_code
def yX7_walks : MethodName := ⟨RX7, "walks", "(I)V"⟩
abbrev cX7_leaves : ByteArray := prog_9_method_31_code
def yX7_leaves : MethodName := ⟨RX7, "leaves", "(I)V"⟩
abbrev cX7_may : ByteArray := prog_9_method_32_code
def yX7_may : MethodName := ⟨RX7, "may", "(III)Z"⟩
abbrev cX7_stepsOn : ByteArray := prog_9_method_33_code
def yX7_stepsOn : MethodName := ⟨RX7, "stepsOn", "(II)V"⟩
abbrev cX7_loads : ByteArray := prog_9_method_34_code
def yX7_loads : MethodName := ⟨RX7, "loads", "(I)V"⟩
abbrev cX7_notes : ByteArray := prog_9_method_35_code
def yX7_notes : MethodName := ⟨RX7, "notes", "(I)V"⟩
abbrev cX7_begins : ByteArray := prog_9_method_36_code
def yX7_begins : MethodName := ⟨RX7, "begins", "()V"⟩
abbrev cX7_runs : ByteArray := prog_9_method_37_code
def yX7_runs : MethodName := ⟨RX7, "runs", "()V"⟩
abbrev cX7_waits : ByteArray := prog_9_method_38_code
def yX7_waits : MethodName := ⟨RX7, "waits", "()I"⟩
abbrev cX7_last : ByteArray := prog_9_method_39_code
def yX7_last : MethodName := ⟨RX7, "last", "()I"⟩
abbrev cX7_throughBy : ByteArray := prog_9_method_40_code
def yX7_throughBy : MethodName := ⟨RX7, "throughBy", "(I)I"⟩
abbrev cX7_fate : ByteArray := prog_9_method_41_code
def yX7_fate : MethodName := ⟨RX7, "fate", "(II)I"⟩
abbrev cX7_at : ByteArray := prog_9_method_42_code
def yX7_at : MethodName := ⟨RX7, "at", "(II)I"⟩
abbrev cX7_on : ByteArray := prog_9_method_43_code
def yX7_on : MethodName := ⟨RX7, "on", "(IIII)I"⟩
abbrev cX7_all : ByteArray := prog_9_method_44_code
def yX7_all : MethodName := ⟨RX7, "all", "(I)I"⟩
abbrev cX7_lays : ByteArray := prog_9_method_45_code
def yX7_lays : MethodName := ⟨RX7, "lays", "(I[I)V"⟩
abbrev cX7_waysMany : ByteArray := prog_9_method_46_code
def yX7_waysMany : MethodName := ⟨RX7, "waysMany", "()I"⟩
abbrev cX7_ways : ByteArray := prog_9_method_47_code
def yX7_ways : MethodName := ⟨RX7, "ways", "(I)I"⟩
abbrev cX7_best : ByteArray := prog_9_method_48_code
def yX7_best : MethodName := ⟨RX7, "best", "(II)I"⟩
abbrev cX7_thrift : ByteArray := prog_9_method_49_code
def yX7_thrift : MethodName := ⟨RX7, "thrift", "(II)I"⟩
abbrev cX7_costs : ByteArray := prog_9_method_50_code
def yX7_costs : MethodName := ⟨RX7, "costs", "(I)I"⟩
abbrev cX7_rules : ByteArray := prog_9_method_51_code
def yX7_rules : MethodName := ⟨RX7, "rules", "()I"⟩
abbrev cX7_stood : ByteArray := prog_9_method_52_code
def yX7_stood : MethodName := ⟨RX7, "stood", "(IIII)I"⟩
abbrev cX7_saves : ByteArray := prog_9_method_53_code
def yX7_saves : MethodName := ⟨RX7, "saves", "([I[II)I"⟩
abbrev cX7_gives : ByteArray := prog_9_method_54_code
def yX7_gives : MethodName := ⟨RX7, "gives", "([II[I)I"⟩
abbrev cX7_image : ByteArray := prog_9_method_55_code
def yX7_image : MethodName := ⟨RX7, "image", "()I"⟩
abbrev cX7_restore : ByteArray := prog_9_method_56_code
def yX7_restore : MethodName := ⟨RX7, "restore", "()I"⟩
abbrev cX7_isSheet : ByteArray := prog_9_method_57_code
def yX7_isSheet : MethodName := ⟨RX7, "isSheet", "(I)Z"⟩
abbrev cX7_isLane : ByteArray := prog_9_method_58_code
def yX7_isLane : MethodName := ⟨RX7, "isLane", "(I)Z"⟩
abbrev cX7_finds : ByteArray := prog_9_method_59_code
def yX7_finds : MethodName := ⟨RX7, "finds", "(IIII)I"⟩
abbrev cX7_film : ByteArray := prog_9_method_60_code
def yX7_film : MethodName := ⟨RX7, "film", "(IIII)I"⟩
abbrev cX7_sheet : ByteArray := prog_9_method_61_code
def yX7_sheet : MethodName := ⟨RX7, "sheet", "(III)I"⟩
abbrev cX7_drop : ByteArray := prog_9_method_62_code
def yX7_drop : MethodName := ⟨RX7, "drop", "(I)I"⟩
abbrev cX7_item : ByteArray := prog_9_method_63_code
def yX7_item : MethodName := ⟨RX7, "item", "(IIII)I"⟩
abbrev cX7_copy : ByteArray := prog_9_method_64_code
def yX7_copy : MethodName := ⟨RX7, "copy", "(IIIII)I"⟩
def RJx145de : String := "java/io/Serializable"
def RJx9f9b0 : String := "java/lang/CharSequence"
def RJ11 : String := "java/lang/Character"
abbrev cJ11_isValidCodePoint_9a6ad : ByteArray := prog_10_method_11_code
def yJ11_isValidCodePoint_9a6ad : MethodName := ⟨RJ11, "isValidCodePoint", "(I)Z"⟩
abbrev cJ11_highSurrogate_5068e : ByteArray := prog_10_method_28_code
def yJ11_highSurrogate_5068e : MethodName := ⟨RJ11, "highSurrogate", "(I)C"⟩
abbrev cJ11_lowSurrogate_5068e : ByteArray := prog_10_method_29_code
def yJ11_lowSurrogate_5068e : MethodName := ⟨RJ11, "lowSurrogate", "(I)C"⟩
def RJxb160c : String := "java/lang/Comparable"
def RJ9 : String := "java/lang/Math"
abbrev cJ9_max_7cf53 : ByteArray := prog_11_method_65_code
def yJ9_max_7cf53 : MethodName := ⟨RJ9, "max", "(II)I"⟩
abbrev cJ9_min_7cf53 : ByteArray := prog_11_method_69_code
def yJ9_min_7cf53 : MethodName := ⟨RJ9, "min", "(II)I"⟩
def RJ0 : String := "java/lang/String"
abbrev cJ0_length_8abf5 : ByteArray := prog_12_method_54_code
def yJ0_length_8abf5 : MethodName := ⟨RJ0, "length", "()I"⟩
abbrev cJ0_indexOf_0f7a4 : ByteArray := prog_12_method_79_code
def yJ0_indexOf_0f7a4 : MethodName := ⟨RJ0, "indexOf", "(I)I"⟩
abbrev cJ0_indexOf_7cf53 : ByteArray := prog_12_method_80_code
def yJ0_indexOf_7cf53 : MethodName := ⟨RJ0, "indexOf", "(II)I"⟩
abbrev cJ0_coder_7d493 : ByteArray := prog_12_method_152_code
def yJ0_coder_7d493 : MethodName := ⟨RJ0, "coder", "()B"⟩
abbrev cJ0_isLatin1_aae02 : ByteArray := prog_12_method_154_code
def yJ0_isLatin1_aae02 : MethodName := ⟨RJ0, "isLatin1", "()Z"⟩
abbrev cJ0_checkBoundsBeginEnd_23922 : ByteArray := prog_12_method_158_code
def yJ0_checkBoundsBeginEnd_23922 : MethodName := ⟨RJ0, "checkBoundsBeginEnd", "(III)V"⟩
def RJ1 : String := "java/lang/StringLatin1"
abbrev cJ1_canEncode_9a6ad : ByteArray := prog_13_method_4_code
def yJ1_canEncode_9a6ad : MethodName := ⟨RJ1, "canEncode", "(I)Z"⟩
abbrev cJ1_indexOf_4cfef : ByteArray := prog_13_method_22_code
def yJ1_indexOf_4cfef : MethodName := ⟨RJ1, "indexOf", "([BIII)I"⟩
abbrev cJ1_indexOfChar_4cfef : ByteArray := prog_13_method_23_code
def yJ1_indexOfChar_4cfef : MethodName := ⟨RJ1, "indexOfChar", "([BIII)I"⟩
def RJ2 : String := "java/lang/StringUTF16"
abbrev cJ2_getChar_3b067 : ByteArray := prog_14_method_5_code
def yJ2_getChar_3b067 : MethodName := ⟨RJ2, "getChar", "([BI)C"⟩
abbrev cJ2_length_9d52b : ByteArray := prog_14_method_6_code
def yJ2_length_9d52b : MethodName := ⟨RJ2, "length", "([B)I"⟩
abbrev cJ2_indexOf_4cfef : ByteArray := prog_14_method_40_code
def yJ2_indexOf_4cfef : MethodName := ⟨RJ2, "indexOf", "([BIII)I"⟩
abbrev cJ2_indexOfChar_4cfef : ByteArray := prog_14_method_47_code
def yJ2_indexOfChar_4cfef : MethodName := ⟨RJ2, "indexOfChar", "([BIII)I"⟩
abbrev cJ2_indexOfCharUnsafe_4cfef : ByteArray := prog_14_method_48_code
def yJ2_indexOfCharUnsafe_4cfef : MethodName := ⟨RJ2, "indexOfCharUnsafe", "([BIII)I"⟩
abbrev cJ2_indexOfSupplementary_4cfef : ByteArray := prog_14_method_49_code
def yJ2_indexOfSupplementary_4cfef : MethodName := ⟨RJ2, "indexOfSupplementary", "([BIII)I"⟩
abbrev cJ2_checkBoundsBeginEnd_d044e : ByteArray := prog_14_method_93_code
def yJ2_checkBoundsBeginEnd_d044e : MethodName := ⟨RJ2, "checkBoundsBeginEnd", "(II[B)V"⟩
def RJ10 : String := "java/lang/System"
def RJxfd54e : String := "java/lang/constant/Constable"
def RJx3cf43 : String := "java/lang/constant/ConstantDesc"
def RJ7 : String := "java/util/Arrays"
abbrev cJ7_fill_53178 : ByteArray := prog_16_method_103_code
def yJ7_fill_53178 : MethodName := ⟨RJ7, "fill", "([II)V"⟩
def RJ3 : String := "jdk/internal/util/Preconditions"
abbrev cJ3_checkFromToIndex_8c36e : ByteArray := prog_17_method_12_code
def yJ3_checkFromToIndex_8c36e : MethodName := ⟨RJ3, "checkFromToIndex", "(IIILjava/util/function/BiFunction;)I"⟩
abbrev vwCl : List vw_C := [(RX0, TX0, 16), (RX1, TX1, 6), (RX2, TX2, 7), (RX3, TX3, 11), (RX4, TX4, 4), (RX5, TX5, 5), (RX6, TX6, 13), (RX7, TX7, 44)]
def RL : String := "StairsThatGoLaw"
abbrev cL_law : ByteArray := code
def yL_law : MethodName := ⟨RL, "law", "([I)Z"⟩
