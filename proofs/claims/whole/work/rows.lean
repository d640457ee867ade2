section
/-- a private method of a class that the tables say can be made, by its rows of tables_1 -/
def lw_okq (q : MethodName × Nat) : Prop := (q.1.cls ≠ "java/lang/invoke/MethodHandle" ∧ q.1.cls ≠ "java/lang/invoke/VarHandle") ∧ Cond.instantiable q.1.cls q.2 ∈ tables_1 ∧ Cond.privateMethod q.1 ∈ tables_1 ∧ Cond.instanceMethod q.1 ∈ tables_1
theorem lw_p0 : lw_okq (⟨"StairsThatGo", "tellAnew", "()V"⟩, 13) := ⟨⟨by decide +kernel, by decide +kernel⟩, List.mem_of_getElem? (i := 18) (by decide +kernel), List.mem_of_getElem? (i := 354) (by decide +kernel), List.mem_of_getElem? (i := 355) (by decide +kernel)⟩
theorem lw_p1 : lw_okq (⟨"StairsThatGo", "isStair", "(I)Z"⟩, 13) := ⟨⟨by decide +kernel, by decide +kernel⟩, List.mem_of_getElem? (i := 18) (by decide +kernel), List.mem_of_getElem? (i := 362) (by decide +kernel), List.mem_of_getElem? (i := 363) (by decide +kernel)⟩
theorem lw_p2 : lw_okq (⟨"StairsThatGo", "isPerson", "(I)Z"⟩, 13) := ⟨⟨by decide +kernel, by decide +kernel⟩, List.mem_of_getElem? (i := 18) (by decide +kernel), List.mem_of_getElem? (i := 394) (by decide +kernel), List.mem_of_getElem? (i := 395) (by decide +kernel)⟩
theorem lw_p3 : lw_okq (⟨"StairsThatGo$Tape", "parsePerson", "(I)I"⟩, 5) := ⟨⟨by decide +kernel, by decide +kernel⟩, List.mem_of_getElem? (i := 76) (by decide +kernel), List.mem_of_getElem? (i := 427) (by decide +kernel), List.mem_of_getElem? (i := 428) (by decide +kernel)⟩
theorem lw_p4 : lw_okq (⟨"StairsThatGo$Tape", "nextByte", "()I"⟩, 5) := ⟨⟨by decide +kernel, by decide +kernel⟩, List.mem_of_getElem? (i := 76) (by decide +kernel), List.mem_of_getElem? (i := 431) (by decide +kernel), List.mem_of_getElem? (i := 432) (by decide +kernel)⟩
theorem lw_p5 : lw_okq (⟨"StairsThatGo$Tape", "parseNumber", "()I"⟩, 5) := ⟨⟨by decide +kernel, by decide +kernel⟩, List.mem_of_getElem? (i := 76) (by decide +kernel), List.mem_of_getElem? (i := 435) (by decide +kernel), List.mem_of_getElem? (i := 436) (by decide +kernel)⟩
theorem lw_p6 : lw_okq (⟨"StairsThatGo$Tape", "nextLetter", "()I"⟩, 5) := ⟨⟨by decide +kernel, by decide +kernel⟩, List.mem_of_getElem? (i := 76) (by decide +kernel), List.mem_of_getElem? (i := 443) (by decide +kernel), List.mem_of_getElem? (i := 444) (by decide +kernel)⟩
theorem lw_p7 : lw_okq (⟨"StairsThatGo", "toldDay", "()LStairsThatGo$Day;"⟩, 13) := ⟨⟨by decide +kernel, by decide +kernel⟩, List.mem_of_getElem? (i := 18) (by decide +kernel), List.mem_of_getElem? (i := 543) (by decide +kernel), List.mem_of_getElem? (i := 544) (by decide +kernel)⟩
theorem lw_p8 : lw_okq (⟨"StairsThatGo$Day", "lineUp", "(I)V"⟩, 16) := ⟨⟨by decide +kernel, by decide +kernel⟩, List.mem_of_getElem? (i := 104) (by decide +kernel), List.mem_of_getElem? (i := 559) (by decide +kernel), List.mem_of_getElem? (i := 560) (by decide +kernel)⟩
theorem lw_p9 : lw_okq (⟨"StairsThatGo$Day", "passTick", "(I)V"⟩, 16) := ⟨⟨by decide +kernel, by decide +kernel⟩, List.mem_of_getElem? (i := 104) (by decide +kernel), List.mem_of_getElem? (i := 567) (by decide +kernel), List.mem_of_getElem? (i := 568) (by decide +kernel)⟩
theorem lw_p10 : lw_okq (⟨"StairsThatGo$Day", "arrive", "(I)V"⟩, 16) := ⟨⟨by decide +kernel, by decide +kernel⟩, List.mem_of_getElem? (i := 104) (by decide +kernel), List.mem_of_getElem? (i := 571) (by decide +kernel), List.mem_of_getElem? (i := 572) (by decide +kernel)⟩
theorem lw_p11 : lw_okq (⟨"StairsThatGo$Day", "turn", "(I)V"⟩, 16) := ⟨⟨by decide +kernel, by decide +kernel⟩, List.mem_of_getElem? (i := 104) (by decide +kernel), List.mem_of_getElem? (i := 575) (by decide +kernel), List.mem_of_getElem? (i := 576) (by decide +kernel)⟩
theorem lw_p12 : lw_okq (⟨"StairsThatGo$Day", "letAllThrough", "(II)V"⟩, 16) := ⟨⟨by decide +kernel, by decide +kernel⟩, List.mem_of_getElem? (i := 104) (by decide +kernel), List.mem_of_getElem? (i := 582) (by decide +kernel), List.mem_of_getElem? (i := 583) (by decide +kernel)⟩
theorem lw_p13 : lw_okq (⟨"StairsThatGo$Day", "advance", "(LStairsThatGo$Flight;I)V"⟩, 16) := ⟨⟨by decide +kernel, by decide +kernel⟩, List.mem_of_getElem? (i := 104) (by decide +kernel), List.mem_of_getElem? (i := 607) (by decide +kernel), List.mem_of_getElem? (i := 608) (by decide +kernel)⟩
theorem lw_p14 : lw_okq (⟨"StairsThatGo$Day", "land", "(LStairsThatGo$Flight;II)V"⟩, 16) := ⟨⟨by decide +kernel, by decide +kernel⟩, List.mem_of_getElem? (i := 104) (by decide +kernel), List.mem_of_getElem? (i := 619) (by decide +kernel), List.mem_of_getElem? (i := 620) (by decide +kernel)⟩
theorem lw_p15 : lw_okq (⟨"StairsThatGo$Day", "walk", "(LStairsThatGo$Flight;)V"⟩, 16) := ⟨⟨by decide +kernel, by decide +kernel⟩, List.mem_of_getElem? (i := 104) (by decide +kernel), List.mem_of_getElem? (i := 629) (by decide +kernel), List.mem_of_getElem? (i := 630) (by decide +kernel)⟩
def lw_privs_1 : List (MethodName × Nat) := [(⟨"StairsThatGo", "tellAnew", "()V"⟩, 13), (⟨"StairsThatGo", "isStair", "(I)Z"⟩, 13), (⟨"StairsThatGo", "isPerson", "(I)Z"⟩, 13), (⟨"StairsThatGo$Tape", "parsePerson", "(I)I"⟩, 5), (⟨"StairsThatGo$Tape", "nextByte", "()I"⟩, 5), (⟨"StairsThatGo$Tape", "parseNumber", "()I"⟩, 5), (⟨"StairsThatGo$Tape", "nextLetter", "()I"⟩, 5), (⟨"StairsThatGo", "toldDay", "()LStairsThatGo$Day;"⟩, 13), (⟨"StairsThatGo$Day", "lineUp", "(I)V"⟩, 16), (⟨"StairsThatGo$Day", "passTick", "(I)V"⟩, 16), (⟨"StairsThatGo$Day", "arrive", "(I)V"⟩, 16), (⟨"StairsThatGo$Day", "turn", "(I)V"⟩, 16), (⟨"StairsThatGo$Day", "letAllThrough", "(II)V"⟩, 16), (⟨"StairsThatGo$Day", "advance", "(LStairsThatGo$Flight;I)V"⟩, 16), (⟨"StairsThatGo$Day", "land", "(LStairsThatGo$Flight;II)V"⟩, 16), (⟨"StairsThatGo$Day", "walk", "(LStairsThatGo$Flight;)V"⟩, 16)]
theorem lw_r1 : ∀ q ∈ lw_privs_1, lw_okq q := List.forall_mem_cons.mpr ⟨lw_p0, List.forall_mem_cons.mpr ⟨lw_p1, List.forall_mem_cons.mpr ⟨lw_p2, List.forall_mem_cons.mpr ⟨lw_p3, List.forall_mem_cons.mpr ⟨lw_p4, List.forall_mem_cons.mpr ⟨lw_p5, List.forall_mem_cons.mpr ⟨lw_p6, List.forall_mem_cons.mpr ⟨lw_p7, List.forall_mem_cons.mpr ⟨lw_p8, List.forall_mem_cons.mpr ⟨lw_p9, List.forall_mem_cons.mpr ⟨lw_p10, List.forall_mem_cons.mpr ⟨lw_p11, List.forall_mem_cons.mpr ⟨lw_p12, List.forall_mem_cons.mpr ⟨lw_p13, List.forall_mem_cons.mpr ⟨lw_p14, List.forall_mem_cons.mpr ⟨lw_p15, fun _ h => absurd h List.not_mem_nil⟩⟩⟩⟩⟩⟩⟩⟩⟩⟩⟩⟩⟩⟩⟩⟩
theorem lw_p16 : lw_okq (⟨"StairsThatGo$Day", "leave", "(II)V"⟩, 16) := ⟨⟨by decide +kernel, by decide +kernel⟩, List.mem_of_getElem? (i := 104) (by decide +kernel), List.mem_of_getElem? (i := 634) (by decide +kernel), List.mem_of_getElem? (i := 635) (by decide +kernel)⟩
theorem lw_p17 : lw_okq (⟨"StairsThatGo$Day", "firstOnLanding", "(I)I"⟩, 16) := ⟨⟨by decide +kernel, by decide +kernel⟩, List.mem_of_getElem? (i := 104) (by decide +kernel), List.mem_of_getElem? (i := 638) (by decide +kernel), List.mem_of_getElem? (i := 639) (by decide +kernel)⟩
theorem lw_p18 : lw_okq (⟨"StairsThatGo$Day", "board", "(II)V"⟩, 16) := ⟨⟨by decide +kernel, by decide +kernel⟩, List.mem_of_getElem? (i := 104) (by decide +kernel), List.mem_of_getElem? (i := 642) (by decide +kernel), List.mem_of_getElem? (i := 643) (by decide +kernel)⟩
theorem lw_p19 : lw_okq (⟨"StairsThatGo$Day", "firstToBoard", "(LStairsThatGo$Flight;I)I"⟩, 16) := ⟨⟨by decide +kernel, by decide +kernel⟩, List.mem_of_getElem? (i := 104) (by decide +kernel), List.mem_of_getElem? (i := 646) (by decide +kernel), List.mem_of_getElem? (i := 647) (by decide +kernel)⟩
theorem lw_p20 : lw_okq (⟨"StairsThatGo$Day", "mayBoard", "(ILStairsThatGo$Flight;I)Z"⟩, 16) := ⟨⟨by decide +kernel, by decide +kernel⟩, List.mem_of_getElem? (i := 104) (by decide +kernel), List.mem_of_getElem? (i := 654) (by decide +kernel), List.mem_of_getElem? (i := 655) (by decide +kernel)⟩
theorem lw_p21 : lw_okq (⟨"StairsThatGo$Day", "weigh", "(I)V"⟩, 16) := ⟨⟨by decide +kernel, by decide +kernel⟩, List.mem_of_getElem? (i := 104) (by decide +kernel), List.mem_of_getElem? (i := 658) (by decide +kernel), List.mem_of_getElem? (i := 659) (by decide +kernel)⟩
theorem lw_p22 : lw_okq (⟨"StairsThatGo$Day", "letWalkersFall", "(I)V"⟩, 16) := ⟨⟨by decide +kernel, by decide +kernel⟩, List.mem_of_getElem? (i := 104) (by decide +kernel), List.mem_of_getElem? (i := 663) (by decide +kernel), List.mem_of_getElem? (i := 664) (by decide +kernel)⟩
theorem lw_p23 : lw_okq (⟨"StairsThatGo", "seekChange", "(I)V"⟩, 13) := ⟨⟨by decide +kernel, by decide +kernel⟩, List.mem_of_getElem? (i := 18) (by decide +kernel), List.mem_of_getElem? (i := 727) (by decide +kernel), List.mem_of_getElem? (i := 728) (by decide +kernel)⟩
theorem lw_p24 : lw_okq (⟨"StairsThatGo", "waitsByRule", "(I)I"⟩, 13) := ⟨⟨by decide +kernel, by decide +kernel⟩, List.mem_of_getElem? (i := 18) (by decide +kernel), List.mem_of_getElem? (i := 762) (by decide +kernel), List.mem_of_getElem? (i := 763) (by decide +kernel)⟩
theorem lw_p25 : lw_okq (⟨"StairsThatGo", "refuse", "(IIII)I"⟩, 13) := ⟨⟨by decide +kernel, by decide +kernel⟩, List.mem_of_getElem? (i := 18) (by decide +kernel), List.mem_of_getElem? (i := 770) (by decide +kernel), List.mem_of_getElem? (i := 771) (by decide +kernel)⟩
theorem lw_p26 : lw_okq (⟨"StairsThatGoModel", "isStair", "(I)Z"⟩, 44) := ⟨⟨by decide +kernel, by decide +kernel⟩, List.mem_of_getElem? (i := 833) (by decide +kernel), List.mem_of_getElem? (i := 989) (by decide +kernel), List.mem_of_getElem? (i := 990) (by decide +kernel)⟩
theorem lw_p27 : lw_okq (⟨"StairsThatGoModel", "comes", "(III)I"⟩, 44) := ⟨⟨by decide +kernel, by decide +kernel⟩, List.mem_of_getElem? (i := 833) (by decide +kernel), List.mem_of_getElem? (i := 1013) (by decide +kernel), List.mem_of_getElem? (i := 1014) (by decide +kernel)⟩
theorem lw_p28 : lw_okq (⟨"StairsThatGoModel", "isOne", "(I)Z"⟩, 44) := ⟨⟨by decide +kernel, by decide +kernel⟩, List.mem_of_getElem? (i := 833) (by decide +kernel), List.mem_of_getElem? (i := 1021) (by decide +kernel), List.mem_of_getElem? (i := 1022) (by decide +kernel)⟩
theorem lw_p29 : lw_okq (⟨"StairsThatGoModel", "number", "(I)I"⟩, 44) := ⟨⟨by decide +kernel, by decide +kernel⟩, List.mem_of_getElem? (i := 833) (by decide +kernel), List.mem_of_getElem? (i := 1044) (by decide +kernel), List.mem_of_getElem? (i := 1045) (by decide +kernel)⟩
theorem lw_p30 : lw_okq (⟨"StairsThatGoModel", "here", "()I"⟩, 44) := ⟨⟨by decide +kernel, by decide +kernel⟩, List.mem_of_getElem? (i := 833) (by decide +kernel), List.mem_of_getElem? (i := 1048) (by decide +kernel), List.mem_of_getElem? (i := 1049) (by decide +kernel)⟩
theorem lw_p31 : lw_okq (⟨"StairsThatGoModel", "letter", "(IIIII)I"⟩, 44) := ⟨⟨by decide +kernel, by decide +kernel⟩, List.mem_of_getElem? (i := 833) (by decide +kernel), List.mem_of_getElem? (i := 1054) (by decide +kernel), List.mem_of_getElem? (i := 1055) (by decide +kernel)⟩
def lw_privs_2 : List (MethodName × Nat) := [(⟨"StairsThatGo$Day", "leave", "(II)V"⟩, 16), (⟨"StairsThatGo$Day", "firstOnLanding", "(I)I"⟩, 16), (⟨"StairsThatGo$Day", "board", "(II)V"⟩, 16), (⟨"StairsThatGo$Day", "firstToBoard", "(LStairsThatGo$Flight;I)I"⟩, 16), (⟨"StairsThatGo$Day", "mayBoard", "(ILStairsThatGo$Flight;I)Z"⟩, 16), (⟨"StairsThatGo$Day", "weigh", "(I)V"⟩, 16), (⟨"StairsThatGo$Day", "letWalkersFall", "(I)V"⟩, 16), (⟨"StairsThatGo", "seekChange", "(I)V"⟩, 13), (⟨"StairsThatGo", "waitsByRule", "(I)I"⟩, 13), (⟨"StairsThatGo", "refuse", "(IIII)I"⟩, 13), (⟨"StairsThatGoModel", "isStair", "(I)Z"⟩, 44), (⟨"StairsThatGoModel", "comes", "(III)I"⟩, 44), (⟨"StairsThatGoModel", "isOne", "(I)Z"⟩, 44), (⟨"StairsThatGoModel", "number", "(I)I"⟩, 44), (⟨"StairsThatGoModel", "here", "()I"⟩, 44), (⟨"StairsThatGoModel", "letter", "(IIIII)I"⟩, 44)]
theorem lw_r2 : ∀ q ∈ lw_privs_2, lw_okq q := List.forall_mem_cons.mpr ⟨lw_p16, List.forall_mem_cons.mpr ⟨lw_p17, List.forall_mem_cons.mpr ⟨lw_p18, List.forall_mem_cons.mpr ⟨lw_p19, List.forall_mem_cons.mpr ⟨lw_p20, List.forall_mem_cons.mpr ⟨lw_p21, List.forall_mem_cons.mpr ⟨lw_p22, List.forall_mem_cons.mpr ⟨lw_p23, List.forall_mem_cons.mpr ⟨lw_p24, List.forall_mem_cons.mpr ⟨lw_p25, List.forall_mem_cons.mpr ⟨lw_p26, List.forall_mem_cons.mpr ⟨lw_p27, List.forall_mem_cons.mpr ⟨lw_p28, List.forall_mem_cons.mpr ⟨lw_p29, List.forall_mem_cons.mpr ⟨lw_p30, List.forall_mem_cons.mpr ⟨lw_p31, fun _ h => absurd h List.not_mem_nil⟩⟩⟩⟩⟩⟩⟩⟩⟩⟩⟩⟩⟩⟩⟩⟩
theorem lw_p32 : lw_okq (⟨"StairsThatGoModel", "asTold", "()V"⟩, 44) := ⟨⟨by decide +kernel, by decide +kernel⟩, List.mem_of_getElem? (i := 833) (by decide +kernel), List.mem_of_getElem? (i := 1066) (by decide +kernel), List.mem_of_getElem? (i := 1067) (by decide +kernel)⟩
theorem lw_p33 : lw_okq (⟨"StairsThatGoModel", "runs", "()V"⟩, 44) := ⟨⟨by decide +kernel, by decide +kernel⟩, List.mem_of_getElem? (i := 833) (by decide +kernel), List.mem_of_getElem? (i := 1070) (by decide +kernel), List.mem_of_getElem? (i := 1071) (by decide +kernel)⟩
theorem lw_p34 : lw_okq (⟨"StairsThatGoModel", "begins", "()V"⟩, 44) := ⟨⟨by decide +kernel, by decide +kernel⟩, List.mem_of_getElem? (i := 833) (by decide +kernel), List.mem_of_getElem? (i := 1074) (by decide +kernel), List.mem_of_getElem? (i := 1075) (by decide +kernel)⟩
theorem lw_p35 : lw_okq (⟨"StairsThatGoModel", "changes", "(I)V"⟩, 44) := ⟨⟨by decide +kernel, by decide +kernel⟩, List.mem_of_getElem? (i := 833) (by decide +kernel), List.mem_of_getElem? (i := 1078) (by decide +kernel), List.mem_of_getElem? (i := 1079) (by decide +kernel)⟩
theorem lw_p36 : lw_okq (⟨"StairsThatGoModel", "isOn", "(II)Z"⟩, 44) := ⟨⟨by decide +kernel, by decide +kernel⟩, List.mem_of_getElem? (i := 833) (by decide +kernel), List.mem_of_getElem? (i := 1082) (by decide +kernel), List.mem_of_getElem? (i := 1083) (by decide +kernel)⟩
theorem lw_p37 : lw_okq (⟨"StairsThatGoModel", "goes", "(I)Z"⟩, 44) := ⟨⟨by decide +kernel, by decide +kernel⟩, List.mem_of_getElem? (i := 833) (by decide +kernel), List.mem_of_getElem? (i := 1086) (by decide +kernel), List.mem_of_getElem? (i := 1087) (by decide +kernel)⟩
theorem lw_p38 : lw_okq (⟨"StairsThatGoModel", "goesOne", "(II)Z"⟩, 44) := ⟨⟨by decide +kernel, by decide +kernel⟩, List.mem_of_getElem? (i := 833) (by decide +kernel), List.mem_of_getElem? (i := 1090) (by decide +kernel), List.mem_of_getElem? (i := 1091) (by decide +kernel)⟩
theorem lw_p39 : lw_okq (⟨"StairsThatGoModel", "walks", "(I)V"⟩, 44) := ⟨⟨by decide +kernel, by decide +kernel⟩, List.mem_of_getElem? (i := 833) (by decide +kernel), List.mem_of_getElem? (i := 1094) (by decide +kernel), List.mem_of_getElem? (i := 1095) (by decide +kernel)⟩
theorem lw_p40 : lw_okq (⟨"StairsThatGoModel", "who", "(III)I"⟩, 44) := ⟨⟨by decide +kernel, by decide +kernel⟩, List.mem_of_getElem? (i := 833) (by decide +kernel), List.mem_of_getElem? (i := 1098) (by decide +kernel), List.mem_of_getElem? (i := 1099) (by decide +kernel)⟩
theorem lw_p41 : lw_okq (⟨"StairsThatGoModel", "leaves", "(I)V"⟩, 44) := ⟨⟨by decide +kernel, by decide +kernel⟩, List.mem_of_getElem? (i := 833) (by decide +kernel), List.mem_of_getElem? (i := 1102) (by decide +kernel), List.mem_of_getElem? (i := 1103) (by decide +kernel)⟩
theorem lw_p42 : lw_okq (⟨"StairsThatGoModel", "stepsOn", "(II)V"⟩, 44) := ⟨⟨by decide +kernel, by decide +kernel⟩, List.mem_of_getElem? (i := 833) (by decide +kernel), List.mem_of_getElem? (i := 1106) (by decide +kernel), List.mem_of_getElem? (i := 1107) (by decide +kernel)⟩
theorem lw_p43 : lw_okq (⟨"StairsThatGoModel", "may", "(III)Z"⟩, 44) := ⟨⟨by decide +kernel, by decide +kernel⟩, List.mem_of_getElem? (i := 833) (by decide +kernel), List.mem_of_getElem? (i := 1110) (by decide +kernel), List.mem_of_getElem? (i := 1111) (by decide +kernel)⟩
theorem lw_p44 : lw_okq (⟨"StairsThatGoModel", "loads", "(I)V"⟩, 44) := ⟨⟨by decide +kernel, by decide +kernel⟩, List.mem_of_getElem? (i := 833) (by decide +kernel), List.mem_of_getElem? (i := 1114) (by decide +kernel), List.mem_of_getElem? (i := 1115) (by decide +kernel)⟩
theorem lw_p45 : lw_okq (⟨"StairsThatGoModel", "weight", "(I)I"⟩, 44) := ⟨⟨by decide +kernel, by decide +kernel⟩, List.mem_of_getElem? (i := 833) (by decide +kernel), List.mem_of_getElem? (i := 1118) (by decide +kernel), List.mem_of_getElem? (i := 1119) (by decide +kernel)⟩
theorem lw_p46 : lw_okq (⟨"StairsThatGoModel", "notes", "(I)V"⟩, 44) := ⟨⟨by decide +kernel, by decide +kernel⟩, List.mem_of_getElem? (i := 833) (by decide +kernel), List.mem_of_getElem? (i := 1122) (by decide +kernel), List.mem_of_getElem? (i := 1123) (by decide +kernel)⟩
theorem lw_p47 : lw_okq (⟨"StairsThatGoModel", "waits", "()I"⟩, 44) := ⟨⟨by decide +kernel, by decide +kernel⟩, List.mem_of_getElem? (i := 833) (by decide +kernel), List.mem_of_getElem? (i := 1139) (by decide +kernel), List.mem_of_getElem? (i := 1140) (by decide +kernel)⟩
def lw_privs_3 : List (MethodName × Nat) := [(⟨"StairsThatGoModel", "asTold", "()V"⟩, 44), (⟨"StairsThatGoModel", "runs", "()V"⟩, 44), (⟨"StairsThatGoModel", "begins", "()V"⟩, 44), (⟨"StairsThatGoModel", "changes", "(I)V"⟩, 44), (⟨"StairsThatGoModel", "isOn", "(II)Z"⟩, 44), (⟨"StairsThatGoModel", "goes", "(I)Z"⟩, 44), (⟨"StairsThatGoModel", "goesOne", "(II)Z"⟩, 44), (⟨"StairsThatGoModel", "walks", "(I)V"⟩, 44), (⟨"StairsThatGoModel", "who", "(III)I"⟩, 44), (⟨"StairsThatGoModel", "leaves", "(I)V"⟩, 44), (⟨"StairsThatGoModel", "stepsOn", "(II)V"⟩, 44), (⟨"StairsThatGoModel", "may", "(III)Z"⟩, 44), (⟨"StairsThatGoModel", "loads", "(I)V"⟩, 44), (⟨"StairsThatGoModel", "weight", "(I)I"⟩, 44), (⟨"StairsThatGoModel", "notes", "(I)V"⟩, 44), (⟨"StairsThatGoModel", "waits", "()I"⟩, 44)]
theorem lw_r3 : ∀ q ∈ lw_privs_3, lw_okq q := List.forall_mem_cons.mpr ⟨lw_p32, List.forall_mem_cons.mpr ⟨lw_p33, List.forall_mem_cons.mpr ⟨lw_p34, List.forall_mem_cons.mpr ⟨lw_p35, List.forall_mem_cons.mpr ⟨lw_p36, List.forall_mem_cons.mpr ⟨lw_p37, List.forall_mem_cons.mpr ⟨lw_p38, List.forall_mem_cons.mpr ⟨lw_p39, List.forall_mem_cons.mpr ⟨lw_p40, List.forall_mem_cons.mpr ⟨lw_p41, List.forall_mem_cons.mpr ⟨lw_p42, List.forall_mem_cons.mpr ⟨lw_p43, List.forall_mem_cons.mpr ⟨lw_p44, List.forall_mem_cons.mpr ⟨lw_p45, List.forall_mem_cons.mpr ⟨lw_p46, List.forall_mem_cons.mpr ⟨lw_p47, fun _ h => absurd h List.not_mem_nil⟩⟩⟩⟩⟩⟩⟩⟩⟩⟩⟩⟩⟩⟩⟩⟩
theorem lw_p48 : lw_okq (⟨"StairsThatGoModel", "throughBy", "(I)I"⟩, 44) := ⟨⟨by decide +kernel, by decide +kernel⟩, List.mem_of_getElem? (i := 833) (by decide +kernel), List.mem_of_getElem? (i := 1143) (by decide +kernel), List.mem_of_getElem? (i := 1144) (by decide +kernel)⟩
theorem lw_p49 : lw_okq (⟨"StairsThatGoModel", "last", "()I"⟩, 44) := ⟨⟨by decide +kernel, by decide +kernel⟩, List.mem_of_getElem? (i := 833) (by decide +kernel), List.mem_of_getElem? (i := 1147) (by decide +kernel), List.mem_of_getElem? (i := 1148) (by decide +kernel)⟩
theorem lw_p50 : lw_okq (⟨"StairsThatGoModel", "waysMany", "()I"⟩, 44) := ⟨⟨by decide +kernel, by decide +kernel⟩, List.mem_of_getElem? (i := 833) (by decide +kernel), List.mem_of_getElem? (i := 1155) (by decide +kernel), List.mem_of_getElem? (i := 1156) (by decide +kernel)⟩
theorem lw_p51 : lw_okq (⟨"StairsThatGoModel", "finds", "(IIII)I"⟩, 44) := ⟨⟨by decide +kernel, by decide +kernel⟩, List.mem_of_getElem? (i := 833) (by decide +kernel), List.mem_of_getElem? (i := 1189) (by decide +kernel), List.mem_of_getElem? (i := 1190) (by decide +kernel)⟩
def lw_privs_4 : List (MethodName × Nat) := [(⟨"StairsThatGoModel", "throughBy", "(I)I"⟩, 44), (⟨"StairsThatGoModel", "last", "()I"⟩, 44), (⟨"StairsThatGoModel", "waysMany", "()I"⟩, 44), (⟨"StairsThatGoModel", "finds", "(IIII)I"⟩, 44)]
theorem lw_r4 : ∀ q ∈ lw_privs_4, lw_okq q := List.forall_mem_cons.mpr ⟨lw_p48, List.forall_mem_cons.mpr ⟨lw_p49, List.forall_mem_cons.mpr ⟨lw_p50, List.forall_mem_cons.mpr ⟨lw_p51, fun _ h => absurd h List.not_mem_nil⟩⟩⟩⟩
def lw_privs : List (MethodName × Nat) := lw_privs_1 ++ (lw_privs_2 ++ (lw_privs_3 ++ (lw_privs_4)))
def lw_tbl : List Cond := k2_sels lw_privs ++ tables_1
theorem lw_privs_ok : ∀ q ∈ lw_privs, lw_okq q := by
  show ∀ q ∈ lw_privs_1 ++ (lw_privs_2 ++ (lw_privs_3 ++ (lw_privs_4))), lw_okq q
  exact List.forall_mem_append.mpr ⟨lw_r1, List.forall_mem_append.mpr ⟨lw_r2, List.forall_mem_append.mpr ⟨lw_r3, lw_r4⟩⟩⟩
def RX0 : String := "StairsThatGo$Day"
def TX0 : u_T := fun k => match k with
  | 0 => ("StairsThatGo$Day", "riders", "[LStairsThatGo$Rider;", true)
  | 1 => ("StairsThatGo$Day", "flights", "[LStairsThatGo$Flight;", true)
  | 2 => ("StairsThatGo$Day", "setting", "[I", true)
  | 3 => ("StairsThatGo$Day", "line", "[I", true)
  | 4 => ("StairsThatGo$Day", "crowd", "[I", true)
  | 5 => ("StairsThatGo$Day", "stairs", "I", false)
  | 6 => ("StairsThatGo$Day", "people", "I", false)
  | 7 => ("StairsThatGo$Day", "coming", "I", false)
  | 8 => ("StairsThatGo$Day", "arrived", "I", false)
  | 9 => ("StairsThatGo$Day", "waiting", "I", false)
  | 10 => ("StairsThatGo$Day", "turnTick", "I", false)
  | 11 => ("StairsThatGo$Day", "turnWays", "I", false)
  | 12 => ("StairsThatGo$Day", "waits", "I", false)
  | 13 => ("StairsThatGo$Day", "energy", "I", false)
  | 14 => ("StairsThatGo$Day", "jams", "I", false)
  | _ => ("StairsThatGo$Day", "trips", "I", false)
def tyX0 : Nat → FieldType := fun k => match k with
  | 0 => .array (.object "StairsThatGo$Rider")
  | 1 => .array (.object "StairsThatGo$Flight")
  | 2 => .array .int
  | 3 => .array .int
  | 4 => .array .int
  | 5 => .int
  | 6 => .int
  | 7 => .int
  | 8 => .int
  | 9 => .int
  | 10 => .int
  | 11 => .int
  | 12 => .int
  | 13 => .int
  | 14 => .int
  | _ => .int
abbrev wsX00 : List Cond := u_ws RX0 TX0 16
theorem nmX0 : ∀ a, a < 16 → ∀ b, b < 16 → a ≠ b → (TX0 a).2.1 ≠ (TX0 b).2.1 := by decide +kernel
theorem tyX0_ok : ∀ k, k < 16 → parseFieldDescriptor (TX0 k).2.2.1 = some (tyX0 k) := by decide +kernel
abbrev cX0_init : ByteArray := prog_2_method_1_code
def yX0_init : MethodName := ⟨RX0, "<init>", "()V"⟩
abbrev cX0_load : ByteArray := prog_2_method_2_code
def yX0_load : MethodName := ⟨RX0, "load", "(LStairsThatGo$Plan;I)V"⟩
abbrev cX0_lineUp : ByteArray := prog_2_method_3_code
def yX0_lineUp : MethodName := ⟨RX0, "lineUp", "(I)V"⟩
abbrev cX0_copyFrom : ByteArray := prog_2_method_4_code
def yX0_copyFrom : MethodName := ⟨RX0, "copyFrom", "(LStairsThatGo$Day;)V"⟩
abbrev cX0_loadAllDay : ByteArray := prog_2_method_5_code
def yX0_loadAllDay : MethodName := ⟨RX0, "loadAllDay", "(LStairsThatGo$Plan;I)V"⟩
abbrev cX0_setPaces : ByteArray := prog_2_method_6_code
def yX0_setPaces : MethodName := ⟨RX0, "setPaces", "(I)V"⟩
abbrev cX0_turnAt : ByteArray := prog_2_method_7_code
def yX0_turnAt : MethodName := ⟨RX0, "turnAt", "(II)V"⟩
abbrev cX0_keepStanding : ByteArray := prog_2_method_8_code
def yX0_keepStanding : MethodName := ⟨RX0, "keepStanding", "(I)V"⟩
abbrev cX0_run : ByteArray := prog_2_method_9_code
def yX0_run : MethodName := ⟨RX0, "run", "(II)V"⟩
abbrev cX0_runWaits : ByteArray := prog_2_method_10_code
def yX0_runWaits : MethodName := ⟨RX0, "runWaits", "(II)V"⟩
abbrev cX0_passTick : ByteArray := prog_2_method_11_code
def yX0_passTick : MethodName := ⟨RX0, "passTick", "(I)V"⟩
abbrev cX0_arrive : ByteArray := prog_2_method_12_code
def yX0_arrive : MethodName := ⟨RX0, "arrive", "(I)V"⟩
abbrev cX0_turn : ByteArray := prog_2_method_13_code
def yX0_turn : MethodName := ⟨RX0, "turn", "(I)V"⟩
abbrev cX0_letAllThrough : ByteArray := prog_2_method_14_code
def yX0_letAllThrough : MethodName := ⟨RX0, "letAllThrough", "(II)V"⟩
abbrev cX0_advance : ByteArray := prog_2_method_15_code
def yX0_advance : MethodName := ⟨RX0, "advance", "(LStairsThatGo$Flight;I)V"⟩
abbrev cX0_land : ByteArray := prog_2_method_16_code
def yX0_land : MethodName := ⟨RX0, "land", "(LStairsThatGo$Flight;II)V"⟩
abbrev cX0_walk : ByteArray := prog_2_method_17_code
def yX0_walk : MethodName := ⟨RX0, "walk", "(LStairsThatGo$Flight;)V"⟩
abbrev cX0_leave : ByteArray := prog_2_method_18_code
def yX0_leave : MethodName := ⟨RX0, "leave", "(II)V"⟩
abbrev cX0_firstOnLanding : ByteArray := prog_2_method_19_code
def yX0_firstOnLanding : MethodName := ⟨RX0, "firstOnLanding", "(I)I"⟩
abbrev cX0_board : ByteArray := prog_2_method_20_code
def yX0_board : MethodName := ⟨RX0, "board", "(II)V"⟩
abbrev cX0_firstToBoard : ByteArray := prog_2_method_21_code
def yX0_firstToBoard : MethodName := ⟨RX0, "firstToBoard", "(LStairsThatGo$Flight;I)I"⟩
abbrev cX0_mayBoard : ByteArray := prog_2_method_22_code
def yX0_mayBoard : MethodName := ⟨RX0, "mayBoard", "(ILStairsThatGo$Flight;I)Z"⟩
abbrev cX0_weigh : ByteArray := prog_2_method_23_code
def yX0_weigh : MethodName := ⟨RX0, "weigh", "(I)V"⟩
abbrev cX0_letWalkersFall : ByteArray := prog_2_method_24_code
def yX0_letWalkersFall : MethodName := ⟨RX0, "letWalkersFall", "(I)V"⟩
abbrev cX0_setOf : ByteArray := prog_2_method_25_code
def yX0_setOf : MethodName := ⟨RX0, "setOf", "(I)I"⟩
abbrev cX0_setOfFallen : ByteArray := prog_2_method_26_code
def yX0_setOfFallen : MethodName := ⟨RX0, "setOfFallen", "()I"⟩
abbrev cX0_tripDigits : ByteArray := prog_2_method_27_code
def yX0_tripDigits : MethodName := ⟨RX0, "tripDigits", "()I"⟩
abbrev cX0_countThrough : ByteArray := prog_2_method_28_code
def yX0_countThrough : MethodName := ⟨RX0, "countThrough", "(I)I"⟩
abbrev cX0_lastThrough : ByteArray := prog_2_method_29_code
def yX0_lastThrough : MethodName := ⟨RX0, "lastThrough", "()I"⟩
def RX1 : String := "StairsThatGo$Flight"
def TX1 : u_T := fun k => match k with
  | 0 => ("StairsThatGo$Flight", "spot", "[I", true)
  | 1 => ("StairsThatGo$Flight", "length", "I", false)
  | 2 => ("StairsThatGo$Flight", "way", "I", false)
  | 3 => ("StairsThatGo$Flight", "pace", "I", false)
  | 4 => ("StairsThatGo$Flight", "trip", "I", false)
  | _ => ("StairsThatGo$Flight", "load", "I", false)
def tyX1 : Nat → FieldType := fun k => match k with
  | 0 => .array .int
  | 1 => .int
  | 2 => .int
  | 3 => .int
  | 4 => .int
  | _ => .int
abbrev wsX10 : List Cond := u_ws RX1 TX1 6
theorem nmX1 : ∀ a, a < 6 → ∀ b, b < 6 → a ≠ b → (TX1 a).2.1 ≠ (TX1 b).2.1 := by decide +kernel
theorem tyX1_ok : ∀ k, k < 6 → parseFieldDescriptor (TX1 k).2.2.1 = some (tyX1 k) := by decide +kernel
abbrev cX1_init : ByteArray := prog_3_method_1_code
def yX1_init : MethodName := ⟨RX1, "<init>", "()V"⟩
abbrev cX1_begin : ByteArray := prog_3_method_2_code
def yX1_begin : MethodName := ⟨RX1, "begin", "(III)V"⟩
abbrev cX1_copyFrom : ByteArray := prog_3_method_3_code
def yX1_copyFrom : MethodName := ⟨RX1, "copyFrom", "(LStairsThatGo$Flight;)V"⟩
abbrev cX1_moves : ByteArray := prog_3_method_4_code
def yX1_moves : MethodName := ⟨RX1, "moves", "()Z"⟩
abbrev cX1_startFloor : ByteArray := prog_3_method_5_code
def yX1_startFloor : MethodName := ⟨RX1, "startFloor", "()I"⟩
abbrev cX1_endFloor : ByteArray := prog_3_method_6_code
def yX1_endFloor : MethodName := ⟨RX1, "endFloor", "()I"⟩
abbrev cX1_who : ByteArray := prog_3_method_7_code
def yX1_who : MethodName := ⟨RX1, "who", "(II)I"⟩
abbrev cX1_put : ByteArray := prog_3_method_8_code
def yX1_put : MethodName := ⟨RX1, "put", "(III)V"⟩
abbrev cX1_empty : ByteArray := prog_3_method_9_code
def yX1_empty : MethodName := ⟨RX1, "empty", "()V"⟩
abbrev cX1_countOnLastStep : ByteArray := prog_3_method_10_code
def yX1_countOnLastStep : MethodName := ⟨RX1, "countOnLastStep", "()I"⟩
abbrev cX1_goOneStep : ByteArray := prog_3_method_11_code
def yX1_goOneStep : MethodName := ⟨RX1, "goOneStep", "()V"⟩
abbrev cX1_turnRound : ByteArray := prog_3_method_12_code
def yX1_turnRound : MethodName := ⟨RX1, "turnRound", "()V"⟩
def RX2 : String := "StairsThatGo$Plan"
def TX2 : u_T := fun k => match k with
  | 0 => ("StairsThatGo$Plan", "stair", "[[I", true)
  | 1 => ("StairsThatGo$Plan", "person", "[[I", true)
  | 2 => ("StairsThatGo$Plan", "setting", "[I", true)
  | 3 => ("StairsThatGo$Plan", "stairs", "I", false)
  | 4 => ("StairsThatGo$Plan", "people", "I", false)
  | 5 => ("StairsThatGo$Plan", "changeTick", "I", false)
  | _ => ("StairsThatGo$Plan", "changeWays", "I", false)
def tyX2 : Nat → FieldType := fun k => match k with
  | 0 => .array (.array .int)
  | 1 => .array (.array .int)
  | 2 => .array .int
  | 3 => .int
  | 4 => .int
  | 5 => .int
  | _ => .int
abbrev wsX20 : List Cond := u_ws RX2 TX2 7
theorem nmX2 : ∀ a, a < 7 → ∀ b, b < 7 → a ≠ b → (TX2 a).2.1 ≠ (TX2 b).2.1 := by decide +kernel
theorem tyX2_ok : ∀ k, k < 7 → parseFieldDescriptor (TX2 k).2.2.1 = some (tyX2 k) := by decide +kernel
abbrev cX2_init : ByteArray := prog_4_method_1_code
def yX2_init : MethodName := ⟨RX2, "<init>", "()V"⟩
abbrev cX2_copyFrom : ByteArray := prog_4_method_2_code
def yX2_copyFrom : MethodName := ⟨RX2, "copyFrom", "(LStairsThatGo$Plan;)V"⟩
abbrev cX2_addPerson : ByteArray := prog_4_method_3_code
def yX2_addPerson : MethodName := ⟨RX2, "addPerson", "(III)V"⟩
abbrev cX2_removePerson : ByteArray := prog_4_method_4_code
def yX2_removePerson : MethodName := ⟨RX2, "removePerson", "(I)V"⟩
abbrev cX2_countUp : ByteArray := prog_4_method_5_code
def yX2_countUp : MethodName := ⟨RX2, "countUp", "()I"⟩
def RX3 : String := "StairsThatGo$Rider"
def TX3 : u_T := fun k => match k with
  | 0 => ("StairsThatGo$Rider", "tick", "I", false)
  | 1 => ("StairsThatGo$Rider", "floor", "I", false)
  | 2 => ("StairsThatGo$Rider", "kind", "I", false)
  | 3 => ("StairsThatGo$Rider", "weight", "I", false)
  | 4 => ("StairsThatGo$Rider", "phase", "I", false)
  | 5 => ("StairsThatGo$Rider", "stair", "I", false)
  | 6 => ("StairsThatGo$Rider", "stepped", "I", false)
  | 7 => ("StairsThatGo$Rider", "landing", "I", false)
  | 8 => ("StairsThatGo$Rider", "landed", "I", false)
  | 9 => ("StairsThatGo$Rider", "through", "I", false)
  | _ => ("StairsThatGo$Rider", "fell", "Z", false)
def tyX3 : Nat → FieldType := fun k => match k with
  | 0 => .int
  | 1 => .int
  | 2 => .int
  | 3 => .int
  | 4 => .int
  | 5 => .int
  | 6 => .int
  | 7 => .int
  | 8 => .int
  | 9 => .int
  | _ => .boolean
abbrev wsX30 : List Cond := u_ws RX3 TX3 11
theorem nmX3 : ∀ a, a < 11 → ∀ b, b < 11 → a ≠ b → (TX3 a).2.1 ≠ (TX3 b).2.1 := by decide +kernel
theorem tyX3_ok : ∀ k, k < 11 → parseFieldDescriptor (TX3 k).2.2.1 = some (tyX3 k) := by decide +kernel
abbrev cX3_init : ByteArray := prog_5_method_1_code
def yX3_init : MethodName := ⟨RX3, "<init>", "()V"⟩
abbrev cX3_begin : ByteArray := prog_5_method_2_code
def yX3_begin : MethodName := ⟨RX3, "begin", "(III)V"⟩
abbrev cX3_copyFrom : ByteArray := prog_5_method_3_code
def yX3_copyFrom : MethodName := ⟨RX3, "copyFrom", "(LStairsThatGo$Rider;)V"⟩
abbrev cX3_goThrough : ByteArray := prog_5_method_4_code
def yX3_goThrough : MethodName := ⟨RX3, "goThrough", "(I)V"⟩
abbrev cX3_countWait : ByteArray := prog_5_method_5_code
def yX3_countWait : MethodName := ⟨RX3, "countWait", "()I"⟩
def RX4 : String := "StairsThatGo$Row"
def TX4 : u_T := fun k => match k with
  | 0 => ("StairsThatGo$Row", "items", "[I", true)
  | 1 => ("StairsThatGo$Row", "isThere", "Z", false)
  | 2 => ("StairsThatGo$Row", "lane", "I", false)
  | _ => ("StairsThatGo$Row", "size", "I", false)
def tyX4 : Nat → FieldType := fun k => match k with
  | 0 => .array .int
  | 1 => .boolean
  | 2 => .int
  | _ => .int
abbrev wsX40 : List Cond := u_ws RX4 TX4 4
theorem nmX4 : ∀ a, a < 4 → ∀ b, b < 4 → a ≠ b → (TX4 a).2.1 ≠ (TX4 b).2.1 := by decide +kernel
theorem tyX4_ok : ∀ k, k < 4 → parseFieldDescriptor (TX4 k).2.2.1 = some (tyX4 k) := by decide +kernel
abbrev cX4_init : ByteArray := prog_6_method_1_code
def yX4_init : MethodName := ⟨RX4, "<init>", "()V"⟩
abbrev cX4_begin : ByteArray := prog_6_method_2_code
def yX4_begin : MethodName := ⟨RX4, "begin", "(II)V"⟩
abbrev cX4_holds : ByteArray := prog_6_method_3_code
def yX4_holds : MethodName := ⟨RX4, "holds", "(II)Z"⟩
abbrev cX4_put : ByteArray := prog_6_method_4_code
def yX4_put : MethodName := ⟨RX4, "put", "(II)V"⟩
def RX5 : String := "StairsThatGo$Tape"
def TX5 : u_T := fun k => match k with
  | 0 => ("StairsThatGo$Tape", "bytes", "[I", true)
  | 1 => ("StairsThatGo$Tape", "length", "I", false)
  | 2 => ("StairsThatGo$Tape", "person", "[[I", true)
  | 3 => ("StairsThatGo$Tape", "found", "I", false)
  | _ => ("StairsThatGo$Tape", "place", "I", false)
def tyX5 : Nat → FieldType := fun k => match k with
  | 0 => .array .int
  | 1 => .int
  | 2 => .array (.array .int)
  | 3 => .int
  | _ => .int
abbrev wsX50 : List Cond := u_ws RX5 TX5 5
theorem nmX5 : ∀ a, a < 5 → ∀ b, b < 5 → a ≠ b → (TX5 a).2.1 ≠ (TX5 b).2.1 := by decide +kernel
theorem tyX5_ok : ∀ k, k < 5 → parseFieldDescriptor (TX5 k).2.2.1 = some (tyX5 k) := by decide +kernel
abbrev cX5_init : ByteArray := prog_7_method_1_code
def yX5_init : MethodName := ⟨RX5, "<init>", "()V"⟩
abbrev cX5_add : ByteArray := prog_7_method_2_code
def yX5_add : MethodName := ⟨RX5, "add", "(I)V"⟩
abbrev cX5_parse : ByteArray := prog_7_method_3_code
def yX5_parse : MethodName := ⟨RX5, "parse", "()I"⟩
abbrev cX5_parsePerson : ByteArray := prog_7_method_4_code
def yX5_parsePerson : MethodName := ⟨RX5, "parsePerson", "(I)I"⟩
abbrev cX5_parseNumber : ByteArray := prog_7_method_5_code
def yX5_parseNumber : MethodName := ⟨RX5, "parseNumber", "()I"⟩
abbrev cX5_nextByte : ByteArray := prog_7_method_6_code
def yX5_nextByte : MethodName := ⟨RX5, "nextByte", "()I"⟩
abbrev cX5_nextLetter : ByteArray := prog_7_method_7_code
def yX5_nextLetter : MethodName := ⟨RX5, "nextLetter", "()I"⟩
def RX6 : String := "StairsThatGo"
def TX6 : u_T := fun k => match k with
  | 0 => ("StairsThatGo", "plan", "LStairsThatGo$Plan;", true)
  | 1 => ("StairsThatGo", "kept", "LStairsThatGo$Plan;", true)
  | 2 => ("StairsThatGo", "isKept", "Z", false)
  | 3 => ("StairsThatGo", "tape", "LStairsThatGo$Tape;", true)
  | 4 => ("StairsThatGo", "rows", "[LStairsThatGo$Row;", true)
  | 5 => ("StairsThatGo", "day", "LStairsThatGo$Day;", true)
  | 6 => ("StairsThatGo", "trial", "LStairsThatGo$Day;", true)
  | 7 => ("StairsThatGo", "morning", "LStairsThatGo$Day;", true)
  | 8 => ("StairsThatGo", "isRun", "Z", false)
  | 9 => ("StairsThatGo", "soughtTick", "I", false)
  | 10 => ("StairsThatGo", "soughtBefore", "I", false)
  | 11 => ("StairsThatGo", "soughtAfter", "I", false)
  | _ => ("StairsThatGo", "soughtSum", "I", false)
def tyX6 : Nat → FieldType := fun k => match k with
  | 0 => .object "StairsThatGo$Plan"
  | 1 => .object "StairsThatGo$Plan"
  | 2 => .boolean
  | 3 => .object "StairsThatGo$Tape"
  | 4 => .array (.object "StairsThatGo$Row")
  | 5 => .object "StairsThatGo$Day"
  | 6 => .object "StairsThatGo$Day"
  | 7 => .object "StairsThatGo$Day"
  | 8 => .boolean
  | 9 => .int
  | 10 => .int
  | 11 => .int
  | _ => .int
abbrev wsX60 : List Cond := u_ws RX6 TX6 13
theorem nmX6 : ∀ a, a < 13 → ∀ b, b < 13 → a ≠ b → (TX6 a).2.1 ≠ (TX6 b).2.1 := by decide +kernel
theorem tyX6_ok : ∀ k, k < 13 → parseFieldDescriptor (TX6 k).2.2.1 = some (tyX6 k) := by decide +kernel
abbrev cX6_init : ByteArray := prog_1_method_1_code
def yX6_init : MethodName := ⟨RX6, "<init>", "()V"⟩
abbrev cX6_stair : ByteArray := prog_1_method_2_code
def yX6_stair : MethodName := ⟨RX6, "stair", "(II)I"⟩
abbrev cX6_of : ByteArray := prog_1_method_3_code
def yX6_of : MethodName := ⟨RX6, "of", "(III)I"⟩
abbrev cX6_set : ByteArray := prog_1_method_4_code
def yX6_set : MethodName := ⟨RX6, "set", "(II)I"⟩
abbrev cX6_change : ByteArray := prog_1_method_5_code
def yX6_change : MethodName := ⟨RX6, "change", "(II)I"⟩
abbrev cX6_person : ByteArray := prog_1_method_6_code
def yX6_person : MethodName := ⟨RX6, "person", "(III)I"⟩
abbrev cX6_told : ByteArray := prog_1_method_7_code
def yX6_told : MethodName := ⟨RX6, "told", "(II)I"⟩
abbrev cX6_strike : ByteArray := prog_1_method_8_code
def yX6_strike : MethodName := ⟨RX6, "strike", "(I)I"⟩
abbrev cX6_type : ByteArray := prog_1_method_9_code
def yX6_type : MethodName := ⟨RX6, "type", "(JI)I"⟩
abbrev cX6_people : ByteArray := prog_1_method_10_code
def yX6_people : MethodName := ⟨RX6, "people", "()I"⟩
abbrev cX6_count : ByteArray := prog_1_method_11_code
def yX6_count : MethodName := ⟨RX6, "count", "(I)I"⟩
abbrev cX6_fate : ByteArray := prog_1_method_12_code
def yX6_fate : MethodName := ⟨RX6, "fate", "(II)I"⟩
abbrev cX6_at : ByteArray := prog_1_method_13_code
def yX6_at : MethodName := ⟨RX6, "at", "(II)I"⟩
abbrev cX6_on : ByteArray := prog_1_method_14_code
def yX6_on : MethodName := ⟨RX6, "on", "(IIII)I"⟩
abbrev cX6_all : ByteArray := prog_1_method_15_code
def yX6_all : MethodName := ⟨RX6, "all", "(I)I"⟩
abbrev cX6_ways : ByteArray := prog_1_method_16_code
def yX6_ways : MethodName := ⟨RX6, "ways", "(I)I"⟩
abbrev cX6_best : ByteArray := prog_1_method_17_code
def yX6_best : MethodName := ⟨RX6, "best", "(II)I"⟩
abbrev cX6_thrift : ByteArray := prog_1_method_18_code
def yX6_thrift : MethodName := ⟨RX6, "thrift", "(II)I"⟩
abbrev cX6_costs : ByteArray := prog_1_method_19_code
def yX6_costs : MethodName := ⟨RX6, "costs", "(I)I"⟩
abbrev cX6_rules : ByteArray := prog_1_method_20_code
def yX6_rules : MethodName := ⟨RX6, "rules", "()I"⟩
abbrev cX6_stood : ByteArray := prog_1_method_21_code
def yX6_stood : MethodName := ⟨RX6, "stood", "(IIII)I"⟩
abbrev cX6_image : ByteArray := prog_1_method_22_code
def yX6_image : MethodName := ⟨RX6, "image", "()I"⟩
abbrev cX6_restore : ByteArray := prog_1_method_23_code
def yX6_restore : MethodName := ⟨RX6, "restore", "()I"⟩
abbrev cX6_film : ByteArray := prog_1_method_24_code
def yX6_film : MethodName := ⟨RX6, "film", "(IIII)I"⟩
abbrev cX6_sheet : ByteArray := prog_1_method_25_code
def yX6_sheet : MethodName := ⟨RX6, "sheet", "(III)I"⟩
abbrev cX6_drop : ByteArray := prog_1_method_26_code
def yX6_drop : MethodName := ⟨RX6, "drop", "(I)I"⟩
abbrev cX6_item : ByteArray := prog_1_method_27_code
def yX6_item : MethodName := ⟨RX6, "item", "(IIII)I"⟩
abbrev cX6_copy : ByteArray := prog_1_method_28_code
def yX6_copy : MethodName := ⟨RX6, "copy", "(IIIII)I"⟩
abbrev cX6_isBetween : ByteArray := prog_1_method_29_code
def yX6_isBetween : MethodName := ⟨RX6, "isBetween", "(III)Z"⟩
abbrev cX6_isStair : ByteArray := prog_1_method_30_code
def yX6_isStair : MethodName := ⟨RX6, "isStair", "(I)Z"⟩
abbrev cX6_isPerson : ByteArray := prog_1_method_31_code
def yX6_isPerson : MethodName := ⟨RX6, "isPerson", "(I)Z"⟩
abbrev cX6_isSheet : ByteArray := prog_1_method_32_code
def yX6_isSheet : MethodName := ⟨RX6, "isSheet", "(I)Z"⟩
abbrev cX6_orNone : ByteArray := prog_1_method_33_code
def yX6_orNone : MethodName := ⟨RX6, "orNone", "(I)I"⟩
abbrev cX6_weightOf : ByteArray := prog_1_method_34_code
def yX6_weightOf : MethodName := ⟨RX6, "weightOf", "(I)I"⟩
abbrev cX6_byteOf : ByteArray := prog_1_method_35_code
def yX6_byteOf : MethodName := ⟨RX6, "byteOf", "(JI)I"⟩
abbrev cX6_wayOf : ByteArray := prog_1_method_36_code
def yX6_wayOf : MethodName := ⟨RX6, "wayOf", "(II)I"⟩
abbrev cX6_tellAnew : ByteArray := prog_1_method_37_code
def yX6_tellAnew : MethodName := ⟨RX6, "tellAnew", "()V"⟩
abbrev cX6_toldDay : ByteArray := prog_1_method_38_code
def yX6_toldDay : MethodName := ⟨RX6, "toldDay", "()LStairsThatGo$Day;"⟩
abbrev cX6_waitsByRule : ByteArray := prog_1_method_39_code
def yX6_waitsByRule : MethodName := ⟨RX6, "waitsByRule", "(I)I"⟩
abbrev cX6_seekChange : ByteArray := prog_1_method_40_code
def yX6_seekChange : MethodName := ⟨RX6, "seekChange", "(I)V"⟩
abbrev cX6_refuse : ByteArray := prog_1_method_41_code
def yX6_refuse : MethodName := ⟨RX6, "refuse", "(IIII)I"⟩
abbrev cX6_isFilm : ByteArray := prog_1_method_42_code
def yX6_isFilm : MethodName := ⟨RX6, "isFilm", "(LStairsThatGo$Day;LStairsThatGo$Row;II)Z"⟩
def RX7 : String := "StairsThatGoModel"
def TX7 : u_T := fun k => match k with
  | 0 => ("StairsThatGoModel", "sets", "[I", true)
  | 1 => ("StairsThatGoModel", "stairs", "I", false)
  | 2 => ("StairsThatGoModel", "stairParts", "[I", true)
  | 3 => ("StairsThatGoModel", "changeTick", "I", false)
  | 4 => ("StairsThatGoModel", "changeWays", "I", false)
  | 5 => ("StairsThatGoModel", "people", "I", false)
  | 6 => ("StairsThatGoModel", "parts", "[I", true)
  | 7 => ("StairsThatGoModel", "tape", "[I", true)
  | 8 => ("StairsThatGoModel", "taped", "I", false)
  | 9 => ("StairsThatGoModel", "at", "I", false)
  | 10 => ("StairsThatGoModel", "wrong", "Z", false)
  | 11 => ("StairsThatGoModel", "read", "[I", true)
  | 12 => ("StairsThatGoModel", "ways", "[I", true)
  | 13 => ("StairsThatGoModel", "waysThen", "[I", true)
  | 14 => ("StairsThatGoModel", "paces", "[I", true)
  | 15 => ("StairsThatGoModel", "changeAt", "I", false)
  | 16 => ("StairsThatGoModel", "rule", "I", false)
  | 17 => ("StairsThatGoModel", "without", "I", false)
  | 18 => ("StairsThatGoModel", "state", "[I", true)
  | 19 => ("StairsThatGoModel", "kindNow", "[I", true)
  | 20 => ("StairsThatGoModel", "onStair", "[I", true)
  | 21 => ("StairsThatGoModel", "onStep", "[I", true)
  | 22 => ("StairsThatGoModel", "onPlace", "[I", true)
  | 23 => ("StairsThatGoModel", "landing", "[I", true)
  | 24 => ("StairsThatGoModel", "landed", "[I", true)
  | 25 => ("StairsThatGoModel", "stepped", "[I", true)
  | 26 => ("StairsThatGoModel", "by", "[I", true)
  | 27 => ("StairsThatGoModel", "through", "[I", true)
  | 28 => ("StairsThatGoModel", "waited", "[I", true)
  | 29 => ("StairsThatGoModel", "wayNow", "[I", true)
  | 30 => ("StairsThatGoModel", "tripped", "[I", true)
  | 31 => ("StairsThatGoModel", "fell", "I", false)
  | 32 => ("StairsThatGoModel", "jams", "I", false)
  | 33 => ("StairsThatGoModel", "trips", "I", false)
  | 34 => ("StairsThatGoModel", "energy", "I", false)
  | 35 => ("StairsThatGoModel", "sets4", "[I", true)
  | 36 => ("StairsThatGoModel", "trippedAt", "[I", true)
  | 37 => ("StairsThatGoModel", "whoAt", "[I", true)
  | 38 => ("StairsThatGoModel", "image", "[I", true)
  | 39 => ("StairsThatGoModel", "kept", "Z", false)
  | 40 => ("StairsThatGoModel", "lanes", "[I", true)
  | 41 => ("StairsThatGoModel", "sizes", "[I", true)
  | 42 => ("StairsThatGoModel", "items", "[I", true)
  | _ => ("StairsThatGoModel", "moved", "[I", true)
def tyX7 : Nat → FieldType := fun k => match k with
  | 0 => .array .int
  | 1 => .int
  | 2 => .array .int
  | 3 => .int
  | 4 => .int
  | 5 => .int
  | 6 => .array .int
  | 7 => .array .int
  | 8 => .int
  | 9 => .int
  | 10 => .boolean
  | 11 => .array .int
  | 12 => .array .int
  | 13 => .array .int
  | 14 => .array .int
  | 15 => .int
  | 16 => .int
  | 17 => .int
  | 18 => .array .int
  | 19 => .array .int
  | 20 => .array .int
  | 21 => .array .int
  | 22 => .array .int
  | 23 => .array .int
  | 24 => .array .int
  | 25 => .array .int
  | 26 => .array .int
  | 27 => .array .int
  | 28 => .array .int
  | 29 => .array .int
  | 30 => .array .int
  | 31 => .int
  | 32 => .int
  | 33 => .int
  | 34 => .int
  | 35 => .array .int
  | 36 => .array .int
  | 37 => .array .int
  | 38 => .array .int
  | 39 => .boolean
  | 40 => .array .int
  | 41 => .array .int
  | 42 => .array .int
  | _ => .array .int
abbrev wsX70 : List Cond := u_ws RX7 TX7 44
theorem nmX7 : ∀ a, a < 44 → ∀ b, b < 44 → a ≠ b → (TX7 a).2.1 ≠ (TX7 b).2.1 := by decide +kernel
theorem tyX7_ok : ∀ k, k < 44 → parseFieldDescriptor (TX7 k).2.2.1 = some (tyX7 k) := by decide +kernel
abbrev cX7_in : ByteArray := prog_9_method_2_code
def yX7_in : MethodName := ⟨RX7, "in", "(JJJ)Z"⟩
abbrev cX7_init : ByteArray := prog_9_method_3_code
def yX7_init : MethodName := ⟨RX7, "<init>", "()V"⟩
abbrev cX7_isStair : ByteArray := prog_9_method_4_code
def yX7_isStair : MethodName := ⟨RX7, "isStair", "(I)Z"⟩
abbrev cX7_isOne : ByteArray := prog_9_method_5_code
def yX7_isOne : MethodName := ⟨RX7, "isOne", "(I)Z"⟩
abbrev cX7_isOf : ByteArray := prog_9_method_6_code
def yX7_isOf : MethodName := ⟨RX7, "isOf", "(II)Z"⟩
abbrev cX7_stair : ByteArray := prog_9_method_7_code
def yX7_stair : MethodName := ⟨RX7, "stair", "(II)I"⟩
abbrev cX7_of : ByteArray := prog_9_method_8_code
def yX7_of : MethodName := ⟨RX7, "of", "(III)I"⟩
abbrev cX7_isSet : ByteArray := prog_9_method_9_code
def yX7_isSet : MethodName := ⟨RX7, "isSet", "(II)Z"⟩
abbrev cX7_set : ByteArray := prog_9_method_10_code
def yX7_set : MethodName := ⟨RX7, "set", "(II)I"⟩
abbrev cX7_change : ByteArray := prog_9_method_11_code
def yX7_change : MethodName := ⟨RX7, "change", "(II)I"⟩
abbrev cX7_comes : ByteArray := prog_9_method_12_code
def yX7_comes : MethodName := ⟨RX7, "comes", "(III)I"⟩
abbrev cX7_person : ByteArray := prog_9_method_13_code
def yX7_person : MethodName := ⟨RX7, "person", "(III)I"⟩
abbrev cX7_weightOf : ByteArray := prog_9_method_14_code
def yX7_weightOf : MethodName := ⟨RX7, "weightOf", "(I)I"⟩
abbrev cX7_told : ByteArray := prog_9_method_15_code
def yX7_told : MethodName := ⟨RX7, "told", "(II)I"⟩
abbrev cX7_strike : ByteArray := prog_9_method_16_code
def yX7_strike : MethodName := ⟨RX7, "strike", "(I)I"⟩
abbrev cX7_type : ByteArray := prog_9_method_17_code
def yX7_type : MethodName := ⟨RX7, "type", "(JI)I"⟩
abbrev cX7_here : ByteArray := prog_9_method_18_code
def yX7_here : MethodName := ⟨RX7, "here", "()I"⟩
abbrev cX7_number : ByteArray := prog_9_method_19_code
def yX7_number : MethodName := ⟨RX7, "number", "(I)I"⟩
abbrev cX7_letter : ByteArray := prog_9_method_20_code
def yX7_letter : MethodName := ⟨RX7, "letter", "(IIIII)I"⟩
abbrev cX7_people : ByteArray := prog_9_method_21_code
def yX7_people : MethodName := ⟨RX7, "people", "()I"⟩
abbrev cX7_count : ByteArray := prog_9_method_22_code
def yX7_count : MethodName := ⟨RX7, "count", "(I)I"⟩
abbrev cX7_asTold : ByteArray := prog_9_method_23_code
def yX7_asTold : MethodName := ⟨RX7, "asTold", "()V"⟩
abbrev cX7_isOn : ByteArray := prog_9_method_24_code
def yX7_isOn : MethodName := ⟨RX7, "isOn", "(II)Z"⟩
abbrev cX7_who : ByteArray := prog_9_method_25_code
def yX7_who : MethodName := ⟨RX7, "who", "(III)I"⟩
abbrev cX7_weight : ByteArray := prog_9_method_26_code
def yX7_weight : MethodName := ⟨RX7, "weight", "(I)I"⟩
abbrev cX7_goes : ByteArray := prog_9_method_27_code
def yX7_goes : MethodName := ⟨RX7, "goes", "(I)Z"⟩
abbrev cX7_changes : ByteArray := prog_9_method_28_code
def yX7_changes : MethodName := ⟨RX7, "changes", "(I)V"⟩
abbrev cX7_goesOne : ByteArray := prog_9_method_29_code
def yX7_goesOne : MethodName := ⟨RX7, "goesOne", "(II)Z"⟩
abbrev cX7_walks : ByteArray := prog_9_method_30_code
def yX7_walks : MethodName := ⟨RX7, "walks", "(I)V"⟩
abbrev cX7_leaves : ByteArray := prog_9_method_31_code
def yX7_leaves : MethodName := ⟨RX7, "leaves", "(I)V"⟩
abbrev cX7_may : ByteArray := prog_9_method_32_code
def yX7_may : MethodName := ⟨RX7, "may", "(III)Z"⟩
abbrev cX7_stepsOn : ByteArray := prog_9_method_33_code
def yX7_stepsOn : MethodName := ⟨RX7, "stepsOn", "(II)V"⟩
abbrev cX7_loads : ByteArray := prog_9_method_34_code
def yX7_loads : MethodName := ⟨RX7, "loads", "(I)V"⟩
abbrev cX7_notes : ByteArray := prog_9_method_35_code
def yX7_notes : MethodName := ⟨RX7, "notes", "(I)V"⟩
abbrev cX7_begins : ByteArray := prog_9_method_36_code
def yX7_begins : MethodName := ⟨RX7, "begins", "()V"⟩
abbrev cX7_runs : ByteArray := prog_9_method_37_code
def yX7_runs : MethodName := ⟨RX7, "runs", "()V"⟩
abbrev cX7_waits : ByteArray := prog_9_method_38_code
def yX7_waits : MethodName := ⟨RX7, "waits", "()I"⟩
abbrev cX7_last : ByteArray := prog_9_method_39_code
def yX7_last : MethodName := ⟨RX7, "last", "()I"⟩
abbrev cX7_throughBy : ByteArray := prog_9_method_40_code
def yX7_throughBy : MethodName := ⟨RX7, "throughBy", "(I)I"⟩
abbrev cX7_fate : ByteArray := prog_9_method_41_code
def yX7_fate : MethodName := ⟨RX7, "fate", "(II)I"⟩
abbrev cX7_at : ByteArray := prog_9_method_42_code
def yX7_at : MethodName := ⟨RX7, "at", "(II)I"⟩
abbrev cX7_on : ByteArray := prog_9_method_43_code
def yX7_on : MethodName := ⟨RX7, "on", "(IIII)I"⟩
abbrev cX7_all : ByteArray := prog_9_method_44_code
def yX7_all : MethodName := ⟨RX7, "all", "(I)I"⟩
abbrev cX7_lays : ByteArray := prog_9_method_45_code
def yX7_lays : MethodName := ⟨RX7, "lays", "(I[I)V"⟩
abbrev cX7_waysMany : ByteArray := prog_9_method_46_code
def yX7_waysMany : MethodName := ⟨RX7, "waysMany", "()I"⟩
abbrev cX7_ways : ByteArray := prog_9_method_47_code
def yX7_ways : MethodName := ⟨RX7, "ways", "(I)I"⟩
abbrev cX7_best : ByteArray := prog_9_method_48_code
def yX7_best : MethodName := ⟨RX7, "best", "(II)I"⟩
abbrev cX7_thrift : ByteArray := prog_9_method_49_code
def yX7_thrift : MethodName := ⟨RX7, "thrift", "(II)I"⟩
abbrev cX7_costs : ByteArray := prog_9_method_50_code
def yX7_costs : MethodName := ⟨RX7, "costs", "(I)I"⟩
abbrev cX7_rules : ByteArray := prog_9_method_51_code
def yX7_rules : MethodName := ⟨RX7, "rules", "()I"⟩
abbrev cX7_stood : ByteArray := prog_9_method_52_code
def yX7_stood : MethodName := ⟨RX7, "stood", "(IIII)I"⟩
abbrev cX7_saves : ByteArray := prog_9_method_53_code
def yX7_saves : MethodName := ⟨RX7, "saves", "([I[II)I"⟩
abbrev cX7_gives : ByteArray := prog_9_method_54_code
def yX7_gives : MethodName := ⟨RX7, "gives", "([II[I)I"⟩
abbrev cX7_image : ByteArray := prog_9_method_55_code
def yX7_image : MethodName := ⟨RX7, "image", "()I"⟩
abbrev cX7_restore : ByteArray := prog_9_method_56_code
def yX7_restore : MethodName := ⟨RX7, "restore", "()I"⟩
abbrev cX7_isSheet : ByteArray := prog_9_method_57_code
def yX7_isSheet : MethodName := ⟨RX7, "isSheet", "(I)Z"⟩
abbrev cX7_isLane : ByteArray := prog_9_method_58_code
def yX7_isLane : MethodName := ⟨RX7, "isLane", "(I)Z"⟩
abbrev cX7_finds : ByteArray := prog_9_method_59_code
def yX7_finds : MethodName := ⟨RX7, "finds", "(IIII)I"⟩
abbrev cX7_film : ByteArray := prog_9_method_60_code
def yX7_film : MethodName := ⟨RX7, "film", "(IIII)I"⟩
abbrev cX7_sheet : ByteArray := prog_9_method_61_code
def yX7_sheet : MethodName := ⟨RX7, "sheet", "(III)I"⟩
abbrev cX7_drop : ByteArray := prog_9_method_62_code
def yX7_drop : MethodName := ⟨RX7, "drop", "(I)I"⟩
abbrev cX7_item : ByteArray := prog_9_method_63_code
def yX7_item : MethodName := ⟨RX7, "item", "(IIII)I"⟩
abbrev cX7_copy : ByteArray := prog_9_method_64_code
def yX7_copy : MethodName := ⟨RX7, "copy", "(IIIII)I"⟩
def RJx145de : String := "java/io/Serializable"
def RJx9f9b0 : String := "java/lang/CharSequence"
def RJ11 : String := "java/lang/Character"
abbrev cJ11_isValidCodePoint_9a6ad : ByteArray := prog_10_method_11_code
def yJ11_isValidCodePoint_9a6ad : MethodName := ⟨RJ11, "isValidCodePoint", "(I)Z"⟩
abbrev cJ11_highSurrogate_5068e : ByteArray := prog_10_method_28_code
def yJ11_highSurrogate_5068e : MethodName := ⟨RJ11, "highSurrogate", "(I)C"⟩
abbrev cJ11_lowSurrogate_5068e : ByteArray := prog_10_method_29_code
def yJ11_lowSurrogate_5068e : MethodName := ⟨RJ11, "lowSurrogate", "(I)C"⟩
def RJxb160c : String := "java/lang/Comparable"
def RJ9 : String := "java/lang/Math"
abbrev cJ9_max_7cf53 : ByteArray := prog_11_method_65_code
def yJ9_max_7cf53 : MethodName := ⟨RJ9, "max", "(II)I"⟩
abbrev cJ9_min_7cf53 : ByteArray := prog_11_method_69_code
def yJ9_min_7cf53 : MethodName := ⟨RJ9, "min", "(II)I"⟩
def RJ0 : String := "java/lang/String"
abbrev cJ0_length_8abf5 : ByteArray := prog_12_method_54_code
def yJ0_length_8abf5 : MethodName := ⟨RJ0, "length", "()I"⟩
abbrev cJ0_indexOf_0f7a4 : ByteArray := prog_12_method_79_code
def yJ0_indexOf_0f7a4 : MethodName := ⟨RJ0, "indexOf", "(I)I"⟩
abbrev cJ0_indexOf_7cf53 : ByteArray := prog_12_method_80_code
def yJ0_indexOf_7cf53 : MethodName := ⟨RJ0, "indexOf", "(II)I"⟩
abbrev cJ0_coder_7d493 : ByteArray := prog_12_method_152_code
def yJ0_coder_7d493 : MethodName := ⟨RJ0, "coder", "()B"⟩
abbrev cJ0_isLatin1_aae02 : ByteArray := prog_12_method_154_code
def yJ0_isLatin1_aae02 : MethodName := ⟨RJ0, "isLatin1", "()Z"⟩
abbrev cJ0_checkBoundsBeginEnd_23922 : ByteArray := prog_12_method_158_code
def yJ0_checkBoundsBeginEnd_23922 : MethodName := ⟨RJ0, "checkBoundsBeginEnd", "(III)V"⟩
def RJ1 : String := "java/lang/StringLatin1"
abbrev cJ1_canEncode_9a6ad : ByteArray := prog_13_method_4_code
def yJ1_canEncode_9a6ad : MethodName := ⟨RJ1, "canEncode", "(I)Z"⟩
abbrev cJ1_indexOf_4cfef : ByteArray := prog_13_method_22_code
def yJ1_indexOf_4cfef : MethodName := ⟨RJ1, "indexOf", "([BIII)I"⟩
abbrev cJ1_indexOfChar_4cfef : ByteArray := prog_13_method_23_code
def yJ1_indexOfChar_4cfef : MethodName := ⟨RJ1, "indexOfChar", "([BIII)I"⟩
def RJ2 : String := "java/lang/StringUTF16"
abbrev cJ2_getChar_3b067 : ByteArray := prog_14_method_5_code
def yJ2_getChar_3b067 : MethodName := ⟨RJ2, "getChar", "([BI)C"⟩
abbrev cJ2_length_9d52b : ByteArray := prog_14_method_6_code
def yJ2_length_9d52b : MethodName := ⟨RJ2, "length", "([B)I"⟩
abbrev cJ2_indexOf_4cfef : ByteArray := prog_14_method_40_code
def yJ2_indexOf_4cfef : MethodName := ⟨RJ2, "indexOf", "([BIII)I"⟩
abbrev cJ2_indexOfChar_4cfef : ByteArray := prog_14_method_47_code
def yJ2_indexOfChar_4cfef : MethodName := ⟨RJ2, "indexOfChar", "([BIII)I"⟩
abbrev cJ2_indexOfCharUnsafe_4cfef : ByteArray := prog_14_method_48_code
def yJ2_indexOfCharUnsafe_4cfef : MethodName := ⟨RJ2, "indexOfCharUnsafe", "([BIII)I"⟩
abbrev cJ2_indexOfSupplementary_4cfef : ByteArray := prog_14_method_49_code
def yJ2_indexOfSupplementary_4cfef : MethodName := ⟨RJ2, "indexOfSupplementary", "([BIII)I"⟩
abbrev cJ2_checkBoundsBeginEnd_d044e : ByteArray := prog_14_method_93_code
def yJ2_checkBoundsBeginEnd_d044e : MethodName := ⟨RJ2, "checkBoundsBeginEnd", "(II[B)V"⟩
def RJ10 : String := "java/lang/System"
def RJxfd54e : String := "java/lang/constant/Constable"
def RJx3cf43 : String := "java/lang/constant/ConstantDesc"
def RJ7 : String := "java/util/Arrays"
abbrev cJ7_fill_53178 : ByteArray := prog_16_method_103_code
def yJ7_fill_53178 : MethodName := ⟨RJ7, "fill", "([II)V"⟩
def RJ3 : String := "jdk/internal/util/Preconditions"
abbrev cJ3_checkFromToIndex_8c36e : ByteArray := prog_17_method_12_code
def yJ3_checkFromToIndex_8c36e : MethodName := ⟨RJ3, "checkFromToIndex", "(IIILjava/util/function/BiFunction;)I"⟩
abbrev vwCl : List vw_C := [(RX0, TX0, 16), (RX1, TX1, 6), (RX2, TX2, 7), (RX3, TX3, 11), (RX4, TX4, 4), (RX5, TX5, 5), (RX6, TX6, 13), (RX7, TX7, 44)]
def RL : String := "StairsThatGoLaw"
abbrev cL_law : ByteArray := code
def yL_law : MethodName := ⟨RL, "law", "([I)Z"⟩
end
section
theorem dX0_init_0 : decode cX0_init 0 = .ok (.aload_n 0, 1) := by decide +kernel
theorem dX0_init_1 : decode cX0_init 1 = .ok (.invokespecial 3, 3) := by decide +kernel
theorem dX0_init_4 : decode cX0_init 4 = .ok (.aload_n 0, 1) := by decide +kernel
theorem dX0_init_5 : decode cX0_init 5 = .ok (.bipush 14, 2) := by decide +kernel
theorem dX0_init_7 : decode cX0_init 7 = .ok (.anewarray 9, 3) := by decide +kernel
theorem dX0_init_10 : decode cX0_init 10 = .ok (.putfield 11, 3) := by decide +kernel
theorem dX0_init_13 : decode cX0_init 13 = .ok (.aload_n 0, 1) := by decide +kernel
theorem dX0_init_14 : decode cX0_init 14 = .ok (.iconst 3, 1) := by decide +kernel
theorem dX0_init_15 : decode cX0_init 15 = .ok (.anewarray 17, 3) := by decide +kernel
theorem dX0_init_18 : decode cX0_init 18 = .ok (.putfield 19, 3) := by decide +kernel
theorem dX0_init_21 : decode cX0_init 21 = .ok (.aload_n 0, 1) := by decide +kernel
theorem dX0_init_22 : decode cX0_init 22 = .ok (.getstatic 23, 3) := by decide +kernel
theorem dX0_init_25 : decode cX0_init 25 = .ok (.arraylength, 1) := by decide +kernel
theorem dX0_init_26 : decode cX0_init 26 = .ok (.newarray .int, 2) := by decide +kernel
theorem dX0_init_28 : decode cX0_init 28 = .ok (.putfield 27, 3) := by decide +kernel
theorem dX0_init_31 : decode cX0_init 31 = .ok (.aload_n 0, 1) := by decide +kernel
theorem dX0_init_32 : decode cX0_init 32 = .ok (.bipush 14, 2) := by decide +kernel
theorem dX0_init_34 : decode cX0_init 34 = .ok (.newarray .int, 2) := by decide +kernel
theorem dX0_init_36 : decode cX0_init 36 = .ok (.putfield 30, 3) := by decide +kernel
theorem dX0_init_39 : decode cX0_init 39 = .ok (.aload_n 0, 1) := by decide +kernel
theorem dX0_init_40 : decode cX0_init 40 = .ok (.iconst 2, 1) := by decide +kernel
theorem dX0_init_41 : decode cX0_init 41 = .ok (.newarray .int, 2) := by decide +kernel
theorem dX0_init_43 : decode cX0_init 43 = .ok (.putfield 33, 3) := by decide +kernel
theorem dX0_init_46 : decode cX0_init 46 = .ok (.iconst 0, 1) := by decide +kernel
theorem dX0_init_47 : decode cX0_init 47 = .ok (.istore_n 1, 1) := by decide +kernel
theorem dX0_init_48 : decode cX0_init 48 = .ok (.iload_n 1, 1) := by decide +kernel
theorem dX0_init_49 : decode cX0_init 49 = .ok (.bipush 14, 2) := by decide +kernel
theorem dX0_init_51 : decode cX0_init 51 = .ok (.if_icmp .ge 22, 3) := by decide +kernel
theorem dX0_init_54 : decode cX0_init 54 = .ok (.aload_n 0, 1) := by decide +kernel
theorem dX0_init_55 : decode cX0_init 55 = .ok (.getfield 11, 3) := by decide +kernel
theorem dX0_init_58 : decode cX0_init 58 = .ok (.iload_n 1, 1) := by decide +kernel
theorem dX0_init_59 : decode cX0_init 59 = .ok (.new 9, 3) := by decide +kernel
theorem dX0_init_62 : decode cX0_init 62 = .ok (.dup, 1) := by decide +kernel
theorem dX0_init_63 : decode cX0_init 63 = .ok (.invokespecial 36, 3) := by decide +kernel
theorem dX0_init_66 : decode cX0_init 66 = .ok (.aastore, 1) := by decide +kernel
theorem dX0_init_67 : decode cX0_init 67 = .ok (.iinc 1 1, 3) := by decide +kernel
theorem dX0_init_70 : decode cX0_init 70 = .ok (.goto (-22), 3) := by decide +kernel
theorem dX0_init_73 : decode cX0_init 73 = .ok (.iconst 0, 1) := by decide +kernel
theorem dX0_init_74 : decode cX0_init 74 = .ok (.istore_n 1, 1) := by decide +kernel
theorem dX0_init_75 : decode cX0_init 75 = .ok (.iload_n 1, 1) := by decide +kernel
theorem dX0_init_76 : decode cX0_init 76 = .ok (.iconst 3, 1) := by decide +kernel
theorem dX0_init_77 : decode cX0_init 77 = .ok (.if_icmp .ge 22, 3) := by decide +kernel
theorem dX0_init_80 : decode cX0_init 80 = .ok (.aload_n 0, 1) := by decide +kernel
theorem dX0_init_81 : decode cX0_init 81 = .ok (.getfield 19, 3) := by decide +kernel
theorem dX0_init_84 : decode cX0_init 84 = .ok (.iload_n 1, 1) := by decide +kernel
theorem dX0_init_85 : decode cX0_init 85 = .ok (.new 17, 3) := by decide +kernel
theorem dX0_init_88 : decode cX0_init 88 = .ok (.dup, 1) := by decide +kernel
theorem dX0_init_89 : decode cX0_init 89 = .ok (.invokespecial 37, 3) := by decide +kernel
theorem dX0_init_92 : decode cX0_init 92 = .ok (.aastore, 1) := by decide +kernel
theorem dX0_init_93 : decode cX0_init 93 = .ok (.iinc 1 1, 3) := by decide +kernel
theorem dX0_init_96 : decode cX0_init 96 = .ok (.goto (-21), 3) := by decide +kernel
theorem dX0_init_99 : decode cX0_init 99 = .ok (.return_, 1) := by decide +kernel
theorem dX0_load_0 : decode cX0_load 0 = .ok (.aload_n 1, 1) := by decide +kernel
theorem dX0_load_1 : decode cX0_load 1 = .ok (.getfield 38, 3) := by decide +kernel
theorem dX0_load_4 : decode cX0_load 4 = .ok (.iconst 0, 1) := by decide +kernel
theorem dX0_load_5 : decode cX0_load 5 = .ok (.aload_n 0, 1) := by decide +kernel
theorem dX0_load_6 : decode cX0_load 6 = .ok (.getfield 27, 3) := by decide +kernel
theorem dX0_load_9 : decode cX0_load 9 = .ok (.iconst 0, 1) := by decide +kernel
theorem dX0_load_10 : decode cX0_load 10 = .ok (.aload_n 0, 1) := by decide +kernel
theorem dX0_load_11 : decode cX0_load 11 = .ok (.getfield 27, 3) := by decide +kernel
theorem dX0_load_14 : decode cX0_load 14 = .ok (.arraylength, 1) := by decide +kernel
theorem dX0_load_15 : decode cX0_load 15 = .ok (.invokestatic 41, 3) := by decide +kernel
theorem dX0_load_18 : decode cX0_load 18 = .ok (.aload_n 0, 1) := by decide +kernel
theorem dX0_load_19 : decode cX0_load 19 = .ok (.getfield 33, 3) := by decide +kernel
theorem dX0_load_22 : decode cX0_load 22 = .ok (.iconst 0, 1) := by decide +kernel
theorem dX0_load_23 : decode cX0_load 23 = .ok (.invokestatic 47, 3) := by decide +kernel
theorem dX0_load_26 : decode cX0_load 26 = .ok (.aload_n 0, 1) := by decide +kernel
theorem dX0_load_27 : decode cX0_load 27 = .ok (.aload_n 1, 1) := by decide +kernel
theorem dX0_load_28 : decode cX0_load 28 = .ok (.getfield 53, 3) := by decide +kernel
theorem dX0_load_31 : decode cX0_load 31 = .ok (.putfield 57, 3) := by decide +kernel
theorem dX0_load_34 : decode cX0_load 34 = .ok (.aload_n 0, 1) := by decide +kernel
theorem dX0_load_35 : decode cX0_load 35 = .ok (.aload_n 1, 1) := by decide +kernel
theorem dX0_load_36 : decode cX0_load 36 = .ok (.getfield 58, 3) := by decide +kernel
theorem dX0_load_39 : decode cX0_load 39 = .ok (.putfield 61, 3) := by decide +kernel
theorem dX0_load_42 : decode cX0_load 42 = .ok (.aload_n 0, 1) := by decide +kernel
theorem dX0_load_43 : decode cX0_load 43 = .ok (.iconst 0, 1) := by decide +kernel
theorem dX0_load_44 : decode cX0_load 44 = .ok (.putfield 62, 3) := by decide +kernel
theorem dX0_load_47 : decode cX0_load 47 = .ok (.aload_n 0, 1) := by decide +kernel
theorem dX0_load_48 : decode cX0_load 48 = .ok (.iconst 0, 1) := by decide +kernel
theorem dX0_load_49 : decode cX0_load 49 = .ok (.putfield 65, 3) := by decide +kernel
theorem dX0_load_52 : decode cX0_load 52 = .ok (.aload_n 0, 1) := by decide +kernel
theorem dX0_load_53 : decode cX0_load 53 = .ok (.iconst 0, 1) := by decide +kernel
theorem dX0_load_54 : decode cX0_load 54 = .ok (.putfield 68, 3) := by decide +kernel
theorem dX0_load_57 : decode cX0_load 57 = .ok (.aload_n 0, 1) := by decide +kernel
theorem dX0_load_58 : decode cX0_load 58 = .ok (.iconst 0, 1) := by decide +kernel
theorem dX0_load_59 : decode cX0_load 59 = .ok (.putfield 71, 3) := by decide +kernel
theorem dX0_load_62 : decode cX0_load 62 = .ok (.aload_n 0, 1) := by decide +kernel
theorem dX0_load_63 : decode cX0_load 63 = .ok (.iconst 0, 1) := by decide +kernel
theorem dX0_load_64 : decode cX0_load 64 = .ok (.putfield 74, 3) := by decide +kernel
theorem dX0_load_67 : decode cX0_load 67 = .ok (.aload_n 0, 1) := by decide +kernel
theorem dX0_load_68 : decode cX0_load 68 = .ok (.iconst 0, 1) := by decide +kernel
theorem dX0_load_69 : decode cX0_load 69 = .ok (.putfield 77, 3) := by decide +kernel
theorem dX0_load_72 : decode cX0_load 72 = .ok (.aload_n 0, 1) := by decide +kernel
theorem dX0_load_73 : decode cX0_load 73 = .ok (.iconst 0, 1) := by decide +kernel
theorem dX0_load_74 : decode cX0_load 74 = .ok (.putfield 80, 3) := by decide +kernel
theorem dX0_load_77 : decode cX0_load 77 = .ok (.aload_n 0, 1) := by decide +kernel
theorem dX0_load_78 : decode cX0_load 78 = .ok (.aload_n 1, 1) := by decide +kernel
theorem dX0_load_79 : decode cX0_load 79 = .ok (.getfield 83, 3) := by decide +kernel
theorem dX0_load_82 : decode cX0_load 82 = .ok (.aload_n 1, 1) := by decide +kernel
theorem dX0_load_83 : decode cX0_load 83 = .ok (.getfield 86, 3) := by decide +kernel
theorem dX0_load_86 : decode cX0_load 86 = .ok (.invokevirtual 89, 3) := by decide +kernel
theorem dX0_load_89 : decode cX0_load 89 = .ok (.iconst 0, 1) := by decide +kernel
theorem dX0_load_90 : decode cX0_load 90 = .ok (.istore_n 3, 1) := by decide +kernel
theorem dX0_load_91 : decode cX0_load 91 = .ok (.iload_n 3, 1) := by decide +kernel
theorem dX0_load_92 : decode cX0_load 92 = .ok (.aload_n 0, 1) := by decide +kernel
theorem dX0_load_93 : decode cX0_load 93 = .ok (.getfield 57, 3) := by decide +kernel
theorem dX0_load_96 : decode cX0_load 96 = .ok (.if_icmp .ge 42, 3) := by decide +kernel
theorem dX0_load_99 : decode cX0_load 99 = .ok (.aload_n 0, 1) := by decide +kernel
theorem dX0_load_100 : decode cX0_load 100 = .ok (.getfield 19, 3) := by decide +kernel
theorem dX0_load_103 : decode cX0_load 103 = .ok (.iload_n 3, 1) := by decide +kernel
theorem dX0_load_104 : decode cX0_load 104 = .ok (.aaload, 1) := by decide +kernel
theorem dX0_load_105 : decode cX0_load 105 = .ok (.aload_n 1, 1) := by decide +kernel
theorem dX0_load_106 : decode cX0_load 106 = .ok (.getfield 93, 3) := by decide +kernel
theorem dX0_load_109 : decode cX0_load 109 = .ok (.iconst 0, 1) := by decide +kernel
theorem dX0_load_110 : decode cX0_load 110 = .ok (.aaload, 1) := by decide +kernel
theorem dX0_load_111 : decode cX0_load 111 = .ok (.iload_n 3, 1) := by decide +kernel
theorem dX0_load_112 : decode cX0_load 112 = .ok (.iaload, 1) := by decide +kernel
theorem dX0_load_113 : decode cX0_load 113 = .ok (.aload_n 1, 1) := by decide +kernel
theorem dX0_load_114 : decode cX0_load 114 = .ok (.getfield 93, 3) := by decide +kernel
theorem dX0_load_117 : decode cX0_load 117 = .ok (.iconst 1, 1) := by decide +kernel
theorem dX0_load_118 : decode cX0_load 118 = .ok (.aaload, 1) := by decide +kernel
theorem dX0_load_119 : decode cX0_load 119 = .ok (.iload_n 3, 1) := by decide +kernel
theorem dX0_load_120 : decode cX0_load 120 = .ok (.iaload, 1) := by decide +kernel
theorem dX0_load_121 : decode cX0_load 121 = .ok (.aload_n 1, 1) := by decide +kernel
theorem dX0_load_122 : decode cX0_load 122 = .ok (.getfield 93, 3) := by decide +kernel
theorem dX0_load_125 : decode cX0_load 125 = .ok (.iconst 2, 1) := by decide +kernel
theorem dX0_load_126 : decode cX0_load 126 = .ok (.aaload, 1) := by decide +kernel
theorem dX0_load_127 : decode cX0_load 127 = .ok (.iload_n 3, 1) := by decide +kernel
theorem dX0_load_128 : decode cX0_load 128 = .ok (.iaload, 1) := by decide +kernel
theorem dX0_load_129 : decode cX0_load 129 = .ok (.invokevirtual 97, 3) := by decide +kernel
theorem dX0_load_132 : decode cX0_load 132 = .ok (.iinc 3 1, 3) := by decide +kernel
theorem dX0_load_135 : decode cX0_load 135 = .ok (.goto (-44), 3) := by decide +kernel
theorem dX0_load_138 : decode cX0_load 138 = .ok (.iconst 0, 1) := by decide +kernel
theorem dX0_load_139 : decode cX0_load 139 = .ok (.istore_n 3, 1) := by decide +kernel
theorem dX0_load_140 : decode cX0_load 140 = .ok (.iload_n 3, 1) := by decide +kernel
theorem dX0_load_141 : decode cX0_load 141 = .ok (.aload_n 0, 1) := by decide +kernel
theorem dX0_load_142 : decode cX0_load 142 = .ok (.getfield 61, 3) := by decide +kernel
theorem dX0_load_145 : decode cX0_load 145 = .ok (.if_icmp .ge 52, 3) := by decide +kernel
theorem dX0_load_148 : decode cX0_load 148 = .ok (.aload_n 0, 1) := by decide +kernel
theorem dX0_load_149 : decode cX0_load 149 = .ok (.getfield 11, 3) := by decide +kernel
theorem dX0_load_152 : decode cX0_load 152 = .ok (.iload_n 3, 1) := by decide +kernel
theorem dX0_load_153 : decode cX0_load 153 = .ok (.aaload, 1) := by decide +kernel
theorem dX0_load_154 : decode cX0_load 154 = .ok (.aload_n 1, 1) := by decide +kernel
theorem dX0_load_155 : decode cX0_load 155 = .ok (.getfield 101, 3) := by decide +kernel
theorem dX0_load_158 : decode cX0_load 158 = .ok (.iconst 0, 1) := by decide +kernel
theorem dX0_load_159 : decode cX0_load 159 = .ok (.aaload, 1) := by decide +kernel
theorem dX0_load_160 : decode cX0_load 160 = .ok (.iload_n 3, 1) := by decide +kernel
theorem dX0_load_161 : decode cX0_load 161 = .ok (.iaload, 1) := by decide +kernel
theorem dX0_load_162 : decode cX0_load 162 = .ok (.aload_n 1, 1) := by decide +kernel
theorem dX0_load_163 : decode cX0_load 163 = .ok (.getfield 101, 3) := by decide +kernel
theorem dX0_load_166 : decode cX0_load 166 = .ok (.iconst 1, 1) := by decide +kernel
theorem dX0_load_167 : decode cX0_load 167 = .ok (.aaload, 1) := by decide +kernel
theorem dX0_load_168 : decode cX0_load 168 = .ok (.iload_n 3, 1) := by decide +kernel
theorem dX0_load_169 : decode cX0_load 169 = .ok (.iaload, 1) := by decide +kernel
theorem dX0_load_170 : decode cX0_load 170 = .ok (.aload_n 1, 1) := by decide +kernel
theorem dX0_load_171 : decode cX0_load 171 = .ok (.getfield 101, 3) := by decide +kernel
theorem dX0_load_174 : decode cX0_load 174 = .ok (.iconst 2, 1) := by decide +kernel
theorem dX0_load_175 : decode cX0_load 175 = .ok (.aaload, 1) := by decide +kernel
theorem dX0_load_176 : decode cX0_load 176 = .ok (.iload_n 3, 1) := by decide +kernel
theorem dX0_load_177 : decode cX0_load 177 = .ok (.iaload, 1) := by decide +kernel
theorem dX0_load_178 : decode cX0_load 178 = .ok (.invokevirtual 104, 3) := by decide +kernel
theorem dX0_load_181 : decode cX0_load 181 = .ok (.iload_n 3, 1) := by decide +kernel
theorem dX0_load_182 : decode cX0_load 182 = .ok (.iload_n 2, 1) := by decide +kernel
theorem dX0_load_183 : decode cX0_load 183 = .ok (.if_icmp .eq 8, 3) := by decide +kernel
theorem dX0_load_186 : decode cX0_load 186 = .ok (.aload_n 0, 1) := by decide +kernel
theorem dX0_load_187 : decode cX0_load 187 = .ok (.iload_n 3, 1) := by decide +kernel
theorem dX0_load_188 : decode cX0_load 188 = .ok (.invokevirtual 105, 3) := by decide +kernel
theorem dX0_load_191 : decode cX0_load 191 = .ok (.iinc 3 1, 3) := by decide +kernel
theorem dX0_load_194 : decode cX0_load 194 = .ok (.goto (-54), 3) := by decide +kernel
theorem dX0_load_197 : decode cX0_load 197 = .ok (.return_, 1) := by decide +kernel
theorem dX0_lineUp_0 : decode cX0_lineUp 0 = .ok (.aload_n 0, 1) := by decide +kernel
theorem dX0_lineUp_1 : decode cX0_lineUp 1 = .ok (.getfield 62, 3) := by decide +kernel
theorem dX0_lineUp_4 : decode cX0_lineUp 4 = .ok (.istore_n 2, 1) := by decide +kernel
theorem dX0_lineUp_5 : decode cX0_lineUp 5 = .ok (.iload_n 2, 1) := by decide +kernel
theorem dX0_lineUp_6 : decode cX0_lineUp 6 = .ok (.ifCond .le 51, 3) := by decide +kernel
theorem dX0_lineUp_9 : decode cX0_lineUp 9 = .ok (.aload_n 0, 1) := by decide +kernel
theorem dX0_lineUp_10 : decode cX0_lineUp 10 = .ok (.getfield 11, 3) := by decide +kernel
theorem dX0_lineUp_13 : decode cX0_lineUp 13 = .ok (.aload_n 0, 1) := by decide +kernel
theorem dX0_lineUp_14 : decode cX0_lineUp 14 = .ok (.getfield 30, 3) := by decide +kernel
theorem dX0_lineUp_17 : decode cX0_lineUp 17 = .ok (.iload_n 2, 1) := by decide +kernel
theorem dX0_lineUp_18 : decode cX0_lineUp 18 = .ok (.iconst 1, 1) := by decide +kernel
theorem dX0_lineUp_19 : decode cX0_lineUp 19 = .ok (.isub, 1) := by decide +kernel
theorem dX0_lineUp_20 : decode cX0_lineUp 20 = .ok (.iaload, 1) := by decide +kernel
theorem dX0_lineUp_21 : decode cX0_lineUp 21 = .ok (.aaload, 1) := by decide +kernel
theorem dX0_lineUp_22 : decode cX0_lineUp 22 = .ok (.getfield 109, 3) := by decide +kernel
theorem dX0_lineUp_25 : decode cX0_lineUp 25 = .ok (.aload_n 0, 1) := by decide +kernel
theorem dX0_lineUp_26 : decode cX0_lineUp 26 = .ok (.getfield 11, 3) := by decide +kernel
theorem dX0_lineUp_29 : decode cX0_lineUp 29 = .ok (.iload_n 1, 1) := by decide +kernel
theorem dX0_lineUp_30 : decode cX0_lineUp 30 = .ok (.aaload, 1) := by decide +kernel
theorem dX0_lineUp_31 : decode cX0_lineUp 31 = .ok (.getfield 109, 3) := by decide +kernel
theorem dX0_lineUp_34 : decode cX0_lineUp 34 = .ok (.if_icmp .le 23, 3) := by decide +kernel
theorem dX0_lineUp_37 : decode cX0_lineUp 37 = .ok (.aload_n 0, 1) := by decide +kernel
theorem dX0_lineUp_38 : decode cX0_lineUp 38 = .ok (.getfield 30, 3) := by decide +kernel
theorem dX0_lineUp_41 : decode cX0_lineUp 41 = .ok (.iload_n 2, 1) := by decide +kernel
theorem dX0_lineUp_42 : decode cX0_lineUp 42 = .ok (.aload_n 0, 1) := by decide +kernel
theorem dX0_lineUp_43 : decode cX0_lineUp 43 = .ok (.getfield 30, 3) := by decide +kernel
theorem dX0_lineUp_46 : decode cX0_lineUp 46 = .ok (.iload_n 2, 1) := by decide +kernel
theorem dX0_lineUp_47 : decode cX0_lineUp 47 = .ok (.iconst 1, 1) := by decide +kernel
theorem dX0_lineUp_48 : decode cX0_lineUp 48 = .ok (.isub, 1) := by decide +kernel
theorem dX0_lineUp_49 : decode cX0_lineUp 49 = .ok (.iaload, 1) := by decide +kernel
theorem dX0_lineUp_50 : decode cX0_lineUp 50 = .ok (.iastore, 1) := by decide +kernel
theorem dX0_lineUp_51 : decode cX0_lineUp 51 = .ok (.iinc 2 (-1), 3) := by decide +kernel
theorem dX0_lineUp_54 : decode cX0_lineUp 54 = .ok (.goto (-49), 3) := by decide +kernel
theorem dX0_lineUp_57 : decode cX0_lineUp 57 = .ok (.aload_n 0, 1) := by decide +kernel
theorem dX0_lineUp_58 : decode cX0_lineUp 58 = .ok (.getfield 30, 3) := by decide +kernel
theorem dX0_lineUp_61 : decode cX0_lineUp 61 = .ok (.iload_n 2, 1) := by decide +kernel
theorem dX0_lineUp_62 : decode cX0_lineUp 62 = .ok (.iload_n 1, 1) := by decide +kernel
theorem dX0_lineUp_63 : decode cX0_lineUp 63 = .ok (.iastore, 1) := by decide +kernel
theorem dX0_lineUp_64 : decode cX0_lineUp 64 = .ok (.aload_n 0, 1) := by decide +kernel
theorem dX0_lineUp_65 : decode cX0_lineUp 65 = .ok (.dup, 1) := by decide +kernel
theorem dX0_lineUp_66 : decode cX0_lineUp 66 = .ok (.getfield 62, 3) := by decide +kernel
theorem dX0_lineUp_69 : decode cX0_lineUp 69 = .ok (.iconst 1, 1) := by decide +kernel
theorem dX0_lineUp_70 : decode cX0_lineUp 70 = .ok (.iadd, 1) := by decide +kernel
theorem dX0_lineUp_71 : decode cX0_lineUp 71 = .ok (.putfield 62, 3) := by decide +kernel
theorem dX0_lineUp_74 : decode cX0_lineUp 74 = .ok (.return_, 1) := by decide +kernel
theorem dX0_copyFrom_0 : decode cX0_copyFrom 0 = .ok (.aload_n 1, 1) := by decide +kernel
theorem dX0_copyFrom_1 : decode cX0_copyFrom 1 = .ok (.getfield 27, 3) := by decide +kernel
theorem dX0_copyFrom_4 : decode cX0_copyFrom 4 = .ok (.iconst 0, 1) := by decide +kernel
theorem dX0_copyFrom_5 : decode cX0_copyFrom 5 = .ok (.aload_n 0, 1) := by decide +kernel
theorem dX0_copyFrom_6 : decode cX0_copyFrom 6 = .ok (.getfield 27, 3) := by decide +kernel
theorem dX0_copyFrom_9 : decode cX0_copyFrom 9 = .ok (.iconst 0, 1) := by decide +kernel
theorem dX0_copyFrom_10 : decode cX0_copyFrom 10 = .ok (.aload_n 0, 1) := by decide +kernel
theorem dX0_copyFrom_11 : decode cX0_copyFrom 11 = .ok (.getfield 27, 3) := by decide +kernel
theorem dX0_copyFrom_14 : decode cX0_copyFrom 14 = .ok (.arraylength, 1) := by decide +kernel
theorem dX0_copyFrom_15 : decode cX0_copyFrom 15 = .ok (.invokestatic 41, 3) := by decide +kernel
theorem dX0_copyFrom_18 : decode cX0_copyFrom 18 = .ok (.aload_n 1, 1) := by decide +kernel
theorem dX0_copyFrom_19 : decode cX0_copyFrom 19 = .ok (.getfield 30, 3) := by decide +kernel
theorem dX0_copyFrom_22 : decode cX0_copyFrom 22 = .ok (.iconst 0, 1) := by decide +kernel
theorem dX0_copyFrom_23 : decode cX0_copyFrom 23 = .ok (.aload_n 0, 1) := by decide +kernel
theorem dX0_copyFrom_24 : decode cX0_copyFrom 24 = .ok (.getfield 30, 3) := by decide +kernel
theorem dX0_copyFrom_27 : decode cX0_copyFrom 27 = .ok (.iconst 0, 1) := by decide +kernel
theorem dX0_copyFrom_28 : decode cX0_copyFrom 28 = .ok (.aload_n 0, 1) := by decide +kernel
theorem dX0_copyFrom_29 : decode cX0_copyFrom 29 = .ok (.getfield 30, 3) := by decide +kernel
theorem dX0_copyFrom_32 : decode cX0_copyFrom 32 = .ok (.arraylength, 1) := by decide +kernel
theorem dX0_copyFrom_33 : decode cX0_copyFrom 33 = .ok (.invokestatic 41, 3) := by decide +kernel
theorem dX0_copyFrom_36 : decode cX0_copyFrom 36 = .ok (.aload_n 1, 1) := by decide +kernel
theorem dX0_copyFrom_37 : decode cX0_copyFrom 37 = .ok (.getfield 33, 3) := by decide +kernel
theorem dX0_copyFrom_40 : decode cX0_copyFrom 40 = .ok (.iconst 0, 1) := by decide +kernel
theorem dX0_copyFrom_41 : decode cX0_copyFrom 41 = .ok (.aload_n 0, 1) := by decide +kernel
theorem dX0_copyFrom_42 : decode cX0_copyFrom 42 = .ok (.getfield 33, 3) := by decide +kernel
theorem dX0_copyFrom_45 : decode cX0_copyFrom 45 = .ok (.iconst 0, 1) := by decide +kernel
theorem dX0_copyFrom_46 : decode cX0_copyFrom 46 = .ok (.aload_n 0, 1) := by decide +kernel
theorem dX0_copyFrom_47 : decode cX0_copyFrom 47 = .ok (.getfield 33, 3) := by decide +kernel
theorem dX0_copyFrom_50 : decode cX0_copyFrom 50 = .ok (.arraylength, 1) := by decide +kernel
theorem dX0_copyFrom_51 : decode cX0_copyFrom 51 = .ok (.invokestatic 41, 3) := by decide +kernel
theorem dX0_copyFrom_54 : decode cX0_copyFrom 54 = .ok (.aload_n 0, 1) := by decide +kernel
theorem dX0_copyFrom_55 : decode cX0_copyFrom 55 = .ok (.aload_n 1, 1) := by decide +kernel
theorem dX0_copyFrom_56 : decode cX0_copyFrom 56 = .ok (.getfield 57, 3) := by decide +kernel
theorem dX0_copyFrom_59 : decode cX0_copyFrom 59 = .ok (.putfield 57, 3) := by decide +kernel
theorem dX0_copyFrom_62 : decode cX0_copyFrom 62 = .ok (.aload_n 0, 1) := by decide +kernel
theorem dX0_copyFrom_63 : decode cX0_copyFrom 63 = .ok (.aload_n 1, 1) := by decide +kernel
theorem dX0_copyFrom_64 : decode cX0_copyFrom 64 = .ok (.getfield 61, 3) := by decide +kernel
theorem dX0_copyFrom_67 : decode cX0_copyFrom 67 = .ok (.putfield 61, 3) := by decide +kernel
theorem dX0_copyFrom_70 : decode cX0_copyFrom 70 = .ok (.aload_n 0, 1) := by decide +kernel
theorem dX0_copyFrom_71 : decode cX0_copyFrom 71 = .ok (.aload_n 1, 1) := by decide +kernel
theorem dX0_copyFrom_72 : decode cX0_copyFrom 72 = .ok (.getfield 62, 3) := by decide +kernel
theorem dX0_copyFrom_75 : decode cX0_copyFrom 75 = .ok (.putfield 62, 3) := by decide +kernel
theorem dX0_copyFrom_78 : decode cX0_copyFrom 78 = .ok (.aload_n 0, 1) := by decide +kernel
theorem dX0_copyFrom_79 : decode cX0_copyFrom 79 = .ok (.aload_n 1, 1) := by decide +kernel
theorem dX0_copyFrom_80 : decode cX0_copyFrom 80 = .ok (.getfield 65, 3) := by decide +kernel
theorem dX0_copyFrom_83 : decode cX0_copyFrom 83 = .ok (.putfield 65, 3) := by decide +kernel
theorem dX0_copyFrom_86 : decode cX0_copyFrom 86 = .ok (.aload_n 0, 1) := by decide +kernel
theorem dX0_copyFrom_87 : decode cX0_copyFrom 87 = .ok (.aload_n 1, 1) := by decide +kernel
theorem dX0_copyFrom_88 : decode cX0_copyFrom 88 = .ok (.getfield 68, 3) := by decide +kernel
theorem dX0_copyFrom_91 : decode cX0_copyFrom 91 = .ok (.putfield 68, 3) := by decide +kernel
theorem dX0_copyFrom_94 : decode cX0_copyFrom 94 = .ok (.aload_n 0, 1) := by decide +kernel
theorem dX0_copyFrom_95 : decode cX0_copyFrom 95 = .ok (.aload_n 1, 1) := by decide +kernel
theorem dX0_copyFrom_96 : decode cX0_copyFrom 96 = .ok (.getfield 112, 3) := by decide +kernel
theorem dX0_copyFrom_99 : decode cX0_copyFrom 99 = .ok (.putfield 112, 3) := by decide +kernel
theorem dX0_copyFrom_102 : decode cX0_copyFrom 102 = .ok (.aload_n 0, 1) := by decide +kernel
theorem dX0_copyFrom_103 : decode cX0_copyFrom 103 = .ok (.aload_n 1, 1) := by decide +kernel
theorem dX0_copyFrom_104 : decode cX0_copyFrom 104 = .ok (.getfield 115, 3) := by decide +kernel
theorem dX0_copyFrom_107 : decode cX0_copyFrom 107 = .ok (.putfield 115, 3) := by decide +kernel
theorem dX0_copyFrom_110 : decode cX0_copyFrom 110 = .ok (.aload_n 0, 1) := by decide +kernel
theorem dX0_copyFrom_111 : decode cX0_copyFrom 111 = .ok (.aload_n 1, 1) := by decide +kernel
theorem dX0_copyFrom_112 : decode cX0_copyFrom 112 = .ok (.getfield 71, 3) := by decide +kernel
theorem dX0_copyFrom_115 : decode cX0_copyFrom 115 = .ok (.putfield 71, 3) := by decide +kernel
theorem dX0_copyFrom_118 : decode cX0_copyFrom 118 = .ok (.aload_n 0, 1) := by decide +kernel
theorem dX0_copyFrom_119 : decode cX0_copyFrom 119 = .ok (.aload_n 1, 1) := by decide +kernel
theorem dX0_copyFrom_120 : decode cX0_copyFrom 120 = .ok (.getfield 74, 3) := by decide +kernel
theorem dX0_copyFrom_123 : decode cX0_copyFrom 123 = .ok (.putfield 74, 3) := by decide +kernel
theorem dX0_copyFrom_126 : decode cX0_copyFrom 126 = .ok (.aload_n 0, 1) := by decide +kernel
theorem dX0_copyFrom_127 : decode cX0_copyFrom 127 = .ok (.aload_n 1, 1) := by decide +kernel
theorem dX0_copyFrom_128 : decode cX0_copyFrom 128 = .ok (.getfield 77, 3) := by decide +kernel
theorem dX0_copyFrom_131 : decode cX0_copyFrom 131 = .ok (.putfield 77, 3) := by decide +kernel
theorem dX0_copyFrom_134 : decode cX0_copyFrom 134 = .ok (.aload_n 0, 1) := by decide +kernel
theorem dX0_copyFrom_135 : decode cX0_copyFrom 135 = .ok (.aload_n 1, 1) := by decide +kernel
theorem dX0_copyFrom_136 : decode cX0_copyFrom 136 = .ok (.getfield 80, 3) := by decide +kernel
theorem dX0_copyFrom_139 : decode cX0_copyFrom 139 = .ok (.putfield 80, 3) := by decide +kernel
theorem dX0_copyFrom_142 : decode cX0_copyFrom 142 = .ok (.iconst 0, 1) := by decide +kernel
theorem dX0_copyFrom_143 : decode cX0_copyFrom 143 = .ok (.istore_n 2, 1) := by decide +kernel
theorem dX0_copyFrom_144 : decode cX0_copyFrom 144 = .ok (.iload_n 2, 1) := by decide +kernel
theorem dX0_copyFrom_145 : decode cX0_copyFrom 145 = .ok (.aload_n 0, 1) := by decide +kernel
theorem dX0_copyFrom_146 : decode cX0_copyFrom 146 = .ok (.getfield 57, 3) := by decide +kernel
theorem dX0_copyFrom_149 : decode cX0_copyFrom 149 = .ok (.if_icmp .ge 24, 3) := by decide +kernel
theorem dX0_copyFrom_152 : decode cX0_copyFrom 152 = .ok (.aload_n 0, 1) := by decide +kernel
theorem dX0_copyFrom_153 : decode cX0_copyFrom 153 = .ok (.getfield 19, 3) := by decide +kernel
theorem dX0_copyFrom_156 : decode cX0_copyFrom 156 = .ok (.iload_n 2, 1) := by decide +kernel
theorem dX0_copyFrom_157 : decode cX0_copyFrom 157 = .ok (.aaload, 1) := by decide +kernel
theorem dX0_copyFrom_158 : decode cX0_copyFrom 158 = .ok (.aload_n 1, 1) := by decide +kernel
theorem dX0_copyFrom_159 : decode cX0_copyFrom 159 = .ok (.getfield 19, 3) := by decide +kernel
theorem dX0_copyFrom_162 : decode cX0_copyFrom 162 = .ok (.iload_n 2, 1) := by decide +kernel
theorem dX0_copyFrom_163 : decode cX0_copyFrom 163 = .ok (.aaload, 1) := by decide +kernel
theorem dX0_copyFrom_164 : decode cX0_copyFrom 164 = .ok (.invokevirtual 118, 3) := by decide +kernel
theorem dX0_copyFrom_167 : decode cX0_copyFrom 167 = .ok (.iinc 2 1, 3) := by decide +kernel
theorem dX0_copyFrom_170 : decode cX0_copyFrom 170 = .ok (.goto (-26), 3) := by decide +kernel
theorem dX0_copyFrom_173 : decode cX0_copyFrom 173 = .ok (.iconst 0, 1) := by decide +kernel
theorem dX0_copyFrom_174 : decode cX0_copyFrom 174 = .ok (.istore_n 2, 1) := by decide +kernel
theorem dX0_copyFrom_175 : decode cX0_copyFrom 175 = .ok (.iload_n 2, 1) := by decide +kernel
theorem dX0_copyFrom_176 : decode cX0_copyFrom 176 = .ok (.aload_n 0, 1) := by decide +kernel
theorem dX0_copyFrom_177 : decode cX0_copyFrom 177 = .ok (.getfield 61, 3) := by decide +kernel
theorem dX0_copyFrom_180 : decode cX0_copyFrom 180 = .ok (.if_icmp .ge 24, 3) := by decide +kernel
theorem dX0_copyFrom_183 : decode cX0_copyFrom 183 = .ok (.aload_n 0, 1) := by decide +kernel
theorem dX0_copyFrom_184 : decode cX0_copyFrom 184 = .ok (.getfield 11, 3) := by decide +kernel
theorem dX0_copyFrom_187 : decode cX0_copyFrom 187 = .ok (.iload_n 2, 1) := by decide +kernel
theorem dX0_copyFrom_188 : decode cX0_copyFrom 188 = .ok (.aaload, 1) := by decide +kernel
theorem dX0_copyFrom_189 : decode cX0_copyFrom 189 = .ok (.aload_n 1, 1) := by decide +kernel
theorem dX0_copyFrom_190 : decode cX0_copyFrom 190 = .ok (.getfield 11, 3) := by decide +kernel
theorem dX0_copyFrom_193 : decode cX0_copyFrom 193 = .ok (.iload_n 2, 1) := by decide +kernel
theorem dX0_copyFrom_194 : decode cX0_copyFrom 194 = .ok (.aaload, 1) := by decide +kernel
theorem dX0_copyFrom_195 : decode cX0_copyFrom 195 = .ok (.invokevirtual 122, 3) := by decide +kernel
theorem dX0_copyFrom_198 : decode cX0_copyFrom 198 = .ok (.iinc 2 1, 3) := by decide +kernel
theorem dX0_copyFrom_201 : decode cX0_copyFrom 201 = .ok (.goto (-26), 3) := by decide +kernel
theorem dX0_copyFrom_204 : decode cX0_copyFrom 204 = .ok (.return_, 1) := by decide +kernel
theorem dX0_loadAllDay_0 : decode cX0_loadAllDay 0 = .ok (.aload_n 0, 1) := by decide +kernel
theorem dX0_loadAllDay_1 : decode cX0_loadAllDay 1 = .ok (.aload_n 1, 1) := by decide +kernel
theorem dX0_loadAllDay_2 : decode cX0_loadAllDay 2 = .ok (.iconst (-1), 1) := by decide +kernel
theorem dX0_loadAllDay_3 : decode cX0_loadAllDay 3 = .ok (.invokevirtual 125, 3) := by decide +kernel
theorem dX0_loadAllDay_6 : decode cX0_loadAllDay 6 = .ok (.aload_n 0, 1) := by decide +kernel
theorem dX0_loadAllDay_7 : decode cX0_loadAllDay 7 = .ok (.iconst 0, 1) := by decide +kernel
theorem dX0_loadAllDay_8 : decode cX0_loadAllDay 8 = .ok (.iconst 0, 1) := by decide +kernel
theorem dX0_loadAllDay_9 : decode cX0_loadAllDay 9 = .ok (.invokevirtual 89, 3) := by decide +kernel
theorem dX0_loadAllDay_12 : decode cX0_loadAllDay 12 = .ok (.iconst 0, 1) := by decide +kernel
theorem dX0_loadAllDay_13 : decode cX0_loadAllDay 13 = .ok (.istore_n 3, 1) := by decide +kernel
theorem dX0_loadAllDay_14 : decode cX0_loadAllDay 14 = .ok (.iload_n 3, 1) := by decide +kernel
theorem dX0_loadAllDay_15 : decode cX0_loadAllDay 15 = .ok (.aload_n 0, 1) := by decide +kernel
theorem dX0_loadAllDay_16 : decode cX0_loadAllDay 16 = .ok (.getfield 57, 3) := by decide +kernel
theorem dX0_loadAllDay_19 : decode cX0_loadAllDay 19 = .ok (.if_icmp .ge 23, 3) := by decide +kernel
theorem dX0_loadAllDay_22 : decode cX0_loadAllDay 22 = .ok (.aload_n 0, 1) := by decide +kernel
theorem dX0_loadAllDay_23 : decode cX0_loadAllDay 23 = .ok (.getfield 19, 3) := by decide +kernel
theorem dX0_loadAllDay_26 : decode cX0_loadAllDay 26 = .ok (.iload_n 3, 1) := by decide +kernel
theorem dX0_loadAllDay_27 : decode cX0_loadAllDay 27 = .ok (.aaload, 1) := by decide +kernel
theorem dX0_loadAllDay_28 : decode cX0_loadAllDay 28 = .ok (.iload_n 2, 1) := by decide +kernel
theorem dX0_loadAllDay_29 : decode cX0_loadAllDay 29 = .ok (.iload_n 3, 1) := by decide +kernel
theorem dX0_loadAllDay_30 : decode cX0_loadAllDay 30 = .ok (.invokestatic 129, 3) := by decide +kernel
theorem dX0_loadAllDay_33 : decode cX0_loadAllDay 33 = .ok (.putfield 133, 3) := by decide +kernel
theorem dX0_loadAllDay_36 : decode cX0_loadAllDay 36 = .ok (.iinc 3 1, 3) := by decide +kernel
theorem dX0_loadAllDay_39 : decode cX0_loadAllDay 39 = .ok (.goto (-25), 3) := by decide +kernel
theorem dX0_loadAllDay_42 : decode cX0_loadAllDay 42 = .ok (.return_, 1) := by decide +kernel
theorem dX0_setPaces_0 : decode cX0_setPaces 0 = .ok (.iconst 0, 1) := by decide +kernel
theorem dX0_setPaces_1 : decode cX0_setPaces 1 = .ok (.istore_n 2, 1) := by decide +kernel
theorem dX0_setPaces_2 : decode cX0_setPaces 2 = .ok (.iload_n 2, 1) := by decide +kernel
theorem dX0_setPaces_3 : decode cX0_setPaces 3 = .ok (.aload_n 0, 1) := by decide +kernel
theorem dX0_setPaces_4 : decode cX0_setPaces 4 = .ok (.getfield 57, 3) := by decide +kernel
theorem dX0_setPaces_7 : decode cX0_setPaces 7 = .ok (.if_icmp .ge 25, 3) := by decide +kernel
theorem dX0_setPaces_10 : decode cX0_setPaces 10 = .ok (.aload_n 0, 1) := by decide +kernel
theorem dX0_setPaces_11 : decode cX0_setPaces 11 = .ok (.getfield 19, 3) := by decide +kernel
theorem dX0_setPaces_14 : decode cX0_setPaces 14 = .ok (.iload_n 2, 1) := by decide +kernel
theorem dX0_setPaces_15 : decode cX0_setPaces 15 = .ok (.aaload, 1) := by decide +kernel
theorem dX0_setPaces_16 : decode cX0_setPaces 16 = .ok (.iconst 1, 1) := by decide +kernel
theorem dX0_setPaces_17 : decode cX0_setPaces 17 = .ok (.iload_n 1, 1) := by decide +kernel
theorem dX0_setPaces_18 : decode cX0_setPaces 18 = .ok (.iload_n 2, 1) := by decide +kernel
theorem dX0_setPaces_19 : decode cX0_setPaces 19 = .ok (.ishr, 1) := by decide +kernel
theorem dX0_setPaces_20 : decode cX0_setPaces 20 = .ok (.iconst 1, 1) := by decide +kernel
theorem dX0_setPaces_21 : decode cX0_setPaces 21 = .ok (.iand, 1) := by decide +kernel
theorem dX0_setPaces_22 : decode cX0_setPaces 22 = .ok (.iadd, 1) := by decide +kernel
theorem dX0_setPaces_23 : decode cX0_setPaces 23 = .ok (.putfield 136, 3) := by decide +kernel
theorem dX0_setPaces_26 : decode cX0_setPaces 26 = .ok (.iinc 2 1, 3) := by decide +kernel
theorem dX0_setPaces_29 : decode cX0_setPaces 29 = .ok (.goto (-27), 3) := by decide +kernel
theorem dX0_setPaces_32 : decode cX0_setPaces 32 = .ok (.return_, 1) := by decide +kernel
theorem dX0_turnAt_0 : decode cX0_turnAt 0 = .ok (.aload_n 0, 1) := by decide +kernel
theorem dX0_turnAt_1 : decode cX0_turnAt 1 = .ok (.iload_n 1, 1) := by decide +kernel
theorem dX0_turnAt_2 : decode cX0_turnAt 2 = .ok (.putfield 112, 3) := by decide +kernel
theorem dX0_turnAt_5 : decode cX0_turnAt 5 = .ok (.aload_n 0, 1) := by decide +kernel
theorem dX0_turnAt_6 : decode cX0_turnAt 6 = .ok (.iload_n 2, 1) := by decide +kernel
theorem dX0_turnAt_7 : decode cX0_turnAt 7 = .ok (.putfield 115, 3) := by decide +kernel
theorem dX0_turnAt_10 : decode cX0_turnAt 10 = .ok (.return_, 1) := by decide +kernel
theorem dX0_keepStanding_0 : decode cX0_keepStanding 0 = .ok (.iload_n 1, 1) := by decide +kernel
theorem dX0_keepStanding_1 : decode cX0_keepStanding 1 = .ok (.iconst 0, 1) := by decide +kernel
theorem dX0_keepStanding_2 : decode cX0_keepStanding 2 = .ok (.aload_n 0, 1) := by decide +kernel
theorem dX0_keepStanding_3 : decode cX0_keepStanding 3 = .ok (.getfield 57, 3) := by decide +kernel
theorem dX0_keepStanding_6 : decode cX0_keepStanding 6 = .ok (.iconst 1, 1) := by decide +kernel
theorem dX0_keepStanding_7 : decode cX0_keepStanding 7 = .ok (.isub, 1) := by decide +kernel
theorem dX0_keepStanding_8 : decode cX0_keepStanding 8 = .ok (.invokestatic 139, 3) := by decide +kernel
theorem dX0_keepStanding_11 : decode cX0_keepStanding 11 = .ok (.ifCond .eq 36, 3) := by decide +kernel
theorem dX0_keepStanding_14 : decode cX0_keepStanding 14 = .ok (.aload_n 0, 1) := by decide +kernel
theorem dX0_keepStanding_15 : decode cX0_keepStanding 15 = .ok (.getfield 19, 3) := by decide +kernel
theorem dX0_keepStanding_18 : decode cX0_keepStanding 18 = .ok (.iload_n 1, 1) := by decide +kernel
theorem dX0_keepStanding_19 : decode cX0_keepStanding 19 = .ok (.aaload, 1) := by decide +kernel
theorem dX0_keepStanding_20 : decode cX0_keepStanding 20 = .ok (.iconst 0, 1) := by decide +kernel
theorem dX0_keepStanding_21 : decode cX0_keepStanding 21 = .ok (.putfield 133, 3) := by decide +kernel
theorem dX0_keepStanding_24 : decode cX0_keepStanding 24 = .ok (.aload_n 0, 1) := by decide +kernel
theorem dX0_keepStanding_25 : decode cX0_keepStanding 25 = .ok (.dup, 1) := by decide +kernel
theorem dX0_keepStanding_26 : decode cX0_keepStanding 26 = .ok (.getfield 115, 3) := by decide +kernel
theorem dX0_keepStanding_29 : decode cX0_keepStanding 29 = .ok (.aload_n 0, 1) := by decide +kernel
theorem dX0_keepStanding_30 : decode cX0_keepStanding 30 = .ok (.getfield 115, 3) := by decide +kernel
theorem dX0_keepStanding_33 : decode cX0_keepStanding 33 = .ok (.iload_n 1, 1) := by decide +kernel
theorem dX0_keepStanding_34 : decode cX0_keepStanding 34 = .ok (.invokestatic 129, 3) := by decide +kernel
theorem dX0_keepStanding_37 : decode cX0_keepStanding 37 = .ok (.getstatic 143, 3) := by decide +kernel
theorem dX0_keepStanding_40 : decode cX0_keepStanding 40 = .ok (.iload_n 1, 1) := by decide +kernel
theorem dX0_keepStanding_41 : decode cX0_keepStanding 41 = .ok (.iaload, 1) := by decide +kernel
theorem dX0_keepStanding_42 : decode cX0_keepStanding 42 = .ok (.imul, 1) := by decide +kernel
theorem dX0_keepStanding_43 : decode cX0_keepStanding 43 = .ok (.isub, 1) := by decide +kernel
theorem dX0_keepStanding_44 : decode cX0_keepStanding 44 = .ok (.putfield 115, 3) := by decide +kernel
theorem dX0_keepStanding_47 : decode cX0_keepStanding 47 = .ok (.return_, 1) := by decide +kernel
theorem dX0_run_0 : decode cX0_run 0 = .ok (.iload_n 1, 1) := by decide +kernel
theorem dX0_run_1 : decode cX0_run 1 = .ok (.istore_n 3, 1) := by decide +kernel
theorem dX0_run_2 : decode cX0_run 2 = .ok (.iload_n 3, 1) := by decide +kernel
theorem dX0_run_3 : decode cX0_run 3 = .ok (.iload_n 2, 1) := by decide +kernel
theorem dX0_run_4 : decode cX0_run 4 = .ok (.if_icmp .gt 14, 3) := by decide +kernel
theorem dX0_run_7 : decode cX0_run 7 = .ok (.aload_n 0, 1) := by decide +kernel
theorem dX0_run_8 : decode cX0_run 8 = .ok (.iload_n 3, 1) := by decide +kernel
theorem dX0_run_9 : decode cX0_run 9 = .ok (.invokevirtual 146, 3) := by decide +kernel
theorem dX0_run_12 : decode cX0_run 12 = .ok (.iinc 3 1, 3) := by decide +kernel
theorem dX0_run_15 : decode cX0_run 15 = .ok (.goto (-13), 3) := by decide +kernel
theorem dX0_run_18 : decode cX0_run 18 = .ok (.return_, 1) := by decide +kernel
theorem dX0_runWaits_0 : decode cX0_runWaits 0 = .ok (.iconst 1, 1) := by decide +kernel
theorem dX0_runWaits_1 : decode cX0_runWaits 1 = .ok (.istore_n 3, 1) := by decide +kernel
theorem dX0_runWaits_2 : decode cX0_runWaits 2 = .ok (.iload_n 1, 1) := by decide +kernel
theorem dX0_runWaits_3 : decode cX0_runWaits 3 = .ok (.istore 4, 2) := by decide +kernel
theorem dX0_runWaits_5 : decode cX0_runWaits 5 = .ok (.iload 4, 2) := by decide +kernel
theorem dX0_runWaits_7 : decode cX0_runWaits 7 = .ok (.bipush 99, 2) := by decide +kernel
theorem dX0_runWaits_9 : decode cX0_runWaits 9 = .ok (.if_icmp .gt 51, 3) := by decide +kernel
theorem dX0_runWaits_12 : decode cX0_runWaits 12 = .ok (.iload_n 3, 1) := by decide +kernel
theorem dX0_runWaits_13 : decode cX0_runWaits 13 = .ok (.ifCond .eq 47, 3) := by decide +kernel
theorem dX0_runWaits_16 : decode cX0_runWaits 16 = .ok (.aload_n 0, 1) := by decide +kernel
theorem dX0_runWaits_17 : decode cX0_runWaits 17 = .ok (.iload 4, 2) := by decide +kernel
theorem dX0_runWaits_19 : decode cX0_runWaits 19 = .ok (.invokevirtual 146, 3) := by decide +kernel
theorem dX0_runWaits_22 : decode cX0_runWaits 22 = .ok (.aload_n 0, 1) := by decide +kernel
theorem dX0_runWaits_23 : decode cX0_runWaits 23 = .ok (.getfield 71, 3) := by decide +kernel
theorem dX0_runWaits_26 : decode cX0_runWaits 26 = .ok (.iload_n 2, 1) := by decide +kernel
theorem dX0_runWaits_27 : decode cX0_runWaits 27 = .ok (.if_icmp .ge 25, 3) := by decide +kernel
theorem dX0_runWaits_30 : decode cX0_runWaits 30 = .ok (.aload_n 0, 1) := by decide +kernel
theorem dX0_runWaits_31 : decode cX0_runWaits 31 = .ok (.getfield 68, 3) := by decide +kernel
theorem dX0_runWaits_34 : decode cX0_runWaits 34 = .ok (.ifCond .gt 14, 3) := by decide +kernel
theorem dX0_runWaits_37 : decode cX0_runWaits 37 = .ok (.aload_n 0, 1) := by decide +kernel
theorem dX0_runWaits_38 : decode cX0_runWaits 38 = .ok (.getfield 65, 3) := by decide +kernel
theorem dX0_runWaits_41 : decode cX0_runWaits 41 = .ok (.aload_n 0, 1) := by decide +kernel
theorem dX0_runWaits_42 : decode cX0_runWaits 42 = .ok (.getfield 62, 3) := by decide +kernel
theorem dX0_runWaits_45 : decode cX0_runWaits 45 = .ok (.if_icmp .ge 7, 3) := by decide +kernel
theorem dX0_runWaits_48 : decode cX0_runWaits 48 = .ok (.iconst 1, 1) := by decide +kernel
theorem dX0_runWaits_49 : decode cX0_runWaits 49 = .ok (.goto 4, 3) := by decide +kernel
theorem dX0_runWaits_52 : decode cX0_runWaits 52 = .ok (.iconst 0, 1) := by decide +kernel
theorem dX0_runWaits_53 : decode cX0_runWaits 53 = .ok (.istore_n 3, 1) := by decide +kernel
theorem dX0_runWaits_54 : decode cX0_runWaits 54 = .ok (.iinc 4 1, 3) := by decide +kernel
theorem dX0_runWaits_57 : decode cX0_runWaits 57 = .ok (.goto (-52), 3) := by decide +kernel
theorem dX0_runWaits_60 : decode cX0_runWaits 60 = .ok (.return_, 1) := by decide +kernel
theorem dX0_passTick_0 : decode cX0_passTick 0 = .ok (.aload_n 0, 1) := by decide +kernel
theorem dX0_passTick_1 : decode cX0_passTick 1 = .ok (.iload_n 1, 1) := by decide +kernel
theorem dX0_passTick_2 : decode cX0_passTick 2 = .ok (.invokevirtual 149, 3) := by decide +kernel
theorem dX0_passTick_5 : decode cX0_passTick 5 = .ok (.aload_n 0, 1) := by decide +kernel
theorem dX0_passTick_6 : decode cX0_passTick 6 = .ok (.getfield 112, 3) := by decide +kernel
theorem dX0_passTick_9 : decode cX0_passTick 9 = .ok (.ifCond .le 16, 3) := by decide +kernel
theorem dX0_passTick_12 : decode cX0_passTick 12 = .ok (.iload_n 1, 1) := by decide +kernel
theorem dX0_passTick_13 : decode cX0_passTick 13 = .ok (.aload_n 0, 1) := by decide +kernel
theorem dX0_passTick_14 : decode cX0_passTick 14 = .ok (.getfield 112, 3) := by decide +kernel
theorem dX0_passTick_17 : decode cX0_passTick 17 = .ok (.if_icmp .ne 8, 3) := by decide +kernel
theorem dX0_passTick_20 : decode cX0_passTick 20 = .ok (.aload_n 0, 1) := by decide +kernel
theorem dX0_passTick_21 : decode cX0_passTick 21 = .ok (.iload_n 1, 1) := by decide +kernel
theorem dX0_passTick_22 : decode cX0_passTick 22 = .ok (.invokevirtual 152, 3) := by decide +kernel
theorem dX0_passTick_25 : decode cX0_passTick 25 = .ok (.iconst 0, 1) := by decide +kernel
theorem dX0_passTick_26 : decode cX0_passTick 26 = .ok (.istore_n 2, 1) := by decide +kernel
theorem dX0_passTick_27 : decode cX0_passTick 27 = .ok (.iload_n 2, 1) := by decide +kernel
theorem dX0_passTick_28 : decode cX0_passTick 28 = .ok (.aload_n 0, 1) := by decide +kernel
theorem dX0_passTick_29 : decode cX0_passTick 29 = .ok (.getfield 57, 3) := by decide +kernel
theorem dX0_passTick_32 : decode cX0_passTick 32 = .ok (.if_icmp .ge 44, 3) := by decide +kernel
theorem dX0_passTick_35 : decode cX0_passTick 35 = .ok (.aload_n 0, 1) := by decide +kernel
theorem dX0_passTick_36 : decode cX0_passTick 36 = .ok (.getfield 19, 3) := by decide +kernel
theorem dX0_passTick_39 : decode cX0_passTick 39 = .ok (.iload_n 2, 1) := by decide +kernel
theorem dX0_passTick_40 : decode cX0_passTick 40 = .ok (.aaload, 1) := by decide +kernel
theorem dX0_passTick_41 : decode cX0_passTick 41 = .ok (.invokevirtual 155, 3) := by decide +kernel
theorem dX0_passTick_44 : decode cX0_passTick 44 = .ok (.ifCond .eq 26, 3) := by decide +kernel
theorem dX0_passTick_47 : decode cX0_passTick 47 = .ok (.aload_n 0, 1) := by decide +kernel
theorem dX0_passTick_48 : decode cX0_passTick 48 = .ok (.getfield 19, 3) := by decide +kernel
theorem dX0_passTick_51 : decode cX0_passTick 51 = .ok (.iload_n 2, 1) := by decide +kernel
theorem dX0_passTick_52 : decode cX0_passTick 52 = .ok (.aaload, 1) := by decide +kernel
theorem dX0_passTick_53 : decode cX0_passTick 53 = .ok (.getfield 159, 3) := by decide +kernel
theorem dX0_passTick_56 : decode cX0_passTick 56 = .ok (.ifCond .le 14, 3) := by decide +kernel
theorem dX0_passTick_59 : decode cX0_passTick 59 = .ok (.aload_n 0, 1) := by decide +kernel
theorem dX0_passTick_60 : decode cX0_passTick 60 = .ok (.aload_n 0, 1) := by decide +kernel
theorem dX0_passTick_61 : decode cX0_passTick 61 = .ok (.getfield 19, 3) := by decide +kernel
theorem dX0_passTick_64 : decode cX0_passTick 64 = .ok (.iload_n 2, 1) := by decide +kernel
theorem dX0_passTick_65 : decode cX0_passTick 65 = .ok (.aaload, 1) := by decide +kernel
theorem dX0_passTick_66 : decode cX0_passTick 66 = .ok (.iload_n 1, 1) := by decide +kernel
theorem dX0_passTick_67 : decode cX0_passTick 67 = .ok (.invokevirtual 161, 3) := by decide +kernel
theorem dX0_passTick_70 : decode cX0_passTick 70 = .ok (.iinc 2 1, 3) := by decide +kernel
theorem dX0_passTick_73 : decode cX0_passTick 73 = .ok (.goto (-46), 3) := by decide +kernel
theorem dX0_passTick_76 : decode cX0_passTick 76 = .ok (.aload_n 0, 1) := by decide +kernel
theorem dX0_passTick_77 : decode cX0_passTick 77 = .ok (.iconst 0, 1) := by decide +kernel
theorem dX0_passTick_78 : decode cX0_passTick 78 = .ok (.iload_n 1, 1) := by decide +kernel
theorem dX0_passTick_79 : decode cX0_passTick 79 = .ok (.invokevirtual 165, 3) := by decide +kernel
theorem dX0_passTick_82 : decode cX0_passTick 82 = .ok (.aload_n 0, 1) := by decide +kernel
theorem dX0_passTick_83 : decode cX0_passTick 83 = .ok (.iconst 1, 1) := by decide +kernel
theorem dX0_passTick_84 : decode cX0_passTick 84 = .ok (.iload_n 1, 1) := by decide +kernel
theorem dX0_passTick_85 : decode cX0_passTick 85 = .ok (.invokevirtual 165, 3) := by decide +kernel
theorem dX0_passTick_88 : decode cX0_passTick 88 = .ok (.iconst 0, 1) := by decide +kernel
theorem dX0_passTick_89 : decode cX0_passTick 89 = .ok (.istore_n 2, 1) := by decide +kernel
theorem dX0_passTick_90 : decode cX0_passTick 90 = .ok (.iload_n 2, 1) := by decide +kernel
theorem dX0_passTick_91 : decode cX0_passTick 91 = .ok (.aload_n 0, 1) := by decide +kernel
theorem dX0_passTick_92 : decode cX0_passTick 92 = .ok (.getfield 57, 3) := by decide +kernel
theorem dX0_passTick_95 : decode cX0_passTick 95 = .ok (.if_icmp .ge 34, 3) := by decide +kernel
theorem dX0_passTick_98 : decode cX0_passTick 98 = .ok (.aload_n 0, 1) := by decide +kernel
theorem dX0_passTick_99 : decode cX0_passTick 99 = .ok (.getfield 19, 3) := by decide +kernel
theorem dX0_passTick_102 : decode cX0_passTick 102 = .ok (.iload_n 2, 1) := by decide +kernel
theorem dX0_passTick_103 : decode cX0_passTick 103 = .ok (.aaload, 1) := by decide +kernel
theorem dX0_passTick_104 : decode cX0_passTick 104 = .ok (.invokevirtual 155, 3) := by decide +kernel
theorem dX0_passTick_107 : decode cX0_passTick 107 = .ok (.ifCond .eq 16, 3) := by decide +kernel
theorem dX0_passTick_110 : decode cX0_passTick 110 = .ok (.aload_n 0, 1) := by decide +kernel
theorem dX0_passTick_111 : decode cX0_passTick 111 = .ok (.getfield 68, 3) := by decide +kernel
theorem dX0_passTick_114 : decode cX0_passTick 114 = .ok (.ifCond .le 9, 3) := by decide +kernel
theorem dX0_passTick_117 : decode cX0_passTick 117 = .ok (.aload_n 0, 1) := by decide +kernel
theorem dX0_passTick_118 : decode cX0_passTick 118 = .ok (.iload_n 2, 1) := by decide +kernel
theorem dX0_passTick_119 : decode cX0_passTick 119 = .ok (.iload_n 1, 1) := by decide +kernel
theorem dX0_passTick_120 : decode cX0_passTick 120 = .ok (.invokevirtual 168, 3) := by decide +kernel
theorem dX0_passTick_123 : decode cX0_passTick 123 = .ok (.iinc 2 1, 3) := by decide +kernel
theorem dX0_passTick_126 : decode cX0_passTick 126 = .ok (.goto (-36), 3) := by decide +kernel
theorem dX0_passTick_129 : decode cX0_passTick 129 = .ok (.iconst 0, 1) := by decide +kernel
theorem dX0_passTick_130 : decode cX0_passTick 130 = .ok (.istore_n 2, 1) := by decide +kernel
theorem dX0_passTick_131 : decode cX0_passTick 131 = .ok (.iload_n 2, 1) := by decide +kernel
theorem dX0_passTick_132 : decode cX0_passTick 132 = .ok (.aload_n 0, 1) := by decide +kernel
theorem dX0_passTick_133 : decode cX0_passTick 133 = .ok (.getfield 57, 3) := by decide +kernel
theorem dX0_passTick_136 : decode cX0_passTick 136 = .ok (.if_icmp .ge 14, 3) := by decide +kernel
theorem dX0_passTick_139 : decode cX0_passTick 139 = .ok (.aload_n 0, 1) := by decide +kernel
theorem dX0_passTick_140 : decode cX0_passTick 140 = .ok (.iload_n 2, 1) := by decide +kernel
theorem dX0_passTick_141 : decode cX0_passTick 141 = .ok (.invokevirtual 171, 3) := by decide +kernel
theorem dX0_passTick_144 : decode cX0_passTick 144 = .ok (.iinc 2 1, 3) := by decide +kernel
theorem dX0_passTick_147 : decode cX0_passTick 147 = .ok (.goto (-16), 3) := by decide +kernel
theorem dX0_passTick_150 : decode cX0_passTick 150 = .ok (.aload_n 0, 1) := by decide +kernel
theorem dX0_passTick_151 : decode cX0_passTick 151 = .ok (.dup, 1) := by decide +kernel
theorem dX0_passTick_152 : decode cX0_passTick 152 = .ok (.getfield 71, 3) := by decide +kernel
theorem dX0_passTick_155 : decode cX0_passTick 155 = .ok (.aload_n 0, 1) := by decide +kernel
theorem dX0_passTick_156 : decode cX0_passTick 156 = .ok (.getfield 68, 3) := by decide +kernel
theorem dX0_passTick_159 : decode cX0_passTick 159 = .ok (.iadd, 1) := by decide +kernel
theorem dX0_passTick_160 : decode cX0_passTick 160 = .ok (.putfield 71, 3) := by decide +kernel
theorem dX0_passTick_163 : decode cX0_passTick 163 = .ok (.return_, 1) := by decide +kernel
theorem dX0_arrive_0 : decode cX0_arrive 0 = .ok (.aload_n 0, 1) := by decide +kernel
theorem dX0_arrive_1 : decode cX0_arrive 1 = .ok (.getfield 65, 3) := by decide +kernel
theorem dX0_arrive_4 : decode cX0_arrive 4 = .ok (.aload_n 0, 1) := by decide +kernel
theorem dX0_arrive_5 : decode cX0_arrive 5 = .ok (.getfield 62, 3) := by decide +kernel
theorem dX0_arrive_8 : decode cX0_arrive 8 = .ok (.if_icmp .ge 65, 3) := by decide +kernel
theorem dX0_arrive_11 : decode cX0_arrive 11 = .ok (.aload_n 0, 1) := by decide +kernel
theorem dX0_arrive_12 : decode cX0_arrive 12 = .ok (.getfield 11, 3) := by decide +kernel
theorem dX0_arrive_15 : decode cX0_arrive 15 = .ok (.aload_n 0, 1) := by decide +kernel
theorem dX0_arrive_16 : decode cX0_arrive 16 = .ok (.getfield 30, 3) := by decide +kernel
theorem dX0_arrive_19 : decode cX0_arrive 19 = .ok (.aload_n 0, 1) := by decide +kernel
theorem dX0_arrive_20 : decode cX0_arrive 20 = .ok (.getfield 65, 3) := by decide +kernel
theorem dX0_arrive_23 : decode cX0_arrive 23 = .ok (.iaload, 1) := by decide +kernel
theorem dX0_arrive_24 : decode cX0_arrive 24 = .ok (.aaload, 1) := by decide +kernel
theorem dX0_arrive_25 : decode cX0_arrive 25 = .ok (.getfield 109, 3) := by decide +kernel
theorem dX0_arrive_28 : decode cX0_arrive 28 = .ok (.iload_n 1, 1) := by decide +kernel
theorem dX0_arrive_29 : decode cX0_arrive 29 = .ok (.if_icmp .ne 44, 3) := by decide +kernel
theorem dX0_arrive_32 : decode cX0_arrive 32 = .ok (.aload_n 0, 1) := by decide +kernel
theorem dX0_arrive_33 : decode cX0_arrive 33 = .ok (.getfield 11, 3) := by decide +kernel
theorem dX0_arrive_36 : decode cX0_arrive 36 = .ok (.aload_n 0, 1) := by decide +kernel
theorem dX0_arrive_37 : decode cX0_arrive 37 = .ok (.getfield 30, 3) := by decide +kernel
theorem dX0_arrive_40 : decode cX0_arrive 40 = .ok (.aload_n 0, 1) := by decide +kernel
theorem dX0_arrive_41 : decode cX0_arrive 41 = .ok (.getfield 65, 3) := by decide +kernel
theorem dX0_arrive_44 : decode cX0_arrive 44 = .ok (.iaload, 1) := by decide +kernel
theorem dX0_arrive_45 : decode cX0_arrive 45 = .ok (.aaload, 1) := by decide +kernel
theorem dX0_arrive_46 : decode cX0_arrive 46 = .ok (.iconst 0, 1) := by decide +kernel
theorem dX0_arrive_47 : decode cX0_arrive 47 = .ok (.putfield 174, 3) := by decide +kernel
theorem dX0_arrive_50 : decode cX0_arrive 50 = .ok (.aload_n 0, 1) := by decide +kernel
theorem dX0_arrive_51 : decode cX0_arrive 51 = .ok (.dup, 1) := by decide +kernel
theorem dX0_arrive_52 : decode cX0_arrive 52 = .ok (.getfield 65, 3) := by decide +kernel
theorem dX0_arrive_55 : decode cX0_arrive 55 = .ok (.iconst 1, 1) := by decide +kernel
theorem dX0_arrive_56 : decode cX0_arrive 56 = .ok (.iadd, 1) := by decide +kernel
theorem dX0_arrive_57 : decode cX0_arrive 57 = .ok (.putfield 65, 3) := by decide +kernel
theorem dX0_arrive_60 : decode cX0_arrive 60 = .ok (.aload_n 0, 1) := by decide +kernel
theorem dX0_arrive_61 : decode cX0_arrive 61 = .ok (.dup, 1) := by decide +kernel
theorem dX0_arrive_62 : decode cX0_arrive 62 = .ok (.getfield 68, 3) := by decide +kernel
theorem dX0_arrive_65 : decode cX0_arrive 65 = .ok (.iconst 1, 1) := by decide +kernel
theorem dX0_arrive_66 : decode cX0_arrive 66 = .ok (.iadd, 1) := by decide +kernel
theorem dX0_arrive_67 : decode cX0_arrive 67 = .ok (.putfield 68, 3) := by decide +kernel
theorem dX0_arrive_70 : decode cX0_arrive 70 = .ok (.goto (-70), 3) := by decide +kernel
theorem dX0_arrive_73 : decode cX0_arrive 73 = .ok (.return_, 1) := by decide +kernel
theorem dX0_turn_0 : decode cX0_turn 0 = .ok (.iconst 0, 1) := by decide +kernel
theorem dX0_turn_1 : decode cX0_turn 1 = .ok (.istore_n 2, 1) := by decide +kernel
theorem dX0_turn_2 : decode cX0_turn 2 = .ok (.iload_n 2, 1) := by decide +kernel
theorem dX0_turn_3 : decode cX0_turn 3 = .ok (.aload_n 0, 1) := by decide +kernel
theorem dX0_turn_4 : decode cX0_turn 4 = .ok (.getfield 57, 3) := by decide +kernel
theorem dX0_turn_7 : decode cX0_turn 7 = .ok (.if_icmp .ge 59, 3) := by decide +kernel
theorem dX0_turn_10 : decode cX0_turn 10 = .ok (.aload_n 0, 1) := by decide +kernel
theorem dX0_turn_11 : decode cX0_turn 11 = .ok (.getfield 19, 3) := by decide +kernel
theorem dX0_turn_14 : decode cX0_turn 14 = .ok (.iload_n 2, 1) := by decide +kernel
theorem dX0_turn_15 : decode cX0_turn 15 = .ok (.aaload, 1) := by decide +kernel
theorem dX0_turn_16 : decode cX0_turn 16 = .ok (.astore_n 3, 1) := by decide +kernel
theorem dX0_turn_17 : decode cX0_turn 17 = .ok (.aload_n 0, 1) := by decide +kernel
theorem dX0_turn_18 : decode cX0_turn 18 = .ok (.getfield 115, 3) := by decide +kernel
theorem dX0_turn_21 : decode cX0_turn 21 = .ok (.iload_n 2, 1) := by decide +kernel
theorem dX0_turn_22 : decode cX0_turn 22 = .ok (.invokestatic 129, 3) := by decide +kernel
theorem dX0_turn_25 : decode cX0_turn 25 = .ok (.istore 4, 2) := by decide +kernel
theorem dX0_turn_27 : decode cX0_turn 27 = .ok (.iload 4, 2) := by decide +kernel
theorem dX0_turn_29 : decode cX0_turn 29 = .ok (.ifCond .ne 12, 3) := by decide +kernel
theorem dX0_turn_32 : decode cX0_turn 32 = .ok (.aload_n 0, 1) := by decide +kernel
theorem dX0_turn_33 : decode cX0_turn 33 = .ok (.iload_n 2, 1) := by decide +kernel
theorem dX0_turn_34 : decode cX0_turn 34 = .ok (.iload_n 1, 1) := by decide +kernel
theorem dX0_turn_35 : decode cX0_turn 35 = .ok (.invokevirtual 177, 3) := by decide +kernel
theorem dX0_turn_38 : decode cX0_turn 38 = .ok (.goto 16, 3) := by decide +kernel
theorem dX0_turn_41 : decode cX0_turn 41 = .ok (.iload 4, 2) := by decide +kernel
theorem dX0_turn_43 : decode cX0_turn 43 = .ok (.aload_n 3, 1) := by decide +kernel
theorem dX0_turn_44 : decode cX0_turn 44 = .ok (.getfield 133, 3) := by decide +kernel
theorem dX0_turn_47 : decode cX0_turn 47 = .ok (.if_icmp .eq 7, 3) := by decide +kernel
theorem dX0_turn_50 : decode cX0_turn 50 = .ok (.aload_n 3, 1) := by decide +kernel
theorem dX0_turn_51 : decode cX0_turn 51 = .ok (.invokevirtual 180, 3) := by decide +kernel
theorem dX0_turn_54 : decode cX0_turn 54 = .ok (.aload_n 3, 1) := by decide +kernel
theorem dX0_turn_55 : decode cX0_turn 55 = .ok (.iload 4, 2) := by decide +kernel
theorem dX0_turn_57 : decode cX0_turn 57 = .ok (.putfield 133, 3) := by decide +kernel
theorem dX0_turn_60 : decode cX0_turn 60 = .ok (.iinc 2 1, 3) := by decide +kernel
theorem dX0_turn_63 : decode cX0_turn 63 = .ok (.goto (-61), 3) := by decide +kernel
theorem dX0_turn_66 : decode cX0_turn 66 = .ok (.return_, 1) := by decide +kernel
theorem dX0_letAllThrough_0 : decode cX0_letAllThrough 0 = .ok (.iconst 0, 1) := by decide +kernel
theorem dX0_letAllThrough_1 : decode cX0_letAllThrough 1 = .ok (.istore_n 3, 1) := by decide +kernel
theorem dX0_letAllThrough_2 : decode cX0_letAllThrough 2 = .ok (.iload_n 3, 1) := by decide +kernel
theorem dX0_letAllThrough_3 : decode cX0_letAllThrough 3 = .ok (.aload_n 0, 1) := by decide +kernel
theorem dX0_letAllThrough_4 : decode cX0_letAllThrough 4 = .ok (.getfield 61, 3) := by decide +kernel
theorem dX0_letAllThrough_7 : decode cX0_letAllThrough 7 = .ok (.if_icmp .ge 45, 3) := by decide +kernel
theorem dX0_letAllThrough_10 : decode cX0_letAllThrough 10 = .ok (.aload_n 0, 1) := by decide +kernel
theorem dX0_letAllThrough_11 : decode cX0_letAllThrough 11 = .ok (.getfield 11, 3) := by decide +kernel
theorem dX0_letAllThrough_14 : decode cX0_letAllThrough 14 = .ok (.iload_n 3, 1) := by decide +kernel
theorem dX0_letAllThrough_15 : decode cX0_letAllThrough 15 = .ok (.aaload, 1) := by decide +kernel
theorem dX0_letAllThrough_16 : decode cX0_letAllThrough 16 = .ok (.getfield 174, 3) := by decide +kernel
theorem dX0_letAllThrough_19 : decode cX0_letAllThrough 19 = .ok (.iconst 2, 1) := by decide +kernel
theorem dX0_letAllThrough_20 : decode cX0_letAllThrough 20 = .ok (.if_icmp .ne 26, 3) := by decide +kernel
theorem dX0_letAllThrough_23 : decode cX0_letAllThrough 23 = .ok (.aload_n 0, 1) := by decide +kernel
theorem dX0_letAllThrough_24 : decode cX0_letAllThrough 24 = .ok (.getfield 11, 3) := by decide +kernel
theorem dX0_letAllThrough_27 : decode cX0_letAllThrough 27 = .ok (.iload_n 3, 1) := by decide +kernel
theorem dX0_letAllThrough_28 : decode cX0_letAllThrough 28 = .ok (.aaload, 1) := by decide +kernel
theorem dX0_letAllThrough_29 : decode cX0_letAllThrough 29 = .ok (.getfield 183, 3) := by decide +kernel
theorem dX0_letAllThrough_32 : decode cX0_letAllThrough 32 = .ok (.iload_n 1, 1) := by decide +kernel
theorem dX0_letAllThrough_33 : decode cX0_letAllThrough 33 = .ok (.if_icmp .ne 13, 3) := by decide +kernel
theorem dX0_letAllThrough_36 : decode cX0_letAllThrough 36 = .ok (.aload_n 0, 1) := by decide +kernel
theorem dX0_letAllThrough_37 : decode cX0_letAllThrough 37 = .ok (.getfield 11, 3) := by decide +kernel
theorem dX0_letAllThrough_40 : decode cX0_letAllThrough 40 = .ok (.iload_n 3, 1) := by decide +kernel
theorem dX0_letAllThrough_41 : decode cX0_letAllThrough 41 = .ok (.aaload, 1) := by decide +kernel
theorem dX0_letAllThrough_42 : decode cX0_letAllThrough 42 = .ok (.iload_n 2, 1) := by decide +kernel
theorem dX0_letAllThrough_43 : decode cX0_letAllThrough 43 = .ok (.invokevirtual 185, 3) := by decide +kernel
theorem dX0_letAllThrough_46 : decode cX0_letAllThrough 46 = .ok (.iinc 3 1, 3) := by decide +kernel
theorem dX0_letAllThrough_49 : decode cX0_letAllThrough 49 = .ok (.goto (-47), 3) := by decide +kernel
theorem dX0_letAllThrough_52 : decode cX0_letAllThrough 52 = .ok (.aload_n 0, 1) := by decide +kernel
theorem dX0_letAllThrough_53 : decode cX0_letAllThrough 53 = .ok (.getfield 19, 3) := by decide +kernel
theorem dX0_letAllThrough_56 : decode cX0_letAllThrough 56 = .ok (.iload_n 1, 1) := by decide +kernel
theorem dX0_letAllThrough_57 : decode cX0_letAllThrough 57 = .ok (.aaload, 1) := by decide +kernel
theorem dX0_letAllThrough_58 : decode cX0_letAllThrough 58 = .ok (.invokevirtual 188, 3) := by decide +kernel
theorem dX0_letAllThrough_61 : decode cX0_letAllThrough 61 = .ok (.return_, 1) := by decide +kernel
theorem dX0_advance_0 : decode cX0_advance 0 = .ok (.aload_n 1, 1) := by decide +kernel
theorem dX0_advance_1 : decode cX0_advance 1 = .ok (.invokevirtual 191, 3) := by decide +kernel
theorem dX0_advance_4 : decode cX0_advance 4 = .ok (.istore_n 3, 1) := by decide +kernel
theorem dX0_advance_5 : decode cX0_advance 5 = .ok (.iconst 0, 1) := by decide +kernel
theorem dX0_advance_6 : decode cX0_advance 6 = .ok (.istore 4, 2) := by decide +kernel
theorem dX0_advance_8 : decode cX0_advance 8 = .ok (.iconst 0, 1) := by decide +kernel
theorem dX0_advance_9 : decode cX0_advance 9 = .ok (.istore 5, 2) := by decide +kernel
theorem dX0_advance_11 : decode cX0_advance 11 = .ok (.iload 5, 2) := by decide +kernel
theorem dX0_advance_13 : decode cX0_advance 13 = .ok (.aload_n 1, 1) := by decide +kernel
theorem dX0_advance_14 : decode cX0_advance 14 = .ok (.getfield 136, 3) := by decide +kernel
theorem dX0_advance_17 : decode cX0_advance 17 = .ok (.if_icmp .ge 68, 3) := by decide +kernel
theorem dX0_advance_20 : decode cX0_advance 20 = .ok (.iload 4, 2) := by decide +kernel
theorem dX0_advance_22 : decode cX0_advance 22 = .ok (.ifCond .ne 63, 3) := by decide +kernel
theorem dX0_advance_25 : decode cX0_advance 25 = .ok (.aload_n 1, 1) := by decide +kernel
theorem dX0_advance_26 : decode cX0_advance 26 = .ok (.invokevirtual 195, 3) := by decide +kernel
theorem dX0_advance_29 : decode cX0_advance 29 = .ok (.aload_n 0, 1) := by decide +kernel
theorem dX0_advance_30 : decode cX0_advance 30 = .ok (.getfield 27, 3) := by decide +kernel
theorem dX0_advance_33 : decode cX0_advance 33 = .ok (.iconst 1, 1) := by decide +kernel
theorem dX0_advance_34 : decode cX0_advance 34 = .ok (.iaload, 1) := by decide +kernel
theorem dX0_advance_35 : decode cX0_advance 35 = .ok (.aload_n 0, 1) := by decide +kernel
theorem dX0_advance_36 : decode cX0_advance 36 = .ok (.getfield 33, 3) := by decide +kernel
theorem dX0_advance_39 : decode cX0_advance 39 = .ok (.iload_n 3, 1) := by decide +kernel
theorem dX0_advance_40 : decode cX0_advance 40 = .ok (.iaload, 1) := by decide +kernel
theorem dX0_advance_41 : decode cX0_advance 41 = .ok (.isub, 1) := by decide +kernel
theorem dX0_advance_42 : decode cX0_advance 42 = .ok (.if_icmp .le 19, 3) := by decide +kernel
theorem dX0_advance_45 : decode cX0_advance 45 = .ok (.iconst 1, 1) := by decide +kernel
theorem dX0_advance_46 : decode cX0_advance 46 = .ok (.istore 4, 2) := by decide +kernel
theorem dX0_advance_48 : decode cX0_advance 48 = .ok (.aload_n 0, 1) := by decide +kernel
theorem dX0_advance_49 : decode cX0_advance 49 = .ok (.dup, 1) := by decide +kernel
theorem dX0_advance_50 : decode cX0_advance 50 = .ok (.getfield 77, 3) := by decide +kernel
theorem dX0_advance_53 : decode cX0_advance 53 = .ok (.iconst 1, 1) := by decide +kernel
theorem dX0_advance_54 : decode cX0_advance 54 = .ok (.iadd, 1) := by decide +kernel
theorem dX0_advance_55 : decode cX0_advance 55 = .ok (.putfield 77, 3) := by decide +kernel
theorem dX0_advance_58 : decode cX0_advance 58 = .ok (.goto 21, 3) := by decide +kernel
theorem dX0_advance_61 : decode cX0_advance 61 = .ok (.aload_n 0, 1) := by decide +kernel
theorem dX0_advance_62 : decode cX0_advance 62 = .ok (.aload_n 1, 1) := by decide +kernel
theorem dX0_advance_63 : decode cX0_advance 63 = .ok (.iconst 0, 1) := by decide +kernel
theorem dX0_advance_64 : decode cX0_advance 64 = .ok (.iload_n 2, 1) := by decide +kernel
theorem dX0_advance_65 : decode cX0_advance 65 = .ok (.invokevirtual 198, 3) := by decide +kernel
theorem dX0_advance_68 : decode cX0_advance 68 = .ok (.aload_n 0, 1) := by decide +kernel
theorem dX0_advance_69 : decode cX0_advance 69 = .ok (.aload_n 1, 1) := by decide +kernel
theorem dX0_advance_70 : decode cX0_advance 70 = .ok (.iconst 1, 1) := by decide +kernel
theorem dX0_advance_71 : decode cX0_advance 71 = .ok (.iload_n 2, 1) := by decide +kernel
theorem dX0_advance_72 : decode cX0_advance 72 = .ok (.invokevirtual 198, 3) := by decide +kernel
theorem dX0_advance_75 : decode cX0_advance 75 = .ok (.aload_n 1, 1) := by decide +kernel
theorem dX0_advance_76 : decode cX0_advance 76 = .ok (.invokevirtual 202, 3) := by decide +kernel
theorem dX0_advance_79 : decode cX0_advance 79 = .ok (.iinc 5 1, 3) := by decide +kernel
theorem dX0_advance_82 : decode cX0_advance 82 = .ok (.goto (-71), 3) := by decide +kernel
theorem dX0_advance_85 : decode cX0_advance 85 = .ok (.aload_n 0, 1) := by decide +kernel
theorem dX0_advance_86 : decode cX0_advance 86 = .ok (.aload_n 1, 1) := by decide +kernel
theorem dX0_advance_87 : decode cX0_advance 87 = .ok (.invokevirtual 205, 3) := by decide +kernel
theorem dX0_advance_90 : decode cX0_advance 90 = .ok (.return_, 1) := by decide +kernel
theorem dX0_land_0 : decode cX0_land 0 = .ok (.aload_n 1, 1) := by decide +kernel
theorem dX0_land_1 : decode cX0_land 1 = .ok (.aload_n 1, 1) := by decide +kernel
theorem dX0_land_2 : decode cX0_land 2 = .ok (.getfield 208, 3) := by decide +kernel
theorem dX0_land_5 : decode cX0_land 5 = .ok (.iconst 1, 1) := by decide +kernel
theorem dX0_land_6 : decode cX0_land 6 = .ok (.isub, 1) := by decide +kernel
theorem dX0_land_7 : decode cX0_land 7 = .ok (.iload_n 2, 1) := by decide +kernel
theorem dX0_land_8 : decode cX0_land 8 = .ok (.invokevirtual 211, 3) := by decide +kernel
theorem dX0_land_11 : decode cX0_land 11 = .ok (.istore 4, 2) := by decide +kernel
theorem dX0_land_13 : decode cX0_land 13 = .ok (.iload 4, 2) := by decide +kernel
theorem dX0_land_15 : decode cX0_land 15 = .ok (.ifCond .lt 75, 3) := by decide +kernel
theorem dX0_land_18 : decode cX0_land 18 = .ok (.aload_n 0, 1) := by decide +kernel
theorem dX0_land_19 : decode cX0_land 19 = .ok (.getfield 11, 3) := by decide +kernel
theorem dX0_land_22 : decode cX0_land 22 = .ok (.iload 4, 2) := by decide +kernel
theorem dX0_land_24 : decode cX0_land 24 = .ok (.aaload, 1) := by decide +kernel
theorem dX0_land_25 : decode cX0_land 25 = .ok (.getfield 174, 3) := by decide +kernel
theorem dX0_land_28 : decode cX0_land 28 = .ok (.iconst 2, 1) := by decide +kernel
theorem dX0_land_29 : decode cX0_land 29 = .ok (.if_icmp .ne 61, 3) := by decide +kernel
theorem dX0_land_32 : decode cX0_land 32 = .ok (.aload_n 0, 1) := by decide +kernel
theorem dX0_land_33 : decode cX0_land 33 = .ok (.getfield 11, 3) := by decide +kernel
theorem dX0_land_36 : decode cX0_land 36 = .ok (.iload 4, 2) := by decide +kernel
theorem dX0_land_38 : decode cX0_land 38 = .ok (.aaload, 1) := by decide +kernel
theorem dX0_land_39 : decode cX0_land 39 = .ok (.astore 5, 2) := by decide +kernel
theorem dX0_land_41 : decode cX0_land 41 = .ok (.aload 5, 2) := by decide +kernel
theorem dX0_land_43 : decode cX0_land 43 = .ok (.iconst 1, 1) := by decide +kernel
theorem dX0_land_44 : decode cX0_land 44 = .ok (.putfield 174, 3) := by decide +kernel
theorem dX0_land_47 : decode cX0_land 47 = .ok (.aload 5, 2) := by decide +kernel
theorem dX0_land_49 : decode cX0_land 49 = .ok (.iload_n 3, 1) := by decide +kernel
theorem dX0_land_50 : decode cX0_land 50 = .ok (.putfield 214, 3) := by decide +kernel
theorem dX0_land_53 : decode cX0_land 53 = .ok (.aload 5, 2) := by decide +kernel
theorem dX0_land_55 : decode cX0_land 55 = .ok (.aload_n 1, 1) := by decide +kernel
theorem dX0_land_56 : decode cX0_land 56 = .ok (.invokevirtual 191, 3) := by decide +kernel
theorem dX0_land_59 : decode cX0_land 59 = .ok (.putfield 217, 3) := by decide +kernel
theorem dX0_land_62 : decode cX0_land 62 = .ok (.aload_n 0, 1) := by decide +kernel
theorem dX0_land_63 : decode cX0_land 63 = .ok (.getfield 33, 3) := by decide +kernel
theorem dX0_land_66 : decode cX0_land 66 = .ok (.aload 5, 2) := by decide +kernel
theorem dX0_land_68 : decode cX0_land 68 = .ok (.getfield 217, 3) := by decide +kernel
theorem dX0_land_71 : decode cX0_land 71 = .ok (.dup2, 1) := by decide +kernel
theorem dX0_land_72 : decode cX0_land 72 = .ok (.iaload, 1) := by decide +kernel
theorem dX0_land_73 : decode cX0_land 73 = .ok (.iconst 1, 1) := by decide +kernel
theorem dX0_land_74 : decode cX0_land 74 = .ok (.iadd, 1) := by decide +kernel
theorem dX0_land_75 : decode cX0_land 75 = .ok (.iastore, 1) := by decide +kernel
theorem dX0_land_76 : decode cX0_land 76 = .ok (.aload_n 1, 1) := by decide +kernel
theorem dX0_land_77 : decode cX0_land 77 = .ok (.dup, 1) := by decide +kernel
theorem dX0_land_78 : decode cX0_land 78 = .ok (.getfield 159, 3) := by decide +kernel
theorem dX0_land_81 : decode cX0_land 81 = .ok (.aload 5, 2) := by decide +kernel
theorem dX0_land_83 : decode cX0_land 83 = .ok (.getfield 220, 3) := by decide +kernel
theorem dX0_land_86 : decode cX0_land 86 = .ok (.isub, 1) := by decide +kernel
theorem dX0_land_87 : decode cX0_land 87 = .ok (.putfield 159, 3) := by decide +kernel
theorem dX0_land_90 : decode cX0_land 90 = .ok (.return_, 1) := by decide +kernel
theorem dX0_walk_0 : decode cX0_walk 0 = .ok (.aload_n 1, 1) := by decide +kernel
theorem dX0_walk_1 : decode cX0_walk 1 = .ok (.getfield 208, 3) := by decide +kernel
theorem dX0_walk_4 : decode cX0_walk 4 = .ok (.iconst 2, 1) := by decide +kernel
theorem dX0_walk_5 : decode cX0_walk 5 = .ok (.isub, 1) := by decide +kernel
theorem dX0_walk_6 : decode cX0_walk 6 = .ok (.istore_n 2, 1) := by decide +kernel
theorem dX0_walk_7 : decode cX0_walk 7 = .ok (.iload_n 2, 1) := by decide +kernel
theorem dX0_walk_8 : decode cX0_walk 8 = .ok (.ifCond .lt 60, 3) := by decide +kernel
theorem dX0_walk_11 : decode cX0_walk 11 = .ok (.aload_n 1, 1) := by decide +kernel
theorem dX0_walk_12 : decode cX0_walk 12 = .ok (.iload_n 2, 1) := by decide +kernel
theorem dX0_walk_13 : decode cX0_walk 13 = .ok (.iconst 1, 1) := by decide +kernel
theorem dX0_walk_14 : decode cX0_walk 14 = .ok (.invokevirtual 211, 3) := by decide +kernel
theorem dX0_walk_17 : decode cX0_walk 17 = .ok (.istore_n 3, 1) := by decide +kernel
theorem dX0_walk_18 : decode cX0_walk 18 = .ok (.iload_n 3, 1) := by decide +kernel
theorem dX0_walk_19 : decode cX0_walk 19 = .ok (.ifCond .lt 43, 3) := by decide +kernel
theorem dX0_walk_22 : decode cX0_walk 22 = .ok (.aload_n 0, 1) := by decide +kernel
theorem dX0_walk_23 : decode cX0_walk 23 = .ok (.getfield 11, 3) := by decide +kernel
theorem dX0_walk_26 : decode cX0_walk 26 = .ok (.iload_n 3, 1) := by decide +kernel
theorem dX0_walk_27 : decode cX0_walk 27 = .ok (.aaload, 1) := by decide +kernel
theorem dX0_walk_28 : decode cX0_walk 28 = .ok (.getfield 223, 3) := by decide +kernel
theorem dX0_walk_31 : decode cX0_walk 31 = .ok (.iconst 1, 1) := by decide +kernel
theorem dX0_walk_32 : decode cX0_walk 32 = .ok (.if_icmp .ne 30, 3) := by decide +kernel
theorem dX0_walk_35 : decode cX0_walk 35 = .ok (.aload_n 1, 1) := by decide +kernel
theorem dX0_walk_36 : decode cX0_walk 36 = .ok (.iload_n 2, 1) := by decide +kernel
theorem dX0_walk_37 : decode cX0_walk 37 = .ok (.iconst 1, 1) := by decide +kernel
theorem dX0_walk_38 : decode cX0_walk 38 = .ok (.iadd, 1) := by decide +kernel
theorem dX0_walk_39 : decode cX0_walk 39 = .ok (.iconst 1, 1) := by decide +kernel
theorem dX0_walk_40 : decode cX0_walk 40 = .ok (.invokevirtual 211, 3) := by decide +kernel
theorem dX0_walk_43 : decode cX0_walk 43 = .ok (.ifCond .ge 19, 3) := by decide +kernel
theorem dX0_walk_46 : decode cX0_walk 46 = .ok (.aload_n 1, 1) := by decide +kernel
theorem dX0_walk_47 : decode cX0_walk 47 = .ok (.iload_n 2, 1) := by decide +kernel
theorem dX0_walk_48 : decode cX0_walk 48 = .ok (.iconst 1, 1) := by decide +kernel
theorem dX0_walk_49 : decode cX0_walk 49 = .ok (.iconst (-1), 1) := by decide +kernel
theorem dX0_walk_50 : decode cX0_walk 50 = .ok (.invokevirtual 226, 3) := by decide +kernel
theorem dX0_walk_53 : decode cX0_walk 53 = .ok (.aload_n 1, 1) := by decide +kernel
theorem dX0_walk_54 : decode cX0_walk 54 = .ok (.iload_n 2, 1) := by decide +kernel
theorem dX0_walk_55 : decode cX0_walk 55 = .ok (.iconst 1, 1) := by decide +kernel
theorem dX0_walk_56 : decode cX0_walk 56 = .ok (.iadd, 1) := by decide +kernel
theorem dX0_walk_57 : decode cX0_walk 57 = .ok (.iconst 1, 1) := by decide +kernel
theorem dX0_walk_58 : decode cX0_walk 58 = .ok (.iload_n 3, 1) := by decide +kernel
theorem dX0_walk_59 : decode cX0_walk 59 = .ok (.invokevirtual 226, 3) := by decide +kernel
theorem dX0_walk_62 : decode cX0_walk 62 = .ok (.iinc 2 (-1), 3) := by decide +kernel
theorem dX0_walk_65 : decode cX0_walk 65 = .ok (.goto (-58), 3) := by decide +kernel
theorem dX0_walk_68 : decode cX0_walk 68 = .ok (.return_, 1) := by decide +kernel
theorem dX0_leave_0 : decode cX0_leave 0 = .ok (.iconst 0, 1) := by decide +kernel
theorem dX0_leave_1 : decode cX0_leave 1 = .ok (.istore_n 3, 1) := by decide +kernel
theorem dX0_leave_2 : decode cX0_leave 2 = .ok (.iload_n 3, 1) := by decide +kernel
theorem dX0_leave_3 : decode cX0_leave 3 = .ok (.aload_n 0, 1) := by decide +kernel
theorem dX0_leave_4 : decode cX0_leave 4 = .ok (.getfield 27, 3) := by decide +kernel
theorem dX0_leave_7 : decode cX0_leave 7 = .ok (.iconst 2, 1) := by decide +kernel
theorem dX0_leave_8 : decode cX0_leave 8 = .ok (.iaload, 1) := by decide +kernel
theorem dX0_leave_9 : decode cX0_leave 9 = .ok (.if_icmp .ge 51, 3) := by decide +kernel
theorem dX0_leave_12 : decode cX0_leave 12 = .ok (.aload_n 0, 1) := by decide +kernel
theorem dX0_leave_13 : decode cX0_leave 13 = .ok (.getfield 33, 3) := by decide +kernel
theorem dX0_leave_16 : decode cX0_leave 16 = .ok (.iload_n 1, 1) := by decide +kernel
theorem dX0_leave_17 : decode cX0_leave 17 = .ok (.iaload, 1) := by decide +kernel
theorem dX0_leave_18 : decode cX0_leave 18 = .ok (.ifCond .le 42, 3) := by decide +kernel
theorem dX0_leave_21 : decode cX0_leave 21 = .ok (.aload_n 0, 1) := by decide +kernel
theorem dX0_leave_22 : decode cX0_leave 22 = .ok (.iload_n 1, 1) := by decide +kernel
theorem dX0_leave_23 : decode cX0_leave 23 = .ok (.invokevirtual 229, 3) := by decide +kernel
theorem dX0_leave_26 : decode cX0_leave 26 = .ok (.istore 4, 2) := by decide +kernel
theorem dX0_leave_28 : decode cX0_leave 28 = .ok (.iload 4, 2) := by decide +kernel
theorem dX0_leave_30 : decode cX0_leave 30 = .ok (.ifCond .lt 24, 3) := by decide +kernel
theorem dX0_leave_33 : decode cX0_leave 33 = .ok (.aload_n 0, 1) := by decide +kernel
theorem dX0_leave_34 : decode cX0_leave 34 = .ok (.getfield 11, 3) := by decide +kernel
theorem dX0_leave_37 : decode cX0_leave 37 = .ok (.iload 4, 2) := by decide +kernel
theorem dX0_leave_39 : decode cX0_leave 39 = .ok (.aaload, 1) := by decide +kernel
theorem dX0_leave_40 : decode cX0_leave 40 = .ok (.iload_n 2, 1) := by decide +kernel
theorem dX0_leave_41 : decode cX0_leave 41 = .ok (.invokevirtual 185, 3) := by decide +kernel
theorem dX0_leave_44 : decode cX0_leave 44 = .ok (.aload_n 0, 1) := by decide +kernel
theorem dX0_leave_45 : decode cX0_leave 45 = .ok (.getfield 33, 3) := by decide +kernel
theorem dX0_leave_48 : decode cX0_leave 48 = .ok (.iload_n 1, 1) := by decide +kernel
theorem dX0_leave_49 : decode cX0_leave 49 = .ok (.dup2, 1) := by decide +kernel
theorem dX0_leave_50 : decode cX0_leave 50 = .ok (.iaload, 1) := by decide +kernel
theorem dX0_leave_51 : decode cX0_leave 51 = .ok (.iconst 1, 1) := by decide +kernel
theorem dX0_leave_52 : decode cX0_leave 52 = .ok (.isub, 1) := by decide +kernel
theorem dX0_leave_53 : decode cX0_leave 53 = .ok (.iastore, 1) := by decide +kernel
theorem dX0_leave_54 : decode cX0_leave 54 = .ok (.iinc 3 1, 3) := by decide +kernel
theorem dX0_leave_57 : decode cX0_leave 57 = .ok (.goto (-55), 3) := by decide +kernel
theorem dX0_leave_60 : decode cX0_leave 60 = .ok (.return_, 1) := by decide +kernel
theorem dX0_firstOnLanding_0 : decode cX0_firstOnLanding 0 = .ok (.iconst (-1), 1) := by decide +kernel
theorem dX0_firstOnLanding_1 : decode cX0_firstOnLanding 1 = .ok (.istore_n 2, 1) := by decide +kernel
theorem dX0_firstOnLanding_2 : decode cX0_firstOnLanding 2 = .ok (.iconst 0, 1) := by decide +kernel
theorem dX0_firstOnLanding_3 : decode cX0_firstOnLanding 3 = .ok (.istore_n 3, 1) := by decide +kernel
theorem dX0_firstOnLanding_4 : decode cX0_firstOnLanding 4 = .ok (.iload_n 3, 1) := by decide +kernel
theorem dX0_firstOnLanding_5 : decode cX0_firstOnLanding 5 = .ok (.aload_n 0, 1) := by decide +kernel
theorem dX0_firstOnLanding_6 : decode cX0_firstOnLanding 6 = .ok (.getfield 61, 3) := by decide +kernel
theorem dX0_firstOnLanding_9 : decode cX0_firstOnLanding 9 = .ok (.if_icmp .ge 62, 3) := by decide +kernel
theorem dX0_firstOnLanding_12 : decode cX0_firstOnLanding 12 = .ok (.aload_n 0, 1) := by decide +kernel
theorem dX0_firstOnLanding_13 : decode cX0_firstOnLanding 13 = .ok (.getfield 11, 3) := by decide +kernel
theorem dX0_firstOnLanding_16 : decode cX0_firstOnLanding 16 = .ok (.iload_n 3, 1) := by decide +kernel
theorem dX0_firstOnLanding_17 : decode cX0_firstOnLanding 17 = .ok (.aaload, 1) := by decide +kernel
theorem dX0_firstOnLanding_18 : decode cX0_firstOnLanding 18 = .ok (.getfield 174, 3) := by decide +kernel
theorem dX0_firstOnLanding_21 : decode cX0_firstOnLanding 21 = .ok (.iconst 1, 1) := by decide +kernel
theorem dX0_firstOnLanding_22 : decode cX0_firstOnLanding 22 = .ok (.if_icmp .ne 43, 3) := by decide +kernel
theorem dX0_firstOnLanding_25 : decode cX0_firstOnLanding 25 = .ok (.aload_n 0, 1) := by decide +kernel
theorem dX0_firstOnLanding_26 : decode cX0_firstOnLanding 26 = .ok (.getfield 11, 3) := by decide +kernel
theorem dX0_firstOnLanding_29 : decode cX0_firstOnLanding 29 = .ok (.iload_n 3, 1) := by decide +kernel
theorem dX0_firstOnLanding_30 : decode cX0_firstOnLanding 30 = .ok (.aaload, 1) := by decide +kernel
theorem dX0_firstOnLanding_31 : decode cX0_firstOnLanding 31 = .ok (.getfield 217, 3) := by decide +kernel
theorem dX0_firstOnLanding_34 : decode cX0_firstOnLanding 34 = .ok (.iload_n 1, 1) := by decide +kernel
theorem dX0_firstOnLanding_35 : decode cX0_firstOnLanding 35 = .ok (.if_icmp .ne 30, 3) := by decide +kernel
theorem dX0_firstOnLanding_38 : decode cX0_firstOnLanding 38 = .ok (.iload_n 2, 1) := by decide +kernel
theorem dX0_firstOnLanding_39 : decode cX0_firstOnLanding 39 = .ok (.ifCond .lt 24, 3) := by decide +kernel
theorem dX0_firstOnLanding_42 : decode cX0_firstOnLanding 42 = .ok (.aload_n 0, 1) := by decide +kernel
theorem dX0_firstOnLanding_43 : decode cX0_firstOnLanding 43 = .ok (.getfield 11, 3) := by decide +kernel
theorem dX0_firstOnLanding_46 : decode cX0_firstOnLanding 46 = .ok (.iload_n 3, 1) := by decide +kernel
theorem dX0_firstOnLanding_47 : decode cX0_firstOnLanding 47 = .ok (.aaload, 1) := by decide +kernel
theorem dX0_firstOnLanding_48 : decode cX0_firstOnLanding 48 = .ok (.getfield 214, 3) := by decide +kernel
theorem dX0_firstOnLanding_51 : decode cX0_firstOnLanding 51 = .ok (.aload_n 0, 1) := by decide +kernel
theorem dX0_firstOnLanding_52 : decode cX0_firstOnLanding 52 = .ok (.getfield 11, 3) := by decide +kernel
theorem dX0_firstOnLanding_55 : decode cX0_firstOnLanding 55 = .ok (.iload_n 2, 1) := by decide +kernel
theorem dX0_firstOnLanding_56 : decode cX0_firstOnLanding 56 = .ok (.aaload, 1) := by decide +kernel
theorem dX0_firstOnLanding_57 : decode cX0_firstOnLanding 57 = .ok (.getfield 214, 3) := by decide +kernel
theorem dX0_firstOnLanding_60 : decode cX0_firstOnLanding 60 = .ok (.if_icmp .ge 5, 3) := by decide +kernel
theorem dX0_firstOnLanding_63 : decode cX0_firstOnLanding 63 = .ok (.iload_n 3, 1) := by decide +kernel
theorem dX0_firstOnLanding_64 : decode cX0_firstOnLanding 64 = .ok (.istore_n 2, 1) := by decide +kernel
theorem dX0_firstOnLanding_65 : decode cX0_firstOnLanding 65 = .ok (.iinc 3 1, 3) := by decide +kernel
theorem dX0_firstOnLanding_68 : decode cX0_firstOnLanding 68 = .ok (.goto (-64), 3) := by decide +kernel
theorem dX0_firstOnLanding_71 : decode cX0_firstOnLanding 71 = .ok (.iload_n 2, 1) := by decide +kernel
theorem dX0_firstOnLanding_72 : decode cX0_firstOnLanding 72 = .ok (.ireturn, 1) := by decide +kernel
theorem dX0_board_0 : decode cX0_board 0 = .ok (.aload_n 0, 1) := by decide +kernel
theorem dX0_board_1 : decode cX0_board 1 = .ok (.getfield 19, 3) := by decide +kernel
theorem dX0_board_4 : decode cX0_board 4 = .ok (.iload_n 1, 1) := by decide +kernel
theorem dX0_board_5 : decode cX0_board 5 = .ok (.aaload, 1) := by decide +kernel
theorem dX0_board_6 : decode cX0_board 6 = .ok (.astore_n 3, 1) := by decide +kernel
theorem dX0_board_7 : decode cX0_board 7 = .ok (.iconst 0, 1) := by decide +kernel
theorem dX0_board_8 : decode cX0_board 8 = .ok (.istore 4, 2) := by decide +kernel
theorem dX0_board_10 : decode cX0_board 10 = .ok (.iload 4, 2) := by decide +kernel
theorem dX0_board_12 : decode cX0_board 12 = .ok (.iconst 1, 1) := by decide +kernel
theorem dX0_board_13 : decode cX0_board 13 = .ok (.if_icmp .gt 114, 3) := by decide +kernel
theorem dX0_board_16 : decode cX0_board 16 = .ok (.aload_n 3, 1) := by decide +kernel
theorem dX0_board_17 : decode cX0_board 17 = .ok (.iconst 0, 1) := by decide +kernel
theorem dX0_board_18 : decode cX0_board 18 = .ok (.iload 4, 2) := by decide +kernel
theorem dX0_board_20 : decode cX0_board 20 = .ok (.invokevirtual 211, 3) := by decide +kernel
theorem dX0_board_23 : decode cX0_board 23 = .ok (.ifCond .ge 13, 3) := by decide +kernel
theorem dX0_board_26 : decode cX0_board 26 = .ok (.aload_n 0, 1) := by decide +kernel
theorem dX0_board_27 : decode cX0_board 27 = .ok (.aload_n 3, 1) := by decide +kernel
theorem dX0_board_28 : decode cX0_board 28 = .ok (.iload 4, 2) := by decide +kernel
theorem dX0_board_30 : decode cX0_board 30 = .ok (.invokevirtual 233, 3) := by decide +kernel
theorem dX0_board_33 : decode cX0_board 33 = .ok (.goto 4, 3) := by decide +kernel
theorem dX0_board_36 : decode cX0_board 36 = .ok (.iconst (-1), 1) := by decide +kernel
theorem dX0_board_37 : decode cX0_board 37 = .ok (.istore 5, 2) := by decide +kernel
theorem dX0_board_39 : decode cX0_board 39 = .ok (.iload 5, 2) := by decide +kernel
theorem dX0_board_41 : decode cX0_board 41 = .ok (.ifCond .lt 80, 3) := by decide +kernel
theorem dX0_board_44 : decode cX0_board 44 = .ok (.aload_n 0, 1) := by decide +kernel
theorem dX0_board_45 : decode cX0_board 45 = .ok (.getfield 11, 3) := by decide +kernel
theorem dX0_board_48 : decode cX0_board 48 = .ok (.iload 5, 2) := by decide +kernel
theorem dX0_board_50 : decode cX0_board 50 = .ok (.aaload, 1) := by decide +kernel
theorem dX0_board_51 : decode cX0_board 51 = .ok (.astore 6, 2) := by decide +kernel
theorem dX0_board_53 : decode cX0_board 53 = .ok (.aload 6, 2) := by decide +kernel
theorem dX0_board_55 : decode cX0_board 55 = .ok (.iconst 2, 1) := by decide +kernel
theorem dX0_board_56 : decode cX0_board 56 = .ok (.putfield 174, 3) := by decide +kernel
theorem dX0_board_59 : decode cX0_board 59 = .ok (.aload 6, 2) := by decide +kernel
theorem dX0_board_61 : decode cX0_board 61 = .ok (.iload_n 1, 1) := by decide +kernel
theorem dX0_board_62 : decode cX0_board 62 = .ok (.putfield 183, 3) := by decide +kernel
theorem dX0_board_65 : decode cX0_board 65 = .ok (.aload 6, 2) := by decide +kernel
theorem dX0_board_67 : decode cX0_board 67 = .ok (.iload_n 2, 1) := by decide +kernel
theorem dX0_board_68 : decode cX0_board 68 = .ok (.putfield 237, 3) := by decide +kernel
theorem dX0_board_71 : decode cX0_board 71 = .ok (.aload_n 0, 1) := by decide +kernel
theorem dX0_board_72 : decode cX0_board 72 = .ok (.dup, 1) := by decide +kernel
theorem dX0_board_73 : decode cX0_board 73 = .ok (.getfield 68, 3) := by decide +kernel
theorem dX0_board_76 : decode cX0_board 76 = .ok (.iconst 1, 1) := by decide +kernel
theorem dX0_board_77 : decode cX0_board 77 = .ok (.isub, 1) := by decide +kernel
theorem dX0_board_78 : decode cX0_board 78 = .ok (.putfield 68, 3) := by decide +kernel
theorem dX0_board_81 : decode cX0_board 81 = .ok (.aload_n 3, 1) := by decide +kernel
theorem dX0_board_82 : decode cX0_board 82 = .ok (.dup, 1) := by decide +kernel
theorem dX0_board_83 : decode cX0_board 83 = .ok (.getfield 159, 3) := by decide +kernel
theorem dX0_board_86 : decode cX0_board 86 = .ok (.aload 6, 2) := by decide +kernel
theorem dX0_board_88 : decode cX0_board 88 = .ok (.getfield 220, 3) := by decide +kernel
theorem dX0_board_91 : decode cX0_board 91 = .ok (.iadd, 1) := by decide +kernel
theorem dX0_board_92 : decode cX0_board 92 = .ok (.putfield 159, 3) := by decide +kernel
theorem dX0_board_95 : decode cX0_board 95 = .ok (.aload_n 3, 1) := by decide +kernel
theorem dX0_board_96 : decode cX0_board 96 = .ok (.iconst 0, 1) := by decide +kernel
theorem dX0_board_97 : decode cX0_board 97 = .ok (.iload 4, 2) := by decide +kernel
theorem dX0_board_99 : decode cX0_board 99 = .ok (.iload 5, 2) := by decide +kernel
theorem dX0_board_101 : decode cX0_board 101 = .ok (.invokevirtual 226, 3) := by decide +kernel
theorem dX0_board_104 : decode cX0_board 104 = .ok (.aload 6, 2) := by decide +kernel
theorem dX0_board_106 : decode cX0_board 106 = .ok (.getfield 223, 3) := by decide +kernel
theorem dX0_board_109 : decode cX0_board 109 = .ok (.iconst 2, 1) := by decide +kernel
theorem dX0_board_110 : decode cX0_board 110 = .ok (.if_icmp .ne 11, 3) := by decide +kernel
theorem dX0_board_113 : decode cX0_board 113 = .ok (.aload_n 3, 1) := by decide +kernel
theorem dX0_board_114 : decode cX0_board 114 = .ok (.iconst 0, 1) := by decide +kernel
theorem dX0_board_115 : decode cX0_board 115 = .ok (.iconst 1, 1) := by decide +kernel
theorem dX0_board_116 : decode cX0_board 116 = .ok (.iload 5, 2) := by decide +kernel
theorem dX0_board_118 : decode cX0_board 118 = .ok (.invokevirtual 226, 3) := by decide +kernel
theorem dX0_board_121 : decode cX0_board 121 = .ok (.iinc 4 1, 3) := by decide +kernel
theorem dX0_board_124 : decode cX0_board 124 = .ok (.goto (-114), 3) := by decide +kernel
theorem dX0_board_127 : decode cX0_board 127 = .ok (.return_, 1) := by decide +kernel
theorem dX0_firstToBoard_0 : decode cX0_firstToBoard 0 = .ok (.aload_n 1, 1) := by decide +kernel
theorem dX0_firstToBoard_1 : decode cX0_firstToBoard 1 = .ok (.invokevirtual 240, 3) := by decide +kernel
theorem dX0_firstToBoard_4 : decode cX0_firstToBoard 4 = .ok (.istore_n 3, 1) := by decide +kernel
theorem dX0_firstToBoard_5 : decode cX0_firstToBoard 5 = .ok (.iconst 0, 1) := by decide +kernel
theorem dX0_firstToBoard_6 : decode cX0_firstToBoard 6 = .ok (.istore 4, 2) := by decide +kernel
theorem dX0_firstToBoard_8 : decode cX0_firstToBoard 8 = .ok (.iload 4, 2) := by decide +kernel
theorem dX0_firstToBoard_10 : decode cX0_firstToBoard 10 = .ok (.aload_n 0, 1) := by decide +kernel
theorem dX0_firstToBoard_11 : decode cX0_firstToBoard 11 = .ok (.getfield 65, 3) := by decide +kernel
theorem dX0_firstToBoard_14 : decode cX0_firstToBoard 14 = .ok (.if_icmp .ge 62, 3) := by decide +kernel
theorem dX0_firstToBoard_17 : decode cX0_firstToBoard 17 = .ok (.aload_n 0, 1) := by decide +kernel
theorem dX0_firstToBoard_18 : decode cX0_firstToBoard 18 = .ok (.getfield 11, 3) := by decide +kernel
theorem dX0_firstToBoard_21 : decode cX0_firstToBoard 21 = .ok (.aload_n 0, 1) := by decide +kernel
theorem dX0_firstToBoard_22 : decode cX0_firstToBoard 22 = .ok (.getfield 30, 3) := by decide +kernel
theorem dX0_firstToBoard_25 : decode cX0_firstToBoard 25 = .ok (.iload 4, 2) := by decide +kernel
theorem dX0_firstToBoard_27 : decode cX0_firstToBoard 27 = .ok (.iaload, 1) := by decide +kernel
theorem dX0_firstToBoard_28 : decode cX0_firstToBoard 28 = .ok (.aaload, 1) := by decide +kernel
theorem dX0_firstToBoard_29 : decode cX0_firstToBoard 29 = .ok (.astore 5, 2) := by decide +kernel
theorem dX0_firstToBoard_31 : decode cX0_firstToBoard 31 = .ok (.aload 5, 2) := by decide +kernel
theorem dX0_firstToBoard_33 : decode cX0_firstToBoard 33 = .ok (.getfield 174, 3) := by decide +kernel
theorem dX0_firstToBoard_36 : decode cX0_firstToBoard 36 = .ok (.ifCond .ne 34, 3) := by decide +kernel
theorem dX0_firstToBoard_39 : decode cX0_firstToBoard 39 = .ok (.aload 5, 2) := by decide +kernel
theorem dX0_firstToBoard_41 : decode cX0_firstToBoard 41 = .ok (.getfield 243, 3) := by decide +kernel
theorem dX0_firstToBoard_44 : decode cX0_firstToBoard 44 = .ok (.iload_n 3, 1) := by decide +kernel
theorem dX0_firstToBoard_45 : decode cX0_firstToBoard 45 = .ok (.if_icmp .ne 25, 3) := by decide +kernel
theorem dX0_firstToBoard_48 : decode cX0_firstToBoard 48 = .ok (.aload_n 0, 1) := by decide +kernel
theorem dX0_firstToBoard_49 : decode cX0_firstToBoard 49 = .ok (.aload 5, 2) := by decide +kernel
theorem dX0_firstToBoard_51 : decode cX0_firstToBoard 51 = .ok (.getfield 223, 3) := by decide +kernel
theorem dX0_firstToBoard_54 : decode cX0_firstToBoard 54 = .ok (.aload_n 1, 1) := by decide +kernel
theorem dX0_firstToBoard_55 : decode cX0_firstToBoard 55 = .ok (.iload_n 2, 1) := by decide +kernel
theorem dX0_firstToBoard_56 : decode cX0_firstToBoard 56 = .ok (.invokevirtual 246, 3) := by decide +kernel
theorem dX0_firstToBoard_59 : decode cX0_firstToBoard 59 = .ok (.ifCond .eq 11, 3) := by decide +kernel
theorem dX0_firstToBoard_62 : decode cX0_firstToBoard 62 = .ok (.aload_n 0, 1) := by decide +kernel
theorem dX0_firstToBoard_63 : decode cX0_firstToBoard 63 = .ok (.getfield 30, 3) := by decide +kernel
theorem dX0_firstToBoard_66 : decode cX0_firstToBoard 66 = .ok (.iload 4, 2) := by decide +kernel
theorem dX0_firstToBoard_68 : decode cX0_firstToBoard 68 = .ok (.iaload, 1) := by decide +kernel
theorem dX0_firstToBoard_69 : decode cX0_firstToBoard 69 = .ok (.ireturn, 1) := by decide +kernel
theorem dX0_firstToBoard_70 : decode cX0_firstToBoard 70 = .ok (.iinc 4 1, 3) := by decide +kernel
theorem dX0_firstToBoard_73 : decode cX0_firstToBoard 73 = .ok (.goto (-65), 3) := by decide +kernel
theorem dX0_firstToBoard_76 : decode cX0_firstToBoard 76 = .ok (.iconst (-1), 1) := by decide +kernel
theorem dX0_firstToBoard_77 : decode cX0_firstToBoard 77 = .ok (.ireturn, 1) := by decide +kernel
theorem dX0_mayBoard_0 : decode cX0_mayBoard 0 = .ok (.iload_n 1, 1) := by decide +kernel
theorem dX0_mayBoard_1 : decode cX0_mayBoard 1 = .ok (.iconst 2, 1) := by decide +kernel
theorem dX0_mayBoard_2 : decode cX0_mayBoard 2 = .ok (.if_icmp .ne 22, 3) := by decide +kernel
theorem dX0_mayBoard_5 : decode cX0_mayBoard 5 = .ok (.iload_n 3, 1) := by decide +kernel
theorem dX0_mayBoard_6 : decode cX0_mayBoard 6 = .ok (.ifCond .ne 16, 3) := by decide +kernel
theorem dX0_mayBoard_9 : decode cX0_mayBoard 9 = .ok (.aload_n 2, 1) := by decide +kernel
theorem dX0_mayBoard_10 : decode cX0_mayBoard 10 = .ok (.getfield 250, 3) := by decide +kernel
theorem dX0_mayBoard_13 : decode cX0_mayBoard 13 = .ok (.iconst 1, 1) := by decide +kernel
theorem dX0_mayBoard_14 : decode cX0_mayBoard 14 = .ok (.iaload, 1) := by decide +kernel
theorem dX0_mayBoard_15 : decode cX0_mayBoard 15 = .ok (.ifCond .ge 7, 3) := by decide +kernel
theorem dX0_mayBoard_18 : decode cX0_mayBoard 18 = .ok (.iconst 1, 1) := by decide +kernel
theorem dX0_mayBoard_19 : decode cX0_mayBoard 19 = .ok (.goto 4, 3) := by decide +kernel
theorem dX0_mayBoard_22 : decode cX0_mayBoard 22 = .ok (.iconst 0, 1) := by decide +kernel
theorem dX0_mayBoard_23 : decode cX0_mayBoard 23 = .ok (.ireturn, 1) := by decide +kernel
theorem dX0_mayBoard_24 : decode cX0_mayBoard 24 = .ok (.aload_n 0, 1) := by decide +kernel
theorem dX0_mayBoard_25 : decode cX0_mayBoard 25 = .ok (.getfield 27, 3) := by decide +kernel
theorem dX0_mayBoard_28 : decode cX0_mayBoard 28 = .ok (.iconst 0, 1) := by decide +kernel
theorem dX0_mayBoard_29 : decode cX0_mayBoard 29 = .ok (.iaload, 1) := by decide +kernel
theorem dX0_mayBoard_30 : decode cX0_mayBoard 30 = .ok (.iconst 1, 1) := by decide +kernel
theorem dX0_mayBoard_31 : decode cX0_mayBoard 31 = .ok (.if_icmp .ne 28, 3) := by decide +kernel
theorem dX0_mayBoard_34 : decode cX0_mayBoard 34 = .ok (.iload_n 1, 1) := by decide +kernel
theorem dX0_mayBoard_35 : decode cX0_mayBoard 35 = .ok (.iconst 1, 1) := by decide +kernel
theorem dX0_mayBoard_36 : decode cX0_mayBoard 36 = .ok (.if_icmp .ne 7, 3) := by decide +kernel
theorem dX0_mayBoard_39 : decode cX0_mayBoard 39 = .ok (.iconst 1, 1) := by decide +kernel
theorem dX0_mayBoard_40 : decode cX0_mayBoard 40 = .ok (.goto 4, 3) := by decide +kernel
theorem dX0_mayBoard_43 : decode cX0_mayBoard 43 = .ok (.iconst 0, 1) := by decide +kernel
theorem dX0_mayBoard_44 : decode cX0_mayBoard 44 = .ok (.iload_n 3, 1) := by decide +kernel
theorem dX0_mayBoard_45 : decode cX0_mayBoard 45 = .ok (.iconst 1, 1) := by decide +kernel
theorem dX0_mayBoard_46 : decode cX0_mayBoard 46 = .ok (.if_icmp .ne 7, 3) := by decide +kernel
theorem dX0_mayBoard_49 : decode cX0_mayBoard 49 = .ok (.iconst 1, 1) := by decide +kernel
theorem dX0_mayBoard_50 : decode cX0_mayBoard 50 = .ok (.goto 4, 3) := by decide +kernel
theorem dX0_mayBoard_53 : decode cX0_mayBoard 53 = .ok (.iconst 0, 1) := by decide +kernel
theorem dX0_mayBoard_54 : decode cX0_mayBoard 54 = .ok (.if_icmp .eq 5, 3) := by decide +kernel
theorem dX0_mayBoard_57 : decode cX0_mayBoard 57 = .ok (.iconst 0, 1) := by decide +kernel
theorem dX0_mayBoard_58 : decode cX0_mayBoard 58 = .ok (.ireturn, 1) := by decide +kernel
theorem dX0_mayBoard_59 : decode cX0_mayBoard 59 = .ok (.iload_n 1, 1) := by decide +kernel
theorem dX0_mayBoard_60 : decode cX0_mayBoard 60 = .ok (.iconst 4, 1) := by decide +kernel
theorem dX0_mayBoard_61 : decode cX0_mayBoard 61 = .ok (.if_icmp .ne 17, 3) := by decide +kernel
theorem dX0_mayBoard_64 : decode cX0_mayBoard 64 = .ok (.aload_n 2, 1) := by decide +kernel
theorem dX0_mayBoard_65 : decode cX0_mayBoard 65 = .ok (.getfield 136, 3) := by decide +kernel
theorem dX0_mayBoard_68 : decode cX0_mayBoard 68 = .ok (.iconst 1, 1) := by decide +kernel
theorem dX0_mayBoard_69 : decode cX0_mayBoard 69 = .ok (.if_icmp .ne 7, 3) := by decide +kernel
theorem dX0_mayBoard_72 : decode cX0_mayBoard 72 = .ok (.iconst 1, 1) := by decide +kernel
theorem dX0_mayBoard_73 : decode cX0_mayBoard 73 = .ok (.goto 4, 3) := by decide +kernel
theorem dX0_mayBoard_76 : decode cX0_mayBoard 76 = .ok (.iconst 0, 1) := by decide +kernel
theorem dX0_mayBoard_77 : decode cX0_mayBoard 77 = .ok (.ireturn, 1) := by decide +kernel
theorem dX0_mayBoard_78 : decode cX0_mayBoard 78 = .ok (.iload_n 1, 1) := by decide +kernel
theorem dX0_mayBoard_79 : decode cX0_mayBoard 79 = .ok (.iconst 3, 1) := by decide +kernel
theorem dX0_mayBoard_80 : decode cX0_mayBoard 80 = .ok (.if_icmp .eq 7, 3) := by decide +kernel
theorem dX0_mayBoard_83 : decode cX0_mayBoard 83 = .ok (.iconst 1, 1) := by decide +kernel
theorem dX0_mayBoard_84 : decode cX0_mayBoard 84 = .ok (.goto 4, 3) := by decide +kernel
theorem dX0_mayBoard_87 : decode cX0_mayBoard 87 = .ok (.iconst 0, 1) := by decide +kernel
theorem dX0_mayBoard_88 : decode cX0_mayBoard 88 = .ok (.istore 4, 2) := by decide +kernel
theorem dX0_mayBoard_90 : decode cX0_mayBoard 90 = .ok (.iconst 0, 1) := by decide +kernel
theorem dX0_mayBoard_91 : decode cX0_mayBoard 91 = .ok (.istore 5, 2) := by decide +kernel
theorem dX0_mayBoard_93 : decode cX0_mayBoard 93 = .ok (.iload 5, 2) := by decide +kernel
theorem dX0_mayBoard_95 : decode cX0_mayBoard 95 = .ok (.iconst 4, 1) := by decide +kernel
theorem dX0_mayBoard_96 : decode cX0_mayBoard 96 = .ok (.if_icmp .ge 49, 3) := by decide +kernel
theorem dX0_mayBoard_99 : decode cX0_mayBoard 99 = .ok (.iload 4, 2) := by decide +kernel
theorem dX0_mayBoard_101 : decode cX0_mayBoard 101 = .ok (.ifCond .ne 44, 3) := by decide +kernel
theorem dX0_mayBoard_104 : decode cX0_mayBoard 104 = .ok (.aload_n 2, 1) := by decide +kernel
theorem dX0_mayBoard_105 : decode cX0_mayBoard 105 = .ok (.getfield 250, 3) := by decide +kernel
theorem dX0_mayBoard_108 : decode cX0_mayBoard 108 = .ok (.iload 5, 2) := by decide +kernel
theorem dX0_mayBoard_110 : decode cX0_mayBoard 110 = .ok (.iaload, 1) := by decide +kernel
theorem dX0_mayBoard_111 : decode cX0_mayBoard 111 = .ok (.istore 6, 2) := by decide +kernel
theorem dX0_mayBoard_113 : decode cX0_mayBoard 113 = .ok (.iload 6, 2) := by decide +kernel
theorem dX0_mayBoard_115 : decode cX0_mayBoard 115 = .ok (.ifCond .lt 21, 3) := by decide +kernel
theorem dX0_mayBoard_118 : decode cX0_mayBoard 118 = .ok (.aload_n 0, 1) := by decide +kernel
theorem dX0_mayBoard_119 : decode cX0_mayBoard 119 = .ok (.getfield 11, 3) := by decide +kernel
theorem dX0_mayBoard_122 : decode cX0_mayBoard 122 = .ok (.iload 6, 2) := by decide +kernel
theorem dX0_mayBoard_124 : decode cX0_mayBoard 124 = .ok (.aaload, 1) := by decide +kernel
theorem dX0_mayBoard_125 : decode cX0_mayBoard 125 = .ok (.getfield 223, 3) := by decide +kernel
theorem dX0_mayBoard_128 : decode cX0_mayBoard 128 = .ok (.iconst 3, 1) := by decide +kernel
theorem dX0_mayBoard_129 : decode cX0_mayBoard 129 = .ok (.if_icmp .eq 7, 3) := by decide +kernel
theorem dX0_mayBoard_132 : decode cX0_mayBoard 132 = .ok (.iconst 1, 1) := by decide +kernel
theorem dX0_mayBoard_133 : decode cX0_mayBoard 133 = .ok (.goto 4, 3) := by decide +kernel
theorem dX0_mayBoard_136 : decode cX0_mayBoard 136 = .ok (.iconst 0, 1) := by decide +kernel
theorem dX0_mayBoard_137 : decode cX0_mayBoard 137 = .ok (.istore 4, 2) := by decide +kernel
theorem dX0_mayBoard_139 : decode cX0_mayBoard 139 = .ok (.iinc 5 1, 3) := by decide +kernel
theorem dX0_mayBoard_142 : decode cX0_mayBoard 142 = .ok (.goto (-49), 3) := by decide +kernel
theorem dX0_mayBoard_145 : decode cX0_mayBoard 145 = .ok (.iload 4, 2) := by decide +kernel
theorem dX0_mayBoard_147 : decode cX0_mayBoard 147 = .ok (.ireturn, 1) := by decide +kernel
theorem dX0_weigh_0 : decode cX0_weigh 0 = .ok (.aload_n 0, 1) := by decide +kernel
theorem dX0_weigh_1 : decode cX0_weigh 1 = .ok (.getfield 19, 3) := by decide +kernel
theorem dX0_weigh_4 : decode cX0_weigh 4 = .ok (.iload_n 1, 1) := by decide +kernel
theorem dX0_weigh_5 : decode cX0_weigh 5 = .ok (.aaload, 1) := by decide +kernel
theorem dX0_weigh_6 : decode cX0_weigh 6 = .ok (.astore_n 2, 1) := by decide +kernel
theorem dX0_weigh_7 : decode cX0_weigh 7 = .ok (.aload_n 2, 1) := by decide +kernel
theorem dX0_weigh_8 : decode cX0_weigh 8 = .ok (.invokevirtual 155, 3) := by decide +kernel
theorem dX0_weigh_11 : decode cX0_weigh 11 = .ok (.ifCond .eq 56, 3) := by decide +kernel
theorem dX0_weigh_14 : decode cX0_weigh 14 = .ok (.aload_n 2, 1) := by decide +kernel
theorem dX0_weigh_15 : decode cX0_weigh 15 = .ok (.getfield 133, 3) := by decide +kernel
theorem dX0_weigh_18 : decode cX0_weigh 18 = .ok (.iconst 2, 1) := by decide +kernel
theorem dX0_weigh_19 : decode cX0_weigh 19 = .ok (.if_icmp .ne 21, 3) := by decide +kernel
theorem dX0_weigh_22 : decode cX0_weigh 22 = .ok (.aload_n 2, 1) := by decide +kernel
theorem dX0_weigh_23 : decode cX0_weigh 23 = .ok (.getfield 159, 3) := by decide +kernel
theorem dX0_weigh_26 : decode cX0_weigh 26 = .ok (.aload_n 0, 1) := by decide +kernel
theorem dX0_weigh_27 : decode cX0_weigh 27 = .ok (.getfield 27, 3) := by decide +kernel
theorem dX0_weigh_30 : decode cX0_weigh 30 = .ok (.bipush 6, 2) := by decide +kernel
theorem dX0_weigh_32 : decode cX0_weigh 32 = .ok (.iaload, 1) := by decide +kernel
theorem dX0_weigh_33 : decode cX0_weigh 33 = .ok (.imul, 1) := by decide +kernel
theorem dX0_weigh_34 : decode cX0_weigh 34 = .ok (.bipush 10, 2) := by decide +kernel
theorem dX0_weigh_36 : decode cX0_weigh 36 = .ok (.idiv, 1) := by decide +kernel
theorem dX0_weigh_37 : decode cX0_weigh 37 = .ok (.goto 8, 3) := by decide +kernel
theorem dX0_weigh_40 : decode cX0_weigh 40 = .ok (.aload_n 2, 1) := by decide +kernel
theorem dX0_weigh_41 : decode cX0_weigh 41 = .ok (.getfield 159, 3) := by decide +kernel
theorem dX0_weigh_44 : decode cX0_weigh 44 = .ok (.ineg, 1) := by decide +kernel
theorem dX0_weigh_45 : decode cX0_weigh 45 = .ok (.istore_n 3, 1) := by decide +kernel
theorem dX0_weigh_46 : decode cX0_weigh 46 = .ok (.aload_n 0, 1) := by decide +kernel
theorem dX0_weigh_47 : decode cX0_weigh 47 = .ok (.dup, 1) := by decide +kernel
theorem dX0_weigh_48 : decode cX0_weigh 48 = .ok (.getfield 74, 3) := by decide +kernel
theorem dX0_weigh_51 : decode cX0_weigh 51 = .ok (.iconst 0, 1) := by decide +kernel
theorem dX0_weigh_52 : decode cX0_weigh 52 = .ok (.aload_n 0, 1) := by decide +kernel
theorem dX0_weigh_53 : decode cX0_weigh 53 = .ok (.getfield 27, 3) := by decide +kernel
theorem dX0_weigh_56 : decode cX0_weigh 56 = .ok (.iconst 5, 1) := by decide +kernel
theorem dX0_weigh_57 : decode cX0_weigh 57 = .ok (.iaload, 1) := by decide +kernel
theorem dX0_weigh_58 : decode cX0_weigh 58 = .ok (.iload_n 3, 1) := by decide +kernel
theorem dX0_weigh_59 : decode cX0_weigh 59 = .ok (.isub, 1) := by decide +kernel
theorem dX0_weigh_60 : decode cX0_weigh 60 = .ok (.invokestatic 253, 3) := by decide +kernel
theorem dX0_weigh_63 : decode cX0_weigh 63 = .ok (.iadd, 1) := by decide +kernel
theorem dX0_weigh_64 : decode cX0_weigh 64 = .ok (.putfield 74, 3) := by decide +kernel
theorem dX0_weigh_67 : decode cX0_weigh 67 = .ok (.aload_n 2, 1) := by decide +kernel
theorem dX0_weigh_68 : decode cX0_weigh 68 = .ok (.getfield 258, 3) := by decide +kernel
theorem dX0_weigh_71 : decode cX0_weigh 71 = .ok (.ifCond .le 16, 3) := by decide +kernel
theorem dX0_weigh_74 : decode cX0_weigh 74 = .ok (.aload_n 2, 1) := by decide +kernel
theorem dX0_weigh_75 : decode cX0_weigh 75 = .ok (.dup, 1) := by decide +kernel
theorem dX0_weigh_76 : decode cX0_weigh 76 = .ok (.getfield 258, 3) := by decide +kernel
theorem dX0_weigh_79 : decode cX0_weigh 79 = .ok (.iconst 1, 1) := by decide +kernel
theorem dX0_weigh_80 : decode cX0_weigh 80 = .ok (.isub, 1) := by decide +kernel
theorem dX0_weigh_81 : decode cX0_weigh 81 = .ok (.putfield 258, 3) := by decide +kernel
theorem dX0_weigh_84 : decode cX0_weigh 84 = .ok (.goto 49, 3) := by decide +kernel
theorem dX0_weigh_87 : decode cX0_weigh 87 = .ok (.aload_n 2, 1) := by decide +kernel
theorem dX0_weigh_88 : decode cX0_weigh 88 = .ok (.getfield 159, 3) := by decide +kernel
theorem dX0_weigh_91 : decode cX0_weigh 91 = .ok (.aload_n 0, 1) := by decide +kernel
theorem dX0_weigh_92 : decode cX0_weigh 92 = .ok (.getfield 27, 3) := by decide +kernel
theorem dX0_weigh_95 : decode cX0_weigh 95 = .ok (.iconst 3, 1) := by decide +kernel
theorem dX0_weigh_96 : decode cX0_weigh 96 = .ok (.iaload, 1) := by decide +kernel
theorem dX0_weigh_97 : decode cX0_weigh 97 = .ok (.if_icmp .le 36, 3) := by decide +kernel
theorem dX0_weigh_100 : decode cX0_weigh 100 = .ok (.aload_n 2, 1) := by decide +kernel
theorem dX0_weigh_101 : decode cX0_weigh 101 = .ok (.aload_n 0, 1) := by decide +kernel
theorem dX0_weigh_102 : decode cX0_weigh 102 = .ok (.getfield 27, 3) := by decide +kernel
theorem dX0_weigh_105 : decode cX0_weigh 105 = .ok (.iconst 4, 1) := by decide +kernel
theorem dX0_weigh_106 : decode cX0_weigh 106 = .ok (.iaload, 1) := by decide +kernel
theorem dX0_weigh_107 : decode cX0_weigh 107 = .ok (.putfield 258, 3) := by decide +kernel
theorem dX0_weigh_110 : decode cX0_weigh 110 = .ok (.aload_n 0, 1) := by decide +kernel
theorem dX0_weigh_111 : decode cX0_weigh 111 = .ok (.dup, 1) := by decide +kernel
theorem dX0_weigh_112 : decode cX0_weigh 112 = .ok (.getfield 80, 3) := by decide +kernel
theorem dX0_weigh_115 : decode cX0_weigh 115 = .ok (.iconst 1, 1) := by decide +kernel
theorem dX0_weigh_116 : decode cX0_weigh 116 = .ok (.iadd, 1) := by decide +kernel
theorem dX0_weigh_117 : decode cX0_weigh 117 = .ok (.putfield 80, 3) := by decide +kernel
theorem dX0_weigh_120 : decode cX0_weigh 120 = .ok (.aload_n 2, 1) := by decide +kernel
theorem dX0_weigh_121 : decode cX0_weigh 121 = .ok (.getfield 136, 3) := by decide +kernel
theorem dX0_weigh_124 : decode cX0_weigh 124 = .ok (.iconst 2, 1) := by decide +kernel
theorem dX0_weigh_125 : decode cX0_weigh 125 = .ok (.if_icmp .ne 8, 3) := by decide +kernel
theorem dX0_weigh_128 : decode cX0_weigh 128 = .ok (.aload_n 0, 1) := by decide +kernel
theorem dX0_weigh_129 : decode cX0_weigh 129 = .ok (.iload_n 1, 1) := by decide +kernel
theorem dX0_weigh_130 : decode cX0_weigh 130 = .ok (.invokevirtual 261, 3) := by decide +kernel
theorem dX0_weigh_133 : decode cX0_weigh 133 = .ok (.return_, 1) := by decide +kernel
theorem dX0_letWalkersFall_0 : decode cX0_letWalkersFall 0 = .ok (.iconst 0, 1) := by decide +kernel
theorem dX0_letWalkersFall_1 : decode cX0_letWalkersFall 1 = .ok (.istore_n 2, 1) := by decide +kernel
theorem dX0_letWalkersFall_2 : decode cX0_letWalkersFall 2 = .ok (.iload_n 2, 1) := by decide +kernel
theorem dX0_letWalkersFall_3 : decode cX0_letWalkersFall 3 = .ok (.aload_n 0, 1) := by decide +kernel
theorem dX0_letWalkersFall_4 : decode cX0_letWalkersFall 4 = .ok (.getfield 61, 3) := by decide +kernel
theorem dX0_letWalkersFall_7 : decode cX0_letWalkersFall 7 = .ok (.if_icmp .ge 50, 3) := by decide +kernel
theorem dX0_letWalkersFall_10 : decode cX0_letWalkersFall 10 = .ok (.aload_n 0, 1) := by decide +kernel
theorem dX0_letWalkersFall_11 : decode cX0_letWalkersFall 11 = .ok (.getfield 11, 3) := by decide +kernel
theorem dX0_letWalkersFall_14 : decode cX0_letWalkersFall 14 = .ok (.iload_n 2, 1) := by decide +kernel
theorem dX0_letWalkersFall_15 : decode cX0_letWalkersFall 15 = .ok (.aaload, 1) := by decide +kernel
theorem dX0_letWalkersFall_16 : decode cX0_letWalkersFall 16 = .ok (.astore_n 3, 1) := by decide +kernel
theorem dX0_letWalkersFall_17 : decode cX0_letWalkersFall 17 = .ok (.aload_n 3, 1) := by decide +kernel
theorem dX0_letWalkersFall_18 : decode cX0_letWalkersFall 18 = .ok (.getfield 174, 3) := by decide +kernel
theorem dX0_letWalkersFall_21 : decode cX0_letWalkersFall 21 = .ok (.iconst 2, 1) := by decide +kernel
theorem dX0_letWalkersFall_22 : decode cX0_letWalkersFall 22 = .ok (.if_icmp .ne 29, 3) := by decide +kernel
theorem dX0_letWalkersFall_25 : decode cX0_letWalkersFall 25 = .ok (.aload_n 3, 1) := by decide +kernel
theorem dX0_letWalkersFall_26 : decode cX0_letWalkersFall 26 = .ok (.getfield 183, 3) := by decide +kernel
theorem dX0_letWalkersFall_29 : decode cX0_letWalkersFall 29 = .ok (.iload_n 1, 1) := by decide +kernel
theorem dX0_letWalkersFall_30 : decode cX0_letWalkersFall 30 = .ok (.if_icmp .ne 21, 3) := by decide +kernel
theorem dX0_letWalkersFall_33 : decode cX0_letWalkersFall 33 = .ok (.aload_n 3, 1) := by decide +kernel
theorem dX0_letWalkersFall_34 : decode cX0_letWalkersFall 34 = .ok (.getfield 223, 3) := by decide +kernel
theorem dX0_letWalkersFall_37 : decode cX0_letWalkersFall 37 = .ok (.iconst 1, 1) := by decide +kernel
theorem dX0_letWalkersFall_38 : decode cX0_letWalkersFall 38 = .ok (.if_icmp .ne 13, 3) := by decide +kernel
theorem dX0_letWalkersFall_41 : decode cX0_letWalkersFall 41 = .ok (.aload_n 3, 1) := by decide +kernel
theorem dX0_letWalkersFall_42 : decode cX0_letWalkersFall 42 = .ok (.iconst 0, 1) := by decide +kernel
theorem dX0_letWalkersFall_43 : decode cX0_letWalkersFall 43 = .ok (.putfield 223, 3) := by decide +kernel
theorem dX0_letWalkersFall_46 : decode cX0_letWalkersFall 46 = .ok (.aload_n 3, 1) := by decide +kernel
theorem dX0_letWalkersFall_47 : decode cX0_letWalkersFall 47 = .ok (.iconst 1, 1) := by decide +kernel
theorem dX0_letWalkersFall_48 : decode cX0_letWalkersFall 48 = .ok (.putfield 264, 3) := by decide +kernel
theorem dX0_letWalkersFall_51 : decode cX0_letWalkersFall 51 = .ok (.iinc 2 1, 3) := by decide +kernel
theorem dX0_letWalkersFall_54 : decode cX0_letWalkersFall 54 = .ok (.goto (-52), 3) := by decide +kernel
theorem dX0_letWalkersFall_57 : decode cX0_letWalkersFall 57 = .ok (.return_, 1) := by decide +kernel
theorem dX0_setOf_0 : decode cX0_setOf 0 = .ok (.iconst 0, 1) := by decide +kernel
theorem dX0_setOf_1 : decode cX0_setOf 1 = .ok (.istore_n 2, 1) := by decide +kernel
theorem dX0_setOf_2 : decode cX0_setOf 2 = .ok (.iconst 0, 1) := by decide +kernel
theorem dX0_setOf_3 : decode cX0_setOf 3 = .ok (.istore_n 3, 1) := by decide +kernel
theorem dX0_setOf_4 : decode cX0_setOf 4 = .ok (.iload_n 3, 1) := by decide +kernel
theorem dX0_setOf_5 : decode cX0_setOf 5 = .ok (.aload_n 0, 1) := by decide +kernel
theorem dX0_setOf_6 : decode cX0_setOf 6 = .ok (.getfield 61, 3) := by decide +kernel
theorem dX0_setOf_9 : decode cX0_setOf 9 = .ok (.if_icmp .ge 32, 3) := by decide +kernel
theorem dX0_setOf_12 : decode cX0_setOf 12 = .ok (.iload_n 2, 1) := by decide +kernel
theorem dX0_setOf_13 : decode cX0_setOf 13 = .ok (.aload_n 0, 1) := by decide +kernel
theorem dX0_setOf_14 : decode cX0_setOf 14 = .ok (.getfield 11, 3) := by decide +kernel
theorem dX0_setOf_17 : decode cX0_setOf 17 = .ok (.iload_n 3, 1) := by decide +kernel
theorem dX0_setOf_18 : decode cX0_setOf 18 = .ok (.aaload, 1) := by decide +kernel
theorem dX0_setOf_19 : decode cX0_setOf 19 = .ok (.getfield 174, 3) := by decide +kernel
theorem dX0_setOf_22 : decode cX0_setOf 22 = .ok (.iload_n 1, 1) := by decide +kernel
theorem dX0_setOf_23 : decode cX0_setOf 23 = .ok (.if_icmp .ne 9, 3) := by decide +kernel
theorem dX0_setOf_26 : decode cX0_setOf 26 = .ok (.iconst 1, 1) := by decide +kernel
theorem dX0_setOf_27 : decode cX0_setOf 27 = .ok (.iload_n 3, 1) := by decide +kernel
theorem dX0_setOf_28 : decode cX0_setOf 28 = .ok (.ishl, 1) := by decide +kernel
theorem dX0_setOf_29 : decode cX0_setOf 29 = .ok (.goto 4, 3) := by decide +kernel
theorem dX0_setOf_32 : decode cX0_setOf 32 = .ok (.iconst 0, 1) := by decide +kernel
theorem dX0_setOf_33 : decode cX0_setOf 33 = .ok (.ior, 1) := by decide +kernel
theorem dX0_setOf_34 : decode cX0_setOf 34 = .ok (.istore_n 2, 1) := by decide +kernel
theorem dX0_setOf_35 : decode cX0_setOf 35 = .ok (.iinc 3 1, 3) := by decide +kernel
theorem dX0_setOf_38 : decode cX0_setOf 38 = .ok (.goto (-34), 3) := by decide +kernel
theorem dX0_setOf_41 : decode cX0_setOf 41 = .ok (.iload_n 2, 1) := by decide +kernel
theorem dX0_setOf_42 : decode cX0_setOf 42 = .ok (.ireturn, 1) := by decide +kernel
theorem dX0_setOfFallen_0 : decode cX0_setOfFallen 0 = .ok (.iconst 0, 1) := by decide +kernel
theorem dX0_setOfFallen_1 : decode cX0_setOfFallen 1 = .ok (.istore_n 1, 1) := by decide +kernel
theorem dX0_setOfFallen_2 : decode cX0_setOfFallen 2 = .ok (.iconst 0, 1) := by decide +kernel
theorem dX0_setOfFallen_3 : decode cX0_setOfFallen 3 = .ok (.istore_n 2, 1) := by decide +kernel
theorem dX0_setOfFallen_4 : decode cX0_setOfFallen 4 = .ok (.iload_n 2, 1) := by decide +kernel
theorem dX0_setOfFallen_5 : decode cX0_setOfFallen 5 = .ok (.aload_n 0, 1) := by decide +kernel
theorem dX0_setOfFallen_6 : decode cX0_setOfFallen 6 = .ok (.getfield 61, 3) := by decide +kernel
theorem dX0_setOfFallen_9 : decode cX0_setOfFallen 9 = .ok (.if_icmp .ge 31, 3) := by decide +kernel
theorem dX0_setOfFallen_12 : decode cX0_setOfFallen 12 = .ok (.iload_n 1, 1) := by decide +kernel
theorem dX0_setOfFallen_13 : decode cX0_setOfFallen 13 = .ok (.aload_n 0, 1) := by decide +kernel
theorem dX0_setOfFallen_14 : decode cX0_setOfFallen 14 = .ok (.getfield 11, 3) := by decide +kernel
theorem dX0_setOfFallen_17 : decode cX0_setOfFallen 17 = .ok (.iload_n 2, 1) := by decide +kernel
theorem dX0_setOfFallen_18 : decode cX0_setOfFallen 18 = .ok (.aaload, 1) := by decide +kernel
theorem dX0_setOfFallen_19 : decode cX0_setOfFallen 19 = .ok (.getfield 264, 3) := by decide +kernel
theorem dX0_setOfFallen_22 : decode cX0_setOfFallen 22 = .ok (.ifCond .eq 9, 3) := by decide +kernel
theorem dX0_setOfFallen_25 : decode cX0_setOfFallen 25 = .ok (.iconst 1, 1) := by decide +kernel
theorem dX0_setOfFallen_26 : decode cX0_setOfFallen 26 = .ok (.iload_n 2, 1) := by decide +kernel
theorem dX0_setOfFallen_27 : decode cX0_setOfFallen 27 = .ok (.ishl, 1) := by decide +kernel
theorem dX0_setOfFallen_28 : decode cX0_setOfFallen 28 = .ok (.goto 4, 3) := by decide +kernel
theorem dX0_setOfFallen_31 : decode cX0_setOfFallen 31 = .ok (.iconst 0, 1) := by decide +kernel
theorem dX0_setOfFallen_32 : decode cX0_setOfFallen 32 = .ok (.ior, 1) := by decide +kernel
theorem dX0_setOfFallen_33 : decode cX0_setOfFallen 33 = .ok (.istore_n 1, 1) := by decide +kernel
theorem dX0_setOfFallen_34 : decode cX0_setOfFallen 34 = .ok (.iinc 2 1, 3) := by decide +kernel
theorem dX0_setOfFallen_37 : decode cX0_setOfFallen 37 = .ok (.goto (-33), 3) := by decide +kernel
theorem dX0_setOfFallen_40 : decode cX0_setOfFallen 40 = .ok (.iload_n 1, 1) := by decide +kernel
theorem dX0_setOfFallen_41 : decode cX0_setOfFallen 41 = .ok (.ireturn, 1) := by decide +kernel
theorem dX0_tripDigits_0 : decode cX0_tripDigits 0 = .ok (.iconst 0, 1) := by decide +kernel
theorem dX0_tripDigits_1 : decode cX0_tripDigits 1 = .ok (.istore_n 1, 1) := by decide +kernel
theorem dX0_tripDigits_2 : decode cX0_tripDigits 2 = .ok (.iconst 0, 1) := by decide +kernel
theorem dX0_tripDigits_3 : decode cX0_tripDigits 3 = .ok (.istore_n 2, 1) := by decide +kernel
theorem dX0_tripDigits_4 : decode cX0_tripDigits 4 = .ok (.iload_n 2, 1) := by decide +kernel
theorem dX0_tripDigits_5 : decode cX0_tripDigits 5 = .ok (.aload_n 0, 1) := by decide +kernel
theorem dX0_tripDigits_6 : decode cX0_tripDigits 6 = .ok (.getfield 57, 3) := by decide +kernel
theorem dX0_tripDigits_9 : decode cX0_tripDigits 9 = .ok (.if_icmp .ge 27, 3) := by decide +kernel
theorem dX0_tripDigits_12 : decode cX0_tripDigits 12 = .ok (.iload_n 1, 1) := by decide +kernel
theorem dX0_tripDigits_13 : decode cX0_tripDigits 13 = .ok (.aload_n 0, 1) := by decide +kernel
theorem dX0_tripDigits_14 : decode cX0_tripDigits 14 = .ok (.getfield 19, 3) := by decide +kernel
theorem dX0_tripDigits_17 : decode cX0_tripDigits 17 = .ok (.iload_n 2, 1) := by decide +kernel
theorem dX0_tripDigits_18 : decode cX0_tripDigits 18 = .ok (.aaload, 1) := by decide +kernel
theorem dX0_tripDigits_19 : decode cX0_tripDigits 19 = .ok (.getfield 258, 3) := by decide +kernel
theorem dX0_tripDigits_22 : decode cX0_tripDigits 22 = .ok (.getstatic 268, 3) := by decide +kernel
theorem dX0_tripDigits_25 : decode cX0_tripDigits 25 = .ok (.iload_n 2, 1) := by decide +kernel
theorem dX0_tripDigits_26 : decode cX0_tripDigits 26 = .ok (.iaload, 1) := by decide +kernel
theorem dX0_tripDigits_27 : decode cX0_tripDigits 27 = .ok (.imul, 1) := by decide +kernel
theorem dX0_tripDigits_28 : decode cX0_tripDigits 28 = .ok (.iadd, 1) := by decide +kernel
theorem dX0_tripDigits_29 : decode cX0_tripDigits 29 = .ok (.istore_n 1, 1) := by decide +kernel
theorem dX0_tripDigits_30 : decode cX0_tripDigits 30 = .ok (.iinc 2 1, 3) := by decide +kernel
theorem dX0_tripDigits_33 : decode cX0_tripDigits 33 = .ok (.goto (-29), 3) := by decide +kernel
theorem dX0_tripDigits_36 : decode cX0_tripDigits 36 = .ok (.iload_n 1, 1) := by decide +kernel
theorem dX0_tripDigits_37 : decode cX0_tripDigits 37 = .ok (.ireturn, 1) := by decide +kernel
theorem dX0_countThrough_0 : decode cX0_countThrough 0 = .ok (.iconst 0, 1) := by decide +kernel
theorem dX0_countThrough_1 : decode cX0_countThrough 1 = .ok (.istore_n 2, 1) := by decide +kernel
theorem dX0_countThrough_2 : decode cX0_countThrough 2 = .ok (.iconst 0, 1) := by decide +kernel
theorem dX0_countThrough_3 : decode cX0_countThrough 3 = .ok (.istore_n 3, 1) := by decide +kernel
theorem dX0_countThrough_4 : decode cX0_countThrough 4 = .ok (.iload_n 3, 1) := by decide +kernel
theorem dX0_countThrough_5 : decode cX0_countThrough 5 = .ok (.aload_n 0, 1) := by decide +kernel
theorem dX0_countThrough_6 : decode cX0_countThrough 6 = .ok (.getfield 61, 3) := by decide +kernel
theorem dX0_countThrough_9 : decode cX0_countThrough 9 = .ok (.if_icmp .ge 43, 3) := by decide +kernel
theorem dX0_countThrough_12 : decode cX0_countThrough 12 = .ok (.iload_n 2, 1) := by decide +kernel
theorem dX0_countThrough_13 : decode cX0_countThrough 13 = .ok (.aload_n 0, 1) := by decide +kernel
theorem dX0_countThrough_14 : decode cX0_countThrough 14 = .ok (.getfield 11, 3) := by decide +kernel
theorem dX0_countThrough_17 : decode cX0_countThrough 17 = .ok (.iload_n 3, 1) := by decide +kernel
theorem dX0_countThrough_18 : decode cX0_countThrough 18 = .ok (.aaload, 1) := by decide +kernel
theorem dX0_countThrough_19 : decode cX0_countThrough 19 = .ok (.getfield 174, 3) := by decide +kernel
theorem dX0_countThrough_22 : decode cX0_countThrough 22 = .ok (.iconst 3, 1) := by decide +kernel
theorem dX0_countThrough_23 : decode cX0_countThrough 23 = .ok (.if_icmp .ne 20, 3) := by decide +kernel
theorem dX0_countThrough_26 : decode cX0_countThrough 26 = .ok (.aload_n 0, 1) := by decide +kernel
theorem dX0_countThrough_27 : decode cX0_countThrough 27 = .ok (.getfield 11, 3) := by decide +kernel
theorem dX0_countThrough_30 : decode cX0_countThrough 30 = .ok (.iload_n 3, 1) := by decide +kernel
theorem dX0_countThrough_31 : decode cX0_countThrough 31 = .ok (.aaload, 1) := by decide +kernel
theorem dX0_countThrough_32 : decode cX0_countThrough 32 = .ok (.getfield 271, 3) := by decide +kernel
theorem dX0_countThrough_35 : decode cX0_countThrough 35 = .ok (.iload_n 1, 1) := by decide +kernel
theorem dX0_countThrough_36 : decode cX0_countThrough 36 = .ok (.if_icmp .gt 7, 3) := by decide +kernel
theorem dX0_countThrough_39 : decode cX0_countThrough 39 = .ok (.iconst 1, 1) := by decide +kernel
theorem dX0_countThrough_40 : decode cX0_countThrough 40 = .ok (.goto 4, 3) := by decide +kernel
theorem dX0_countThrough_43 : decode cX0_countThrough 43 = .ok (.iconst 0, 1) := by decide +kernel
theorem dX0_countThrough_44 : decode cX0_countThrough 44 = .ok (.iadd, 1) := by decide +kernel
theorem dX0_countThrough_45 : decode cX0_countThrough 45 = .ok (.istore_n 2, 1) := by decide +kernel
theorem dX0_countThrough_46 : decode cX0_countThrough 46 = .ok (.iinc 3 1, 3) := by decide +kernel
theorem dX0_countThrough_49 : decode cX0_countThrough 49 = .ok (.goto (-45), 3) := by decide +kernel
theorem dX0_countThrough_52 : decode cX0_countThrough 52 = .ok (.iload_n 2, 1) := by decide +kernel
theorem dX0_countThrough_53 : decode cX0_countThrough 53 = .ok (.ireturn, 1) := by decide +kernel
theorem dX0_lastThrough_0 : decode cX0_lastThrough 0 = .ok (.iconst 0, 1) := by decide +kernel
theorem dX0_lastThrough_1 : decode cX0_lastThrough 1 = .ok (.istore_n 1, 1) := by decide +kernel
theorem dX0_lastThrough_2 : decode cX0_lastThrough 2 = .ok (.iconst 0, 1) := by decide +kernel
theorem dX0_lastThrough_3 : decode cX0_lastThrough 3 = .ok (.istore_n 2, 1) := by decide +kernel
theorem dX0_lastThrough_4 : decode cX0_lastThrough 4 = .ok (.iload_n 2, 1) := by decide +kernel
theorem dX0_lastThrough_5 : decode cX0_lastThrough 5 = .ok (.aload_n 0, 1) := by decide +kernel
theorem dX0_lastThrough_6 : decode cX0_lastThrough 6 = .ok (.getfield 61, 3) := by decide +kernel
theorem dX0_lastThrough_9 : decode cX0_lastThrough 9 = .ok (.if_icmp .ge 41, 3) := by decide +kernel
theorem dX0_lastThrough_12 : decode cX0_lastThrough 12 = .ok (.iload_n 1, 1) := by decide +kernel
theorem dX0_lastThrough_13 : decode cX0_lastThrough 13 = .ok (.aload_n 0, 1) := by decide +kernel
theorem dX0_lastThrough_14 : decode cX0_lastThrough 14 = .ok (.getfield 11, 3) := by decide +kernel
theorem dX0_lastThrough_17 : decode cX0_lastThrough 17 = .ok (.iload_n 2, 1) := by decide +kernel
theorem dX0_lastThrough_18 : decode cX0_lastThrough 18 = .ok (.aaload, 1) := by decide +kernel
theorem dX0_lastThrough_19 : decode cX0_lastThrough 19 = .ok (.getfield 174, 3) := by decide +kernel
theorem dX0_lastThrough_22 : decode cX0_lastThrough 22 = .ok (.iconst 3, 1) := by decide +kernel
theorem dX0_lastThrough_23 : decode cX0_lastThrough 23 = .ok (.if_icmp .ne 15, 3) := by decide +kernel
theorem dX0_lastThrough_26 : decode cX0_lastThrough 26 = .ok (.aload_n 0, 1) := by decide +kernel
theorem dX0_lastThrough_27 : decode cX0_lastThrough 27 = .ok (.getfield 11, 3) := by decide +kernel
theorem dX0_lastThrough_30 : decode cX0_lastThrough 30 = .ok (.iload_n 2, 1) := by decide +kernel
theorem dX0_lastThrough_31 : decode cX0_lastThrough 31 = .ok (.aaload, 1) := by decide +kernel
theorem dX0_lastThrough_32 : decode cX0_lastThrough 32 = .ok (.getfield 271, 3) := by decide +kernel
theorem dX0_lastThrough_35 : decode cX0_lastThrough 35 = .ok (.goto 5, 3) := by decide +kernel
theorem dX0_lastThrough_38 : decode cX0_lastThrough 38 = .ok (.bipush 100, 2) := by decide +kernel
theorem dX0_lastThrough_40 : decode cX0_lastThrough 40 = .ok (.invokestatic 253, 3) := by decide +kernel
theorem dX0_lastThrough_43 : decode cX0_lastThrough 43 = .ok (.istore_n 1, 1) := by decide +kernel
theorem dX0_lastThrough_44 : decode cX0_lastThrough 44 = .ok (.iinc 2 1, 3) := by decide +kernel
theorem dX0_lastThrough_47 : decode cX0_lastThrough 47 = .ok (.goto (-43), 3) := by decide +kernel
theorem dX0_lastThrough_50 : decode cX0_lastThrough 50 = .ok (.iload_n 1, 1) := by decide +kernel
theorem dX0_lastThrough_51 : decode cX0_lastThrough 51 = .ok (.ireturn, 1) := by decide +kernel
theorem dX1_init_0 : decode cX1_init 0 = .ok (.aload_n 0, 1) := by decide +kernel
theorem dX1_init_1 : decode cX1_init 1 = .ok (.invokespecial 3, 3) := by decide +kernel
theorem dX1_init_4 : decode cX1_init 4 = .ok (.aload_n 0, 1) := by decide +kernel
theorem dX1_init_5 : decode cX1_init 5 = .ok (.bipush 20, 2) := by decide +kernel
theorem dX1_init_7 : decode cX1_init 7 = .ok (.newarray .int, 2) := by decide +kernel
theorem dX1_init_9 : decode cX1_init 9 = .ok (.putfield 9, 3) := by decide +kernel
theorem dX1_init_12 : decode cX1_init 12 = .ok (.aload_n 0, 1) := by decide +kernel
theorem dX1_init_13 : decode cX1_init 13 = .ok (.bipush 10, 2) := by decide +kernel
theorem dX1_init_15 : decode cX1_init 15 = .ok (.putfield 15, 3) := by decide +kernel
theorem dX1_init_18 : decode cX1_init 18 = .ok (.aload_n 0, 1) := by decide +kernel
theorem dX1_init_19 : decode cX1_init 19 = .ok (.bipush 10, 2) := by decide +kernel
theorem dX1_init_21 : decode cX1_init 21 = .ok (.iconst 0, 1) := by decide +kernel
theorem dX1_init_22 : decode cX1_init 22 = .ok (.iconst 1, 1) := by decide +kernel
theorem dX1_init_23 : decode cX1_init 23 = .ok (.invokevirtual 19, 3) := by decide +kernel
theorem dX1_init_26 : decode cX1_init 26 = .ok (.return_, 1) := by decide +kernel
theorem dX1_begin_0 : decode cX1_begin 0 = .ok (.aload_n 0, 1) := by decide +kernel
theorem dX1_begin_1 : decode cX1_begin 1 = .ok (.iconst 1, 1) := by decide +kernel
theorem dX1_begin_2 : decode cX1_begin 2 = .ok (.iload_n 1, 1) := by decide +kernel
theorem dX1_begin_3 : decode cX1_begin 3 = .ok (.bipush 10, 2) := by decide +kernel
theorem dX1_begin_5 : decode cX1_begin 5 = .ok (.invokestatic 23, 3) := by decide +kernel
theorem dX1_begin_8 : decode cX1_begin 8 = .ok (.invokestatic 29, 3) := by decide +kernel
theorem dX1_begin_11 : decode cX1_begin 11 = .ok (.putfield 15, 3) := by decide +kernel
theorem dX1_begin_14 : decode cX1_begin 14 = .ok (.aload_n 0, 1) := by decide +kernel
theorem dX1_begin_15 : decode cX1_begin 15 = .ok (.iload_n 2, 1) := by decide +kernel
theorem dX1_begin_16 : decode cX1_begin 16 = .ok (.putfield 32, 3) := by decide +kernel
theorem dX1_begin_19 : decode cX1_begin 19 = .ok (.aload_n 0, 1) := by decide +kernel
theorem dX1_begin_20 : decode cX1_begin 20 = .ok (.iload_n 3, 1) := by decide +kernel
theorem dX1_begin_21 : decode cX1_begin 21 = .ok (.putfield 35, 3) := by decide +kernel
theorem dX1_begin_24 : decode cX1_begin 24 = .ok (.aload_n 0, 1) := by decide +kernel
theorem dX1_begin_25 : decode cX1_begin 25 = .ok (.iconst 0, 1) := by decide +kernel
theorem dX1_begin_26 : decode cX1_begin 26 = .ok (.putfield 38, 3) := by decide +kernel
theorem dX1_begin_29 : decode cX1_begin 29 = .ok (.aload_n 0, 1) := by decide +kernel
theorem dX1_begin_30 : decode cX1_begin 30 = .ok (.invokevirtual 41, 3) := by decide +kernel
theorem dX1_begin_33 : decode cX1_begin 33 = .ok (.return_, 1) := by decide +kernel
theorem dX1_copyFrom_0 : decode cX1_copyFrom 0 = .ok (.aload_n 1, 1) := by decide +kernel
theorem dX1_copyFrom_1 : decode cX1_copyFrom 1 = .ok (.getfield 9, 3) := by decide +kernel
theorem dX1_copyFrom_4 : decode cX1_copyFrom 4 = .ok (.iconst 0, 1) := by decide +kernel
theorem dX1_copyFrom_5 : decode cX1_copyFrom 5 = .ok (.aload_n 0, 1) := by decide +kernel
theorem dX1_copyFrom_6 : decode cX1_copyFrom 6 = .ok (.getfield 9, 3) := by decide +kernel
theorem dX1_copyFrom_9 : decode cX1_copyFrom 9 = .ok (.iconst 0, 1) := by decide +kernel
theorem dX1_copyFrom_10 : decode cX1_copyFrom 10 = .ok (.aload_n 0, 1) := by decide +kernel
theorem dX1_copyFrom_11 : decode cX1_copyFrom 11 = .ok (.getfield 9, 3) := by decide +kernel
theorem dX1_copyFrom_14 : decode cX1_copyFrom 14 = .ok (.arraylength, 1) := by decide +kernel
theorem dX1_copyFrom_15 : decode cX1_copyFrom 15 = .ok (.invokestatic 44, 3) := by decide +kernel
theorem dX1_copyFrom_18 : decode cX1_copyFrom 18 = .ok (.aload_n 0, 1) := by decide +kernel
theorem dX1_copyFrom_19 : decode cX1_copyFrom 19 = .ok (.aload_n 1, 1) := by decide +kernel
theorem dX1_copyFrom_20 : decode cX1_copyFrom 20 = .ok (.getfield 15, 3) := by decide +kernel
theorem dX1_copyFrom_23 : decode cX1_copyFrom 23 = .ok (.putfield 15, 3) := by decide +kernel
theorem dX1_copyFrom_26 : decode cX1_copyFrom 26 = .ok (.aload_n 0, 1) := by decide +kernel
theorem dX1_copyFrom_27 : decode cX1_copyFrom 27 = .ok (.aload_n 1, 1) := by decide +kernel
theorem dX1_copyFrom_28 : decode cX1_copyFrom 28 = .ok (.getfield 32, 3) := by decide +kernel
theorem dX1_copyFrom_31 : decode cX1_copyFrom 31 = .ok (.putfield 32, 3) := by decide +kernel
theorem dX1_copyFrom_34 : decode cX1_copyFrom 34 = .ok (.aload_n 0, 1) := by decide +kernel
theorem dX1_copyFrom_35 : decode cX1_copyFrom 35 = .ok (.aload_n 1, 1) := by decide +kernel
theorem dX1_copyFrom_36 : decode cX1_copyFrom 36 = .ok (.getfield 35, 3) := by decide +kernel
theorem dX1_copyFrom_39 : decode cX1_copyFrom 39 = .ok (.putfield 35, 3) := by decide +kernel
theorem dX1_copyFrom_42 : decode cX1_copyFrom 42 = .ok (.aload_n 0, 1) := by decide +kernel
theorem dX1_copyFrom_43 : decode cX1_copyFrom 43 = .ok (.aload_n 1, 1) := by decide +kernel
theorem dX1_copyFrom_44 : decode cX1_copyFrom 44 = .ok (.getfield 38, 3) := by decide +kernel
theorem dX1_copyFrom_47 : decode cX1_copyFrom 47 = .ok (.putfield 38, 3) := by decide +kernel
theorem dX1_copyFrom_50 : decode cX1_copyFrom 50 = .ok (.aload_n 0, 1) := by decide +kernel
theorem dX1_copyFrom_51 : decode cX1_copyFrom 51 = .ok (.aload_n 1, 1) := by decide +kernel
theorem dX1_copyFrom_52 : decode cX1_copyFrom 52 = .ok (.getfield 50, 3) := by decide +kernel
theorem dX1_copyFrom_55 : decode cX1_copyFrom 55 = .ok (.putfield 50, 3) := by decide +kernel
theorem dX1_copyFrom_58 : decode cX1_copyFrom 58 = .ok (.return_, 1) := by decide +kernel
theorem dX1_moves_0 : decode cX1_moves 0 = .ok (.aload_n 0, 1) := by decide +kernel
theorem dX1_moves_1 : decode cX1_moves 1 = .ok (.getfield 32, 3) := by decide +kernel
theorem dX1_moves_4 : decode cX1_moves 4 = .ok (.ifCond .eq 14, 3) := by decide +kernel
theorem dX1_moves_7 : decode cX1_moves 7 = .ok (.aload_n 0, 1) := by decide +kernel
theorem dX1_moves_8 : decode cX1_moves 8 = .ok (.getfield 38, 3) := by decide +kernel
theorem dX1_moves_11 : decode cX1_moves 11 = .ok (.ifCond .ne 7, 3) := by decide +kernel
theorem dX1_moves_14 : decode cX1_moves 14 = .ok (.iconst 1, 1) := by decide +kernel
theorem dX1_moves_15 : decode cX1_moves 15 = .ok (.goto 4, 3) := by decide +kernel
theorem dX1_moves_18 : decode cX1_moves 18 = .ok (.iconst 0, 1) := by decide +kernel
theorem dX1_moves_19 : decode cX1_moves 19 = .ok (.ireturn, 1) := by decide +kernel
theorem dX1_startFloor_0 : decode cX1_startFloor 0 = .ok (.aload_n 0, 1) := by decide +kernel
theorem dX1_startFloor_1 : decode cX1_startFloor 1 = .ok (.getfield 32, 3) := by decide +kernel
theorem dX1_startFloor_4 : decode cX1_startFloor 4 = .ok (.iconst 2, 1) := by decide +kernel
theorem dX1_startFloor_5 : decode cX1_startFloor 5 = .ok (.if_icmp .ne 7, 3) := by decide +kernel
theorem dX1_startFloor_8 : decode cX1_startFloor 8 = .ok (.iconst 1, 1) := by decide +kernel
theorem dX1_startFloor_9 : decode cX1_startFloor 9 = .ok (.goto 4, 3) := by decide +kernel
theorem dX1_startFloor_12 : decode cX1_startFloor 12 = .ok (.iconst 0, 1) := by decide +kernel
theorem dX1_startFloor_13 : decode cX1_startFloor 13 = .ok (.ireturn, 1) := by decide +kernel
theorem dX1_endFloor_0 : decode cX1_endFloor 0 = .ok (.aload_n 0, 1) := by decide +kernel
theorem dX1_endFloor_1 : decode cX1_endFloor 1 = .ok (.getfield 32, 3) := by decide +kernel
theorem dX1_endFloor_4 : decode cX1_endFloor 4 = .ok (.iconst 2, 1) := by decide +kernel
theorem dX1_endFloor_5 : decode cX1_endFloor 5 = .ok (.if_icmp .ne 7, 3) := by decide +kernel
theorem dX1_endFloor_8 : decode cX1_endFloor 8 = .ok (.iconst 0, 1) := by decide +kernel
theorem dX1_endFloor_9 : decode cX1_endFloor 9 = .ok (.goto 4, 3) := by decide +kernel
theorem dX1_endFloor_12 : decode cX1_endFloor 12 = .ok (.iconst 1, 1) := by decide +kernel
theorem dX1_endFloor_13 : decode cX1_endFloor 13 = .ok (.ireturn, 1) := by decide +kernel
theorem dX1_who_0 : decode cX1_who 0 = .ok (.iconst 0, 1) := by decide +kernel
theorem dX1_who_1 : decode cX1_who 1 = .ok (.iload_n 1, 1) := by decide +kernel
theorem dX1_who_2 : decode cX1_who 2 = .ok (.if_icmp .gt 34, 3) := by decide +kernel
theorem dX1_who_5 : decode cX1_who 5 = .ok (.iload_n 1, 1) := by decide +kernel
theorem dX1_who_6 : decode cX1_who 6 = .ok (.aload_n 0, 1) := by decide +kernel
theorem dX1_who_7 : decode cX1_who 7 = .ok (.getfield 15, 3) := by decide +kernel
theorem dX1_who_10 : decode cX1_who 10 = .ok (.if_icmp .ge 26, 3) := by decide +kernel
theorem dX1_who_13 : decode cX1_who 13 = .ok (.iconst 0, 1) := by decide +kernel
theorem dX1_who_14 : decode cX1_who 14 = .ok (.iload_n 2, 1) := by decide +kernel
theorem dX1_who_15 : decode cX1_who 15 = .ok (.if_icmp .gt 21, 3) := by decide +kernel
theorem dX1_who_18 : decode cX1_who 18 = .ok (.iload_n 2, 1) := by decide +kernel
theorem dX1_who_19 : decode cX1_who 19 = .ok (.iconst 1, 1) := by decide +kernel
theorem dX1_who_20 : decode cX1_who 20 = .ok (.if_icmp .gt 16, 3) := by decide +kernel
theorem dX1_who_23 : decode cX1_who 23 = .ok (.aload_n 0, 1) := by decide +kernel
theorem dX1_who_24 : decode cX1_who 24 = .ok (.getfield 9, 3) := by decide +kernel
theorem dX1_who_27 : decode cX1_who 27 = .ok (.iconst 2, 1) := by decide +kernel
theorem dX1_who_28 : decode cX1_who 28 = .ok (.iload_n 1, 1) := by decide +kernel
theorem dX1_who_29 : decode cX1_who 29 = .ok (.imul, 1) := by decide +kernel
theorem dX1_who_30 : decode cX1_who 30 = .ok (.iload_n 2, 1) := by decide +kernel
theorem dX1_who_31 : decode cX1_who 31 = .ok (.iadd, 1) := by decide +kernel
theorem dX1_who_32 : decode cX1_who 32 = .ok (.iaload, 1) := by decide +kernel
theorem dX1_who_33 : decode cX1_who 33 = .ok (.goto 4, 3) := by decide +kernel
theorem dX1_who_36 : decode cX1_who 36 = .ok (.iconst (-1), 1) := by decide +kernel
theorem dX1_who_37 : decode cX1_who 37 = .ok (.ireturn, 1) := by decide +kernel
theorem dX1_put_0 : decode cX1_put 0 = .ok (.iconst 0, 1) := by decide +kernel
theorem dX1_put_1 : decode cX1_put 1 = .ok (.iload_n 1, 1) := by decide +kernel
theorem dX1_put_2 : decode cX1_put 2 = .ok (.if_icmp .gt 32, 3) := by decide +kernel
theorem dX1_put_5 : decode cX1_put 5 = .ok (.iload_n 1, 1) := by decide +kernel
theorem dX1_put_6 : decode cX1_put 6 = .ok (.aload_n 0, 1) := by decide +kernel
theorem dX1_put_7 : decode cX1_put 7 = .ok (.getfield 15, 3) := by decide +kernel
theorem dX1_put_10 : decode cX1_put 10 = .ok (.if_icmp .ge 24, 3) := by decide +kernel
theorem dX1_put_13 : decode cX1_put 13 = .ok (.iconst 0, 1) := by decide +kernel
theorem dX1_put_14 : decode cX1_put 14 = .ok (.iload_n 2, 1) := by decide +kernel
theorem dX1_put_15 : decode cX1_put 15 = .ok (.if_icmp .gt 19, 3) := by decide +kernel
theorem dX1_put_18 : decode cX1_put 18 = .ok (.iload_n 2, 1) := by decide +kernel
theorem dX1_put_19 : decode cX1_put 19 = .ok (.iconst 1, 1) := by decide +kernel
theorem dX1_put_20 : decode cX1_put 20 = .ok (.if_icmp .gt 14, 3) := by decide +kernel
theorem dX1_put_23 : decode cX1_put 23 = .ok (.aload_n 0, 1) := by decide +kernel
theorem dX1_put_24 : decode cX1_put 24 = .ok (.getfield 9, 3) := by decide +kernel
theorem dX1_put_27 : decode cX1_put 27 = .ok (.iconst 2, 1) := by decide +kernel
theorem dX1_put_28 : decode cX1_put 28 = .ok (.iload_n 1, 1) := by decide +kernel
theorem dX1_put_29 : decode cX1_put 29 = .ok (.imul, 1) := by decide +kernel
theorem dX1_put_30 : decode cX1_put 30 = .ok (.iload_n 2, 1) := by decide +kernel
theorem dX1_put_31 : decode cX1_put 31 = .ok (.iadd, 1) := by decide +kernel
theorem dX1_put_32 : decode cX1_put 32 = .ok (.iload_n 3, 1) := by decide +kernel
theorem dX1_put_33 : decode cX1_put 33 = .ok (.iastore, 1) := by decide +kernel
theorem dX1_put_34 : decode cX1_put 34 = .ok (.return_, 1) := by decide +kernel
theorem dX1_empty_0 : decode cX1_empty 0 = .ok (.aload_n 0, 1) := by decide +kernel
theorem dX1_empty_1 : decode cX1_empty 1 = .ok (.getfield 9, 3) := by decide +kernel
theorem dX1_empty_4 : decode cX1_empty 4 = .ok (.iconst (-1), 1) := by decide +kernel
theorem dX1_empty_5 : decode cX1_empty 5 = .ok (.invokestatic 53, 3) := by decide +kernel
theorem dX1_empty_8 : decode cX1_empty 8 = .ok (.aload_n 0, 1) := by decide +kernel
theorem dX1_empty_9 : decode cX1_empty 9 = .ok (.iconst 0, 1) := by decide +kernel
theorem dX1_empty_10 : decode cX1_empty 10 = .ok (.putfield 50, 3) := by decide +kernel
theorem dX1_empty_13 : decode cX1_empty 13 = .ok (.return_, 1) := by decide +kernel
theorem dX1_countOnLastStep_0 : decode cX1_countOnLastStep 0 = .ok (.aload_n 0, 1) := by decide +kernel
theorem dX1_countOnLastStep_1 : decode cX1_countOnLastStep 1 = .ok (.aload_n 0, 1) := by decide +kernel
theorem dX1_countOnLastStep_2 : decode cX1_countOnLastStep 2 = .ok (.getfield 15, 3) := by decide +kernel
theorem dX1_countOnLastStep_5 : decode cX1_countOnLastStep 5 = .ok (.iconst 1, 1) := by decide +kernel
theorem dX1_countOnLastStep_6 : decode cX1_countOnLastStep 6 = .ok (.isub, 1) := by decide +kernel
theorem dX1_countOnLastStep_7 : decode cX1_countOnLastStep 7 = .ok (.iconst 0, 1) := by decide +kernel
theorem dX1_countOnLastStep_8 : decode cX1_countOnLastStep 8 = .ok (.invokevirtual 59, 3) := by decide +kernel
theorem dX1_countOnLastStep_11 : decode cX1_countOnLastStep 11 = .ok (.istore_n 1, 1) := by decide +kernel
theorem dX1_countOnLastStep_12 : decode cX1_countOnLastStep 12 = .ok (.aload_n 0, 1) := by decide +kernel
theorem dX1_countOnLastStep_13 : decode cX1_countOnLastStep 13 = .ok (.aload_n 0, 1) := by decide +kernel
theorem dX1_countOnLastStep_14 : decode cX1_countOnLastStep 14 = .ok (.getfield 15, 3) := by decide +kernel
theorem dX1_countOnLastStep_17 : decode cX1_countOnLastStep 17 = .ok (.iconst 1, 1) := by decide +kernel
theorem dX1_countOnLastStep_18 : decode cX1_countOnLastStep 18 = .ok (.isub, 1) := by decide +kernel
theorem dX1_countOnLastStep_19 : decode cX1_countOnLastStep 19 = .ok (.iconst 1, 1) := by decide +kernel
theorem dX1_countOnLastStep_20 : decode cX1_countOnLastStep 20 = .ok (.invokevirtual 59, 3) := by decide +kernel
theorem dX1_countOnLastStep_23 : decode cX1_countOnLastStep 23 = .ok (.istore_n 2, 1) := by decide +kernel
theorem dX1_countOnLastStep_24 : decode cX1_countOnLastStep 24 = .ok (.iload_n 1, 1) := by decide +kernel
theorem dX1_countOnLastStep_25 : decode cX1_countOnLastStep 25 = .ok (.ifCond .ge 7, 3) := by decide +kernel
theorem dX1_countOnLastStep_28 : decode cX1_countOnLastStep 28 = .ok (.iconst 0, 1) := by decide +kernel
theorem dX1_countOnLastStep_29 : decode cX1_countOnLastStep 29 = .ok (.goto 4, 3) := by decide +kernel
theorem dX1_countOnLastStep_32 : decode cX1_countOnLastStep 32 = .ok (.iconst 1, 1) := by decide +kernel
theorem dX1_countOnLastStep_33 : decode cX1_countOnLastStep 33 = .ok (.istore_n 3, 1) := by decide +kernel
theorem dX1_countOnLastStep_34 : decode cX1_countOnLastStep 34 = .ok (.iload_n 2, 1) := by decide +kernel
theorem dX1_countOnLastStep_35 : decode cX1_countOnLastStep 35 = .ok (.ifCond .lt 8, 3) := by decide +kernel
theorem dX1_countOnLastStep_38 : decode cX1_countOnLastStep 38 = .ok (.iload_n 2, 1) := by decide +kernel
theorem dX1_countOnLastStep_39 : decode cX1_countOnLastStep 39 = .ok (.iload_n 1, 1) := by decide +kernel
theorem dX1_countOnLastStep_40 : decode cX1_countOnLastStep 40 = .ok (.if_icmp .ne 7, 3) := by decide +kernel
theorem dX1_countOnLastStep_43 : decode cX1_countOnLastStep 43 = .ok (.iload_n 3, 1) := by decide +kernel
theorem dX1_countOnLastStep_44 : decode cX1_countOnLastStep 44 = .ok (.goto 6, 3) := by decide +kernel
theorem dX1_countOnLastStep_47 : decode cX1_countOnLastStep 47 = .ok (.iload_n 3, 1) := by decide +kernel
theorem dX1_countOnLastStep_48 : decode cX1_countOnLastStep 48 = .ok (.iconst 1, 1) := by decide +kernel
theorem dX1_countOnLastStep_49 : decode cX1_countOnLastStep 49 = .ok (.iadd, 1) := by decide +kernel
theorem dX1_countOnLastStep_50 : decode cX1_countOnLastStep 50 = .ok (.ireturn, 1) := by decide +kernel
theorem dX1_goOneStep_0 : decode cX1_goOneStep 0 = .ok (.aload_n 0, 1) := by decide +kernel
theorem dX1_goOneStep_1 : decode cX1_goOneStep 1 = .ok (.getfield 9, 3) := by decide +kernel
theorem dX1_goOneStep_4 : decode cX1_goOneStep 4 = .ok (.iconst 0, 1) := by decide +kernel
theorem dX1_goOneStep_5 : decode cX1_goOneStep 5 = .ok (.aload_n 0, 1) := by decide +kernel
theorem dX1_goOneStep_6 : decode cX1_goOneStep 6 = .ok (.getfield 9, 3) := by decide +kernel
theorem dX1_goOneStep_9 : decode cX1_goOneStep 9 = .ok (.iconst 2, 1) := by decide +kernel
theorem dX1_goOneStep_10 : decode cX1_goOneStep 10 = .ok (.iconst 2, 1) := by decide +kernel
theorem dX1_goOneStep_11 : decode cX1_goOneStep 11 = .ok (.aload_n 0, 1) := by decide +kernel
theorem dX1_goOneStep_12 : decode cX1_goOneStep 12 = .ok (.getfield 15, 3) := by decide +kernel
theorem dX1_goOneStep_15 : decode cX1_goOneStep 15 = .ok (.iconst 1, 1) := by decide +kernel
theorem dX1_goOneStep_16 : decode cX1_goOneStep 16 = .ok (.isub, 1) := by decide +kernel
theorem dX1_goOneStep_17 : decode cX1_goOneStep 17 = .ok (.imul, 1) := by decide +kernel
theorem dX1_goOneStep_18 : decode cX1_goOneStep 18 = .ok (.invokestatic 44, 3) := by decide +kernel
theorem dX1_goOneStep_21 : decode cX1_goOneStep 21 = .ok (.aload_n 0, 1) := by decide +kernel
theorem dX1_goOneStep_22 : decode cX1_goOneStep 22 = .ok (.getfield 9, 3) := by decide +kernel
theorem dX1_goOneStep_25 : decode cX1_goOneStep 25 = .ok (.iconst 0, 1) := by decide +kernel
theorem dX1_goOneStep_26 : decode cX1_goOneStep 26 = .ok (.iconst (-1), 1) := by decide +kernel
theorem dX1_goOneStep_27 : decode cX1_goOneStep 27 = .ok (.iastore, 1) := by decide +kernel
theorem dX1_goOneStep_28 : decode cX1_goOneStep 28 = .ok (.aload_n 0, 1) := by decide +kernel
theorem dX1_goOneStep_29 : decode cX1_goOneStep 29 = .ok (.getfield 9, 3) := by decide +kernel
theorem dX1_goOneStep_32 : decode cX1_goOneStep 32 = .ok (.iconst 1, 1) := by decide +kernel
theorem dX1_goOneStep_33 : decode cX1_goOneStep 33 = .ok (.iconst (-1), 1) := by decide +kernel
theorem dX1_goOneStep_34 : decode cX1_goOneStep 34 = .ok (.iastore, 1) := by decide +kernel
theorem dX1_goOneStep_35 : decode cX1_goOneStep 35 = .ok (.return_, 1) := by decide +kernel
theorem dX1_turnRound_0 : decode cX1_turnRound 0 = .ok (.iconst 0, 1) := by decide +kernel
theorem dX1_turnRound_1 : decode cX1_turnRound 1 = .ok (.istore_n 1, 1) := by decide +kernel
theorem dX1_turnRound_2 : decode cX1_turnRound 2 = .ok (.aload_n 0, 1) := by decide +kernel
theorem dX1_turnRound_3 : decode cX1_turnRound 3 = .ok (.getfield 15, 3) := by decide +kernel
theorem dX1_turnRound_6 : decode cX1_turnRound 6 = .ok (.iconst 1, 1) := by decide +kernel
theorem dX1_turnRound_7 : decode cX1_turnRound 7 = .ok (.isub, 1) := by decide +kernel
theorem dX1_turnRound_8 : decode cX1_turnRound 8 = .ok (.istore_n 2, 1) := by decide +kernel
theorem dX1_turnRound_9 : decode cX1_turnRound 9 = .ok (.iload_n 1, 1) := by decide +kernel
theorem dX1_turnRound_10 : decode cX1_turnRound 10 = .ok (.iload_n 2, 1) := by decide +kernel
theorem dX1_turnRound_11 : decode cX1_turnRound 11 = .ok (.if_icmp .ge 53, 3) := by decide +kernel
theorem dX1_turnRound_14 : decode cX1_turnRound 14 = .ok (.iconst 0, 1) := by decide +kernel
theorem dX1_turnRound_15 : decode cX1_turnRound 15 = .ok (.istore_n 3, 1) := by decide +kernel
theorem dX1_turnRound_16 : decode cX1_turnRound 16 = .ok (.iload_n 3, 1) := by decide +kernel
theorem dX1_turnRound_17 : decode cX1_turnRound 17 = .ok (.iconst 1, 1) := by decide +kernel
theorem dX1_turnRound_18 : decode cX1_turnRound 18 = .ok (.if_icmp .gt 37, 3) := by decide +kernel
theorem dX1_turnRound_21 : decode cX1_turnRound 21 = .ok (.aload_n 0, 1) := by decide +kernel
theorem dX1_turnRound_22 : decode cX1_turnRound 22 = .ok (.iload_n 1, 1) := by decide +kernel
theorem dX1_turnRound_23 : decode cX1_turnRound 23 = .ok (.iload_n 3, 1) := by decide +kernel
theorem dX1_turnRound_24 : decode cX1_turnRound 24 = .ok (.invokevirtual 59, 3) := by decide +kernel
theorem dX1_turnRound_27 : decode cX1_turnRound 27 = .ok (.istore 4, 2) := by decide +kernel
theorem dX1_turnRound_29 : decode cX1_turnRound 29 = .ok (.aload_n 0, 1) := by decide +kernel
theorem dX1_turnRound_30 : decode cX1_turnRound 30 = .ok (.iload_n 1, 1) := by decide +kernel
theorem dX1_turnRound_31 : decode cX1_turnRound 31 = .ok (.iload_n 3, 1) := by decide +kernel
theorem dX1_turnRound_32 : decode cX1_turnRound 32 = .ok (.aload_n 0, 1) := by decide +kernel
theorem dX1_turnRound_33 : decode cX1_turnRound 33 = .ok (.iload_n 2, 1) := by decide +kernel
theorem dX1_turnRound_34 : decode cX1_turnRound 34 = .ok (.iload_n 3, 1) := by decide +kernel
theorem dX1_turnRound_35 : decode cX1_turnRound 35 = .ok (.invokevirtual 59, 3) := by decide +kernel
theorem dX1_turnRound_38 : decode cX1_turnRound 38 = .ok (.invokevirtual 62, 3) := by decide +kernel
theorem dX1_turnRound_41 : decode cX1_turnRound 41 = .ok (.aload_n 0, 1) := by decide +kernel
theorem dX1_turnRound_42 : decode cX1_turnRound 42 = .ok (.iload_n 2, 1) := by decide +kernel
theorem dX1_turnRound_43 : decode cX1_turnRound 43 = .ok (.iload_n 3, 1) := by decide +kernel
theorem dX1_turnRound_44 : decode cX1_turnRound 44 = .ok (.iload 4, 2) := by decide +kernel
theorem dX1_turnRound_46 : decode cX1_turnRound 46 = .ok (.invokevirtual 62, 3) := by decide +kernel
theorem dX1_turnRound_49 : decode cX1_turnRound 49 = .ok (.iinc 3 1, 3) := by decide +kernel
theorem dX1_turnRound_52 : decode cX1_turnRound 52 = .ok (.goto (-36), 3) := by decide +kernel
theorem dX1_turnRound_55 : decode cX1_turnRound 55 = .ok (.iinc 1 1, 3) := by decide +kernel
theorem dX1_turnRound_58 : decode cX1_turnRound 58 = .ok (.iinc 2 (-1), 3) := by decide +kernel
theorem dX1_turnRound_61 : decode cX1_turnRound 61 = .ok (.goto (-52), 3) := by decide +kernel
theorem dX1_turnRound_64 : decode cX1_turnRound 64 = .ok (.return_, 1) := by decide +kernel
theorem dX2_init_0 : decode cX2_init 0 = .ok (.aload_n 0, 1) := by decide +kernel
theorem dX2_init_1 : decode cX2_init 1 = .ok (.invokespecial 3, 3) := by decide +kernel
theorem dX2_init_4 : decode cX2_init 4 = .ok (.aload_n 0, 1) := by decide +kernel
theorem dX2_init_5 : decode cX2_init 5 = .ok (.iconst 3, 1) := by decide +kernel
theorem dX2_init_6 : decode cX2_init 6 = .ok (.iconst 3, 1) := by decide +kernel
theorem dX2_init_7 : decode cX2_init 7 = .ok (.multianewarray 9 2, 4) := by decide +kernel
theorem dX2_init_11 : decode cX2_init 11 = .ok (.putfield 11, 3) := by decide +kernel
theorem dX2_init_14 : decode cX2_init 14 = .ok (.aload_n 0, 1) := by decide +kernel
theorem dX2_init_15 : decode cX2_init 15 = .ok (.iconst 3, 1) := by decide +kernel
theorem dX2_init_16 : decode cX2_init 16 = .ok (.bipush 14, 2) := by decide +kernel
theorem dX2_init_18 : decode cX2_init 18 = .ok (.multianewarray 9 2, 4) := by decide +kernel
theorem dX2_init_22 : decode cX2_init 22 = .ok (.putfield 16, 3) := by decide +kernel
theorem dX2_init_25 : decode cX2_init 25 = .ok (.aload_n 0, 1) := by decide +kernel
theorem dX2_init_26 : decode cX2_init 26 = .ok (.getstatic 19, 3) := by decide +kernel
theorem dX2_init_29 : decode cX2_init 29 = .ok (.arraylength, 1) := by decide +kernel
theorem dX2_init_30 : decode cX2_init 30 = .ok (.newarray .int, 2) := by decide +kernel
theorem dX2_init_32 : decode cX2_init 32 = .ok (.putfield 23, 3) := by decide +kernel
theorem dX2_init_35 : decode cX2_init 35 = .ok (.getstatic 19, 3) := by decide +kernel
theorem dX2_init_38 : decode cX2_init 38 = .ok (.iconst 0, 1) := by decide +kernel
theorem dX2_init_39 : decode cX2_init 39 = .ok (.aload_n 0, 1) := by decide +kernel
theorem dX2_init_40 : decode cX2_init 40 = .ok (.getfield 23, 3) := by decide +kernel
theorem dX2_init_43 : decode cX2_init 43 = .ok (.iconst 0, 1) := by decide +kernel
theorem dX2_init_44 : decode cX2_init 44 = .ok (.aload_n 0, 1) := by decide +kernel
theorem dX2_init_45 : decode cX2_init 45 = .ok (.getfield 23, 3) := by decide +kernel
theorem dX2_init_48 : decode cX2_init 48 = .ok (.arraylength, 1) := by decide +kernel
theorem dX2_init_49 : decode cX2_init 49 = .ok (.invokestatic 26, 3) := by decide +kernel
theorem dX2_init_52 : decode cX2_init 52 = .ok (.return_, 1) := by decide +kernel
theorem dX2_copyFrom_0 : decode cX2_copyFrom 0 = .ok (.iconst 0, 1) := by decide +kernel
theorem dX2_copyFrom_1 : decode cX2_copyFrom 1 = .ok (.istore_n 2, 1) := by decide +kernel
theorem dX2_copyFrom_2 : decode cX2_copyFrom 2 = .ok (.iload_n 2, 1) := by decide +kernel
theorem dX2_copyFrom_3 : decode cX2_copyFrom 3 = .ok (.iconst 3, 1) := by decide +kernel
theorem dX2_copyFrom_4 : decode cX2_copyFrom 4 = .ok (.if_icmp .ge 46, 3) := by decide +kernel
theorem dX2_copyFrom_7 : decode cX2_copyFrom 7 = .ok (.aload_n 1, 1) := by decide +kernel
theorem dX2_copyFrom_8 : decode cX2_copyFrom 8 = .ok (.getfield 11, 3) := by decide +kernel
theorem dX2_copyFrom_11 : decode cX2_copyFrom 11 = .ok (.iload_n 2, 1) := by decide +kernel
theorem dX2_copyFrom_12 : decode cX2_copyFrom 12 = .ok (.aaload, 1) := by decide +kernel
theorem dX2_copyFrom_13 : decode cX2_copyFrom 13 = .ok (.iconst 0, 1) := by decide +kernel
theorem dX2_copyFrom_14 : decode cX2_copyFrom 14 = .ok (.aload_n 0, 1) := by decide +kernel
theorem dX2_copyFrom_15 : decode cX2_copyFrom 15 = .ok (.getfield 11, 3) := by decide +kernel
theorem dX2_copyFrom_18 : decode cX2_copyFrom 18 = .ok (.iload_n 2, 1) := by decide +kernel
theorem dX2_copyFrom_19 : decode cX2_copyFrom 19 = .ok (.aaload, 1) := by decide +kernel
theorem dX2_copyFrom_20 : decode cX2_copyFrom 20 = .ok (.iconst 0, 1) := by decide +kernel
theorem dX2_copyFrom_21 : decode cX2_copyFrom 21 = .ok (.iconst 3, 1) := by decide +kernel
theorem dX2_copyFrom_22 : decode cX2_copyFrom 22 = .ok (.invokestatic 26, 3) := by decide +kernel
theorem dX2_copyFrom_25 : decode cX2_copyFrom 25 = .ok (.aload_n 1, 1) := by decide +kernel
theorem dX2_copyFrom_26 : decode cX2_copyFrom 26 = .ok (.getfield 16, 3) := by decide +kernel
theorem dX2_copyFrom_29 : decode cX2_copyFrom 29 = .ok (.iload_n 2, 1) := by decide +kernel
theorem dX2_copyFrom_30 : decode cX2_copyFrom 30 = .ok (.aaload, 1) := by decide +kernel
theorem dX2_copyFrom_31 : decode cX2_copyFrom 31 = .ok (.iconst 0, 1) := by decide +kernel
theorem dX2_copyFrom_32 : decode cX2_copyFrom 32 = .ok (.aload_n 0, 1) := by decide +kernel
theorem dX2_copyFrom_33 : decode cX2_copyFrom 33 = .ok (.getfield 16, 3) := by decide +kernel
theorem dX2_copyFrom_36 : decode cX2_copyFrom 36 = .ok (.iload_n 2, 1) := by decide +kernel
theorem dX2_copyFrom_37 : decode cX2_copyFrom 37 = .ok (.aaload, 1) := by decide +kernel
theorem dX2_copyFrom_38 : decode cX2_copyFrom 38 = .ok (.iconst 0, 1) := by decide +kernel
theorem dX2_copyFrom_39 : decode cX2_copyFrom 39 = .ok (.bipush 14, 2) := by decide +kernel
theorem dX2_copyFrom_41 : decode cX2_copyFrom 41 = .ok (.invokestatic 26, 3) := by decide +kernel
theorem dX2_copyFrom_44 : decode cX2_copyFrom 44 = .ok (.iinc 2 1, 3) := by decide +kernel
theorem dX2_copyFrom_47 : decode cX2_copyFrom 47 = .ok (.goto (-45), 3) := by decide +kernel
theorem dX2_copyFrom_50 : decode cX2_copyFrom 50 = .ok (.aload_n 1, 1) := by decide +kernel
theorem dX2_copyFrom_51 : decode cX2_copyFrom 51 = .ok (.getfield 23, 3) := by decide +kernel
theorem dX2_copyFrom_54 : decode cX2_copyFrom 54 = .ok (.iconst 0, 1) := by decide +kernel
theorem dX2_copyFrom_55 : decode cX2_copyFrom 55 = .ok (.aload_n 0, 1) := by decide +kernel
theorem dX2_copyFrom_56 : decode cX2_copyFrom 56 = .ok (.getfield 23, 3) := by decide +kernel
theorem dX2_copyFrom_59 : decode cX2_copyFrom 59 = .ok (.iconst 0, 1) := by decide +kernel
theorem dX2_copyFrom_60 : decode cX2_copyFrom 60 = .ok (.aload_n 0, 1) := by decide +kernel
theorem dX2_copyFrom_61 : decode cX2_copyFrom 61 = .ok (.getfield 23, 3) := by decide +kernel
theorem dX2_copyFrom_64 : decode cX2_copyFrom 64 = .ok (.arraylength, 1) := by decide +kernel
theorem dX2_copyFrom_65 : decode cX2_copyFrom 65 = .ok (.invokestatic 26, 3) := by decide +kernel
theorem dX2_copyFrom_68 : decode cX2_copyFrom 68 = .ok (.aload_n 0, 1) := by decide +kernel
theorem dX2_copyFrom_69 : decode cX2_copyFrom 69 = .ok (.aload_n 1, 1) := by decide +kernel
theorem dX2_copyFrom_70 : decode cX2_copyFrom 70 = .ok (.getfield 32, 3) := by decide +kernel
theorem dX2_copyFrom_73 : decode cX2_copyFrom 73 = .ok (.putfield 32, 3) := by decide +kernel
theorem dX2_copyFrom_76 : decode cX2_copyFrom 76 = .ok (.aload_n 0, 1) := by decide +kernel
theorem dX2_copyFrom_77 : decode cX2_copyFrom 77 = .ok (.aload_n 1, 1) := by decide +kernel
theorem dX2_copyFrom_78 : decode cX2_copyFrom 78 = .ok (.getfield 36, 3) := by decide +kernel
theorem dX2_copyFrom_81 : decode cX2_copyFrom 81 = .ok (.putfield 36, 3) := by decide +kernel
theorem dX2_copyFrom_84 : decode cX2_copyFrom 84 = .ok (.aload_n 0, 1) := by decide +kernel
theorem dX2_copyFrom_85 : decode cX2_copyFrom 85 = .ok (.aload_n 1, 1) := by decide +kernel
theorem dX2_copyFrom_86 : decode cX2_copyFrom 86 = .ok (.getfield 39, 3) := by decide +kernel
theorem dX2_copyFrom_89 : decode cX2_copyFrom 89 = .ok (.putfield 39, 3) := by decide +kernel
theorem dX2_copyFrom_92 : decode cX2_copyFrom 92 = .ok (.aload_n 0, 1) := by decide +kernel
theorem dX2_copyFrom_93 : decode cX2_copyFrom 93 = .ok (.aload_n 1, 1) := by decide +kernel
theorem dX2_copyFrom_94 : decode cX2_copyFrom 94 = .ok (.getfield 42, 3) := by decide +kernel
theorem dX2_copyFrom_97 : decode cX2_copyFrom 97 = .ok (.putfield 42, 3) := by decide +kernel
theorem dX2_copyFrom_100 : decode cX2_copyFrom 100 = .ok (.return_, 1) := by decide +kernel
theorem dX2_addPerson_0 : decode cX2_addPerson 0 = .ok (.aload_n 0, 1) := by decide +kernel
theorem dX2_addPerson_1 : decode cX2_addPerson 1 = .ok (.getfield 36, 3) := by decide +kernel
theorem dX2_addPerson_4 : decode cX2_addPerson 4 = .ok (.bipush 14, 2) := by decide +kernel
theorem dX2_addPerson_6 : decode cX2_addPerson 6 = .ok (.if_icmp .ge 49, 3) := by decide +kernel
theorem dX2_addPerson_9 : decode cX2_addPerson 9 = .ok (.aload_n 0, 1) := by decide +kernel
theorem dX2_addPerson_10 : decode cX2_addPerson 10 = .ok (.getfield 16, 3) := by decide +kernel
theorem dX2_addPerson_13 : decode cX2_addPerson 13 = .ok (.iconst 0, 1) := by decide +kernel
theorem dX2_addPerson_14 : decode cX2_addPerson 14 = .ok (.aaload, 1) := by decide +kernel
theorem dX2_addPerson_15 : decode cX2_addPerson 15 = .ok (.aload_n 0, 1) := by decide +kernel
theorem dX2_addPerson_16 : decode cX2_addPerson 16 = .ok (.getfield 36, 3) := by decide +kernel
theorem dX2_addPerson_19 : decode cX2_addPerson 19 = .ok (.iload_n 1, 1) := by decide +kernel
theorem dX2_addPerson_20 : decode cX2_addPerson 20 = .ok (.iastore, 1) := by decide +kernel
theorem dX2_addPerson_21 : decode cX2_addPerson 21 = .ok (.aload_n 0, 1) := by decide +kernel
theorem dX2_addPerson_22 : decode cX2_addPerson 22 = .ok (.getfield 16, 3) := by decide +kernel
theorem dX2_addPerson_25 : decode cX2_addPerson 25 = .ok (.iconst 1, 1) := by decide +kernel
theorem dX2_addPerson_26 : decode cX2_addPerson 26 = .ok (.aaload, 1) := by decide +kernel
theorem dX2_addPerson_27 : decode cX2_addPerson 27 = .ok (.aload_n 0, 1) := by decide +kernel
theorem dX2_addPerson_28 : decode cX2_addPerson 28 = .ok (.getfield 36, 3) := by decide +kernel
theorem dX2_addPerson_31 : decode cX2_addPerson 31 = .ok (.iload_n 2, 1) := by decide +kernel
theorem dX2_addPerson_32 : decode cX2_addPerson 32 = .ok (.iastore, 1) := by decide +kernel
theorem dX2_addPerson_33 : decode cX2_addPerson 33 = .ok (.aload_n 0, 1) := by decide +kernel
theorem dX2_addPerson_34 : decode cX2_addPerson 34 = .ok (.getfield 16, 3) := by decide +kernel
theorem dX2_addPerson_37 : decode cX2_addPerson 37 = .ok (.iconst 2, 1) := by decide +kernel
theorem dX2_addPerson_38 : decode cX2_addPerson 38 = .ok (.aaload, 1) := by decide +kernel
theorem dX2_addPerson_39 : decode cX2_addPerson 39 = .ok (.aload_n 0, 1) := by decide +kernel
theorem dX2_addPerson_40 : decode cX2_addPerson 40 = .ok (.getfield 36, 3) := by decide +kernel
theorem dX2_addPerson_43 : decode cX2_addPerson 43 = .ok (.iload_n 3, 1) := by decide +kernel
theorem dX2_addPerson_44 : decode cX2_addPerson 44 = .ok (.iastore, 1) := by decide +kernel
theorem dX2_addPerson_45 : decode cX2_addPerson 45 = .ok (.aload_n 0, 1) := by decide +kernel
theorem dX2_addPerson_46 : decode cX2_addPerson 46 = .ok (.dup, 1) := by decide +kernel
theorem dX2_addPerson_47 : decode cX2_addPerson 47 = .ok (.getfield 36, 3) := by decide +kernel
theorem dX2_addPerson_50 : decode cX2_addPerson 50 = .ok (.iconst 1, 1) := by decide +kernel
theorem dX2_addPerson_51 : decode cX2_addPerson 51 = .ok (.iadd, 1) := by decide +kernel
theorem dX2_addPerson_52 : decode cX2_addPerson 52 = .ok (.putfield 36, 3) := by decide +kernel
theorem dX2_addPerson_55 : decode cX2_addPerson 55 = .ok (.return_, 1) := by decide +kernel
theorem dX2_removePerson_0 : decode cX2_removePerson 0 = .ok (.iload_n 1, 1) := by decide +kernel
theorem dX2_removePerson_1 : decode cX2_removePerson 1 = .ok (.iconst 1, 1) := by decide +kernel
theorem dX2_removePerson_2 : decode cX2_removePerson 2 = .ok (.iadd, 1) := by decide +kernel
theorem dX2_removePerson_3 : decode cX2_removePerson 3 = .ok (.istore_n 2, 1) := by decide +kernel
theorem dX2_removePerson_4 : decode cX2_removePerson 4 = .ok (.iload_n 2, 1) := by decide +kernel
theorem dX2_removePerson_5 : decode cX2_removePerson 5 = .ok (.aload_n 0, 1) := by decide +kernel
theorem dX2_removePerson_6 : decode cX2_removePerson 6 = .ok (.getfield 36, 3) := by decide +kernel
theorem dX2_removePerson_9 : decode cX2_removePerson 9 = .ok (.if_icmp .ge 40, 3) := by decide +kernel
theorem dX2_removePerson_12 : decode cX2_removePerson 12 = .ok (.iconst 0, 1) := by decide +kernel
theorem dX2_removePerson_13 : decode cX2_removePerson 13 = .ok (.istore_n 3, 1) := by decide +kernel
theorem dX2_removePerson_14 : decode cX2_removePerson 14 = .ok (.iload_n 3, 1) := by decide +kernel
theorem dX2_removePerson_15 : decode cX2_removePerson 15 = .ok (.iconst 3, 1) := by decide +kernel
theorem dX2_removePerson_16 : decode cX2_removePerson 16 = .ok (.if_icmp .ge 27, 3) := by decide +kernel
theorem dX2_removePerson_19 : decode cX2_removePerson 19 = .ok (.aload_n 0, 1) := by decide +kernel
theorem dX2_removePerson_20 : decode cX2_removePerson 20 = .ok (.getfield 16, 3) := by decide +kernel
theorem dX2_removePerson_23 : decode cX2_removePerson 23 = .ok (.iload_n 3, 1) := by decide +kernel
theorem dX2_removePerson_24 : decode cX2_removePerson 24 = .ok (.aaload, 1) := by decide +kernel
theorem dX2_removePerson_25 : decode cX2_removePerson 25 = .ok (.iload_n 2, 1) := by decide +kernel
theorem dX2_removePerson_26 : decode cX2_removePerson 26 = .ok (.iconst 1, 1) := by decide +kernel
theorem dX2_removePerson_27 : decode cX2_removePerson 27 = .ok (.isub, 1) := by decide +kernel
theorem dX2_removePerson_28 : decode cX2_removePerson 28 = .ok (.aload_n 0, 1) := by decide +kernel
theorem dX2_removePerson_29 : decode cX2_removePerson 29 = .ok (.getfield 16, 3) := by decide +kernel
theorem dX2_removePerson_32 : decode cX2_removePerson 32 = .ok (.iload_n 3, 1) := by decide +kernel
theorem dX2_removePerson_33 : decode cX2_removePerson 33 = .ok (.aaload, 1) := by decide +kernel
theorem dX2_removePerson_34 : decode cX2_removePerson 34 = .ok (.iload_n 2, 1) := by decide +kernel
theorem dX2_removePerson_35 : decode cX2_removePerson 35 = .ok (.iaload, 1) := by decide +kernel
theorem dX2_removePerson_36 : decode cX2_removePerson 36 = .ok (.iastore, 1) := by decide +kernel
theorem dX2_removePerson_37 : decode cX2_removePerson 37 = .ok (.iinc 3 1, 3) := by decide +kernel
theorem dX2_removePerson_40 : decode cX2_removePerson 40 = .ok (.goto (-26), 3) := by decide +kernel
theorem dX2_removePerson_43 : decode cX2_removePerson 43 = .ok (.iinc 2 1, 3) := by decide +kernel
theorem dX2_removePerson_46 : decode cX2_removePerson 46 = .ok (.goto (-42), 3) := by decide +kernel
theorem dX2_removePerson_49 : decode cX2_removePerson 49 = .ok (.aload_n 0, 1) := by decide +kernel
theorem dX2_removePerson_50 : decode cX2_removePerson 50 = .ok (.dup, 1) := by decide +kernel
theorem dX2_removePerson_51 : decode cX2_removePerson 51 = .ok (.getfield 36, 3) := by decide +kernel
theorem dX2_removePerson_54 : decode cX2_removePerson 54 = .ok (.iconst 1, 1) := by decide +kernel
theorem dX2_removePerson_55 : decode cX2_removePerson 55 = .ok (.isub, 1) := by decide +kernel
theorem dX2_removePerson_56 : decode cX2_removePerson 56 = .ok (.putfield 36, 3) := by decide +kernel
theorem dX2_removePerson_59 : decode cX2_removePerson 59 = .ok (.return_, 1) := by decide +kernel
theorem dX2_countUp_0 : decode cX2_countUp 0 = .ok (.iconst 0, 1) := by decide +kernel
theorem dX2_countUp_1 : decode cX2_countUp 1 = .ok (.istore_n 1, 1) := by decide +kernel
theorem dX2_countUp_2 : decode cX2_countUp 2 = .ok (.iconst 0, 1) := by decide +kernel
theorem dX2_countUp_3 : decode cX2_countUp 3 = .ok (.istore_n 2, 1) := by decide +kernel
theorem dX2_countUp_4 : decode cX2_countUp 4 = .ok (.iload_n 2, 1) := by decide +kernel
theorem dX2_countUp_5 : decode cX2_countUp 5 = .ok (.aload_n 0, 1) := by decide +kernel
theorem dX2_countUp_6 : decode cX2_countUp 6 = .ok (.getfield 36, 3) := by decide +kernel
theorem dX2_countUp_9 : decode cX2_countUp 9 = .ok (.if_icmp .ge 28, 3) := by decide +kernel
theorem dX2_countUp_12 : decode cX2_countUp 12 = .ok (.iload_n 1, 1) := by decide +kernel
theorem dX2_countUp_13 : decode cX2_countUp 13 = .ok (.aload_n 0, 1) := by decide +kernel
theorem dX2_countUp_14 : decode cX2_countUp 14 = .ok (.getfield 16, 3) := by decide +kernel
theorem dX2_countUp_17 : decode cX2_countUp 17 = .ok (.iconst 1, 1) := by decide +kernel
theorem dX2_countUp_18 : decode cX2_countUp 18 = .ok (.aaload, 1) := by decide +kernel
theorem dX2_countUp_19 : decode cX2_countUp 19 = .ok (.iload_n 2, 1) := by decide +kernel
theorem dX2_countUp_20 : decode cX2_countUp 20 = .ok (.iaload, 1) := by decide +kernel
theorem dX2_countUp_21 : decode cX2_countUp 21 = .ok (.ifCond .ne 7, 3) := by decide +kernel
theorem dX2_countUp_24 : decode cX2_countUp 24 = .ok (.iconst 1, 1) := by decide +kernel
theorem dX2_countUp_25 : decode cX2_countUp 25 = .ok (.goto 4, 3) := by decide +kernel
theorem dX2_countUp_28 : decode cX2_countUp 28 = .ok (.iconst 0, 1) := by decide +kernel
theorem dX2_countUp_29 : decode cX2_countUp 29 = .ok (.iadd, 1) := by decide +kernel
theorem dX2_countUp_30 : decode cX2_countUp 30 = .ok (.istore_n 1, 1) := by decide +kernel
theorem dX2_countUp_31 : decode cX2_countUp 31 = .ok (.iinc 2 1, 3) := by decide +kernel
theorem dX2_countUp_34 : decode cX2_countUp 34 = .ok (.goto (-30), 3) := by decide +kernel
theorem dX2_countUp_37 : decode cX2_countUp 37 = .ok (.iload_n 1, 1) := by decide +kernel
theorem dX2_countUp_38 : decode cX2_countUp 38 = .ok (.ireturn, 1) := by decide +kernel
theorem dX3_init_0 : decode cX3_init 0 = .ok (.aload_n 0, 1) := by decide +kernel
theorem dX3_init_1 : decode cX3_init 1 = .ok (.invokespecial 3, 3) := by decide +kernel
theorem dX3_init_4 : decode cX3_init 4 = .ok (.aload_n 0, 1) := by decide +kernel
theorem dX3_init_5 : decode cX3_init 5 = .ok (.iconst 0, 1) := by decide +kernel
theorem dX3_init_6 : decode cX3_init 6 = .ok (.iconst 0, 1) := by decide +kernel
theorem dX3_init_7 : decode cX3_init 7 = .ok (.iconst 0, 1) := by decide +kernel
theorem dX3_init_8 : decode cX3_init 8 = .ok (.invokevirtual 9, 3) := by decide +kernel
theorem dX3_init_11 : decode cX3_init 11 = .ok (.return_, 1) := by decide +kernel
theorem dX3_begin_0 : decode cX3_begin 0 = .ok (.aload_n 0, 1) := by decide +kernel
theorem dX3_begin_1 : decode cX3_begin 1 = .ok (.iload_n 1, 1) := by decide +kernel
theorem dX3_begin_2 : decode cX3_begin 2 = .ok (.putfield 15, 3) := by decide +kernel
theorem dX3_begin_5 : decode cX3_begin 5 = .ok (.aload_n 0, 1) := by decide +kernel
theorem dX3_begin_6 : decode cX3_begin 6 = .ok (.iload_n 2, 1) := by decide +kernel
theorem dX3_begin_7 : decode cX3_begin 7 = .ok (.putfield 19, 3) := by decide +kernel
theorem dX3_begin_10 : decode cX3_begin 10 = .ok (.aload_n 0, 1) := by decide +kernel
theorem dX3_begin_11 : decode cX3_begin 11 = .ok (.iload_n 3, 1) := by decide +kernel
theorem dX3_begin_12 : decode cX3_begin 12 = .ok (.putfield 22, 3) := by decide +kernel
theorem dX3_begin_15 : decode cX3_begin 15 = .ok (.aload_n 0, 1) := by decide +kernel
theorem dX3_begin_16 : decode cX3_begin 16 = .ok (.iload_n 3, 1) := by decide +kernel
theorem dX3_begin_17 : decode cX3_begin 17 = .ok (.invokestatic 25, 3) := by decide +kernel
theorem dX3_begin_20 : decode cX3_begin 20 = .ok (.putfield 29, 3) := by decide +kernel
theorem dX3_begin_23 : decode cX3_begin 23 = .ok (.aload_n 0, 1) := by decide +kernel
theorem dX3_begin_24 : decode cX3_begin 24 = .ok (.iconst 4, 1) := by decide +kernel
theorem dX3_begin_25 : decode cX3_begin 25 = .ok (.putfield 32, 3) := by decide +kernel
theorem dX3_begin_28 : decode cX3_begin 28 = .ok (.aload_n 0, 1) := by decide +kernel
theorem dX3_begin_29 : decode cX3_begin 29 = .ok (.bipush (-4), 2) := by decide +kernel
theorem dX3_begin_31 : decode cX3_begin 31 = .ok (.putfield 35, 3) := by decide +kernel
theorem dX3_begin_34 : decode cX3_begin 34 = .ok (.aload_n 0, 1) := by decide +kernel
theorem dX3_begin_35 : decode cX3_begin 35 = .ok (.bipush (-4), 2) := by decide +kernel
theorem dX3_begin_37 : decode cX3_begin 37 = .ok (.putfield 38, 3) := by decide +kernel
theorem dX3_begin_40 : decode cX3_begin 40 = .ok (.aload_n 0, 1) := by decide +kernel
theorem dX3_begin_41 : decode cX3_begin 41 = .ok (.bipush (-4), 2) := by decide +kernel
theorem dX3_begin_43 : decode cX3_begin 43 = .ok (.putfield 41, 3) := by decide +kernel
theorem dX3_begin_46 : decode cX3_begin 46 = .ok (.aload_n 0, 1) := by decide +kernel
theorem dX3_begin_47 : decode cX3_begin 47 = .ok (.bipush (-4), 2) := by decide +kernel
theorem dX3_begin_49 : decode cX3_begin 49 = .ok (.putfield 44, 3) := by decide +kernel
theorem dX3_begin_52 : decode cX3_begin 52 = .ok (.aload_n 0, 1) := by decide +kernel
theorem dX3_begin_53 : decode cX3_begin 53 = .ok (.bipush (-4), 2) := by decide +kernel
theorem dX3_begin_55 : decode cX3_begin 55 = .ok (.putfield 47, 3) := by decide +kernel
theorem dX3_begin_58 : decode cX3_begin 58 = .ok (.aload_n 0, 1) := by decide +kernel
theorem dX3_begin_59 : decode cX3_begin 59 = .ok (.iconst 0, 1) := by decide +kernel
theorem dX3_begin_60 : decode cX3_begin 60 = .ok (.putfield 50, 3) := by decide +kernel
theorem dX3_begin_63 : decode cX3_begin 63 = .ok (.return_, 1) := by decide +kernel
theorem dX3_copyFrom_0 : decode cX3_copyFrom 0 = .ok (.aload_n 0, 1) := by decide +kernel
theorem dX3_copyFrom_1 : decode cX3_copyFrom 1 = .ok (.aload_n 1, 1) := by decide +kernel
theorem dX3_copyFrom_2 : decode cX3_copyFrom 2 = .ok (.getfield 15, 3) := by decide +kernel
theorem dX3_copyFrom_5 : decode cX3_copyFrom 5 = .ok (.putfield 15, 3) := by decide +kernel
theorem dX3_copyFrom_8 : decode cX3_copyFrom 8 = .ok (.aload_n 0, 1) := by decide +kernel
theorem dX3_copyFrom_9 : decode cX3_copyFrom 9 = .ok (.aload_n 1, 1) := by decide +kernel
theorem dX3_copyFrom_10 : decode cX3_copyFrom 10 = .ok (.getfield 19, 3) := by decide +kernel
theorem dX3_copyFrom_13 : decode cX3_copyFrom 13 = .ok (.putfield 19, 3) := by decide +kernel
theorem dX3_copyFrom_16 : decode cX3_copyFrom 16 = .ok (.aload_n 0, 1) := by decide +kernel
theorem dX3_copyFrom_17 : decode cX3_copyFrom 17 = .ok (.aload_n 1, 1) := by decide +kernel
theorem dX3_copyFrom_18 : decode cX3_copyFrom 18 = .ok (.getfield 22, 3) := by decide +kernel
theorem dX3_copyFrom_21 : decode cX3_copyFrom 21 = .ok (.putfield 22, 3) := by decide +kernel
theorem dX3_copyFrom_24 : decode cX3_copyFrom 24 = .ok (.aload_n 0, 1) := by decide +kernel
theorem dX3_copyFrom_25 : decode cX3_copyFrom 25 = .ok (.aload_n 1, 1) := by decide +kernel
theorem dX3_copyFrom_26 : decode cX3_copyFrom 26 = .ok (.getfield 29, 3) := by decide +kernel
theorem dX3_copyFrom_29 : decode cX3_copyFrom 29 = .ok (.putfield 29, 3) := by decide +kernel
theorem dX3_copyFrom_32 : decode cX3_copyFrom 32 = .ok (.aload_n 0, 1) := by decide +kernel
theorem dX3_copyFrom_33 : decode cX3_copyFrom 33 = .ok (.aload_n 1, 1) := by decide +kernel
theorem dX3_copyFrom_34 : decode cX3_copyFrom 34 = .ok (.getfield 32, 3) := by decide +kernel
theorem dX3_copyFrom_37 : decode cX3_copyFrom 37 = .ok (.putfield 32, 3) := by decide +kernel
theorem dX3_copyFrom_40 : decode cX3_copyFrom 40 = .ok (.aload_n 0, 1) := by decide +kernel
theorem dX3_copyFrom_41 : decode cX3_copyFrom 41 = .ok (.aload_n 1, 1) := by decide +kernel
theorem dX3_copyFrom_42 : decode cX3_copyFrom 42 = .ok (.getfield 35, 3) := by decide +kernel
theorem dX3_copyFrom_45 : decode cX3_copyFrom 45 = .ok (.putfield 35, 3) := by decide +kernel
theorem dX3_copyFrom_48 : decode cX3_copyFrom 48 = .ok (.aload_n 0, 1) := by decide +kernel
theorem dX3_copyFrom_49 : decode cX3_copyFrom 49 = .ok (.aload_n 1, 1) := by decide +kernel
theorem dX3_copyFrom_50 : decode cX3_copyFrom 50 = .ok (.getfield 38, 3) := by decide +kernel
theorem dX3_copyFrom_53 : decode cX3_copyFrom 53 = .ok (.putfield 38, 3) := by decide +kernel
theorem dX3_copyFrom_56 : decode cX3_copyFrom 56 = .ok (.aload_n 0, 1) := by decide +kernel
theorem dX3_copyFrom_57 : decode cX3_copyFrom 57 = .ok (.aload_n 1, 1) := by decide +kernel
theorem dX3_copyFrom_58 : decode cX3_copyFrom 58 = .ok (.getfield 41, 3) := by decide +kernel
theorem dX3_copyFrom_61 : decode cX3_copyFrom 61 = .ok (.putfield 41, 3) := by decide +kernel
theorem dX3_copyFrom_64 : decode cX3_copyFrom 64 = .ok (.aload_n 0, 1) := by decide +kernel
theorem dX3_copyFrom_65 : decode cX3_copyFrom 65 = .ok (.aload_n 1, 1) := by decide +kernel
theorem dX3_copyFrom_66 : decode cX3_copyFrom 66 = .ok (.getfield 44, 3) := by decide +kernel
theorem dX3_copyFrom_69 : decode cX3_copyFrom 69 = .ok (.putfield 44, 3) := by decide +kernel
theorem dX3_copyFrom_72 : decode cX3_copyFrom 72 = .ok (.aload_n 0, 1) := by decide +kernel
theorem dX3_copyFrom_73 : decode cX3_copyFrom 73 = .ok (.aload_n 1, 1) := by decide +kernel
theorem dX3_copyFrom_74 : decode cX3_copyFrom 74 = .ok (.getfield 47, 3) := by decide +kernel
theorem dX3_copyFrom_77 : decode cX3_copyFrom 77 = .ok (.putfield 47, 3) := by decide +kernel
theorem dX3_copyFrom_80 : decode cX3_copyFrom 80 = .ok (.aload_n 0, 1) := by decide +kernel
theorem dX3_copyFrom_81 : decode cX3_copyFrom 81 = .ok (.aload_n 1, 1) := by decide +kernel
theorem dX3_copyFrom_82 : decode cX3_copyFrom 82 = .ok (.getfield 50, 3) := by decide +kernel
theorem dX3_copyFrom_85 : decode cX3_copyFrom 85 = .ok (.putfield 50, 3) := by decide +kernel
theorem dX3_copyFrom_88 : decode cX3_copyFrom 88 = .ok (.return_, 1) := by decide +kernel
theorem dX3_goThrough_0 : decode cX3_goThrough 0 = .ok (.aload_n 0, 1) := by decide +kernel
theorem dX3_goThrough_1 : decode cX3_goThrough 1 = .ok (.iconst 3, 1) := by decide +kernel
theorem dX3_goThrough_2 : decode cX3_goThrough 2 = .ok (.putfield 32, 3) := by decide +kernel
theorem dX3_goThrough_5 : decode cX3_goThrough 5 = .ok (.aload_n 0, 1) := by decide +kernel
theorem dX3_goThrough_6 : decode cX3_goThrough 6 = .ok (.iload_n 1, 1) := by decide +kernel
theorem dX3_goThrough_7 : decode cX3_goThrough 7 = .ok (.putfield 47, 3) := by decide +kernel
theorem dX3_goThrough_10 : decode cX3_goThrough 10 = .ok (.return_, 1) := by decide +kernel
theorem dX3_countWait_0 : decode cX3_countWait 0 = .ok (.aload_n 0, 1) := by decide +kernel
theorem dX3_countWait_1 : decode cX3_countWait 1 = .ok (.getfield 38, 3) := by decide +kernel
theorem dX3_countWait_4 : decode cX3_countWait 4 = .ok (.ifCond .ge 13, 3) := by decide +kernel
theorem dX3_countWait_7 : decode cX3_countWait 7 = .ok (.bipush 100, 2) := by decide +kernel
theorem dX3_countWait_9 : decode cX3_countWait 9 = .ok (.aload_n 0, 1) := by decide +kernel
theorem dX3_countWait_10 : decode cX3_countWait 10 = .ok (.getfield 15, 3) := by decide +kernel
theorem dX3_countWait_13 : decode cX3_countWait 13 = .ok (.isub, 1) := by decide +kernel
theorem dX3_countWait_14 : decode cX3_countWait 14 = .ok (.goto 12, 3) := by decide +kernel
theorem dX3_countWait_17 : decode cX3_countWait 17 = .ok (.aload_n 0, 1) := by decide +kernel
theorem dX3_countWait_18 : decode cX3_countWait 18 = .ok (.getfield 38, 3) := by decide +kernel
theorem dX3_countWait_21 : decode cX3_countWait 21 = .ok (.aload_n 0, 1) := by decide +kernel
theorem dX3_countWait_22 : decode cX3_countWait 22 = .ok (.getfield 15, 3) := by decide +kernel
theorem dX3_countWait_25 : decode cX3_countWait 25 = .ok (.isub, 1) := by decide +kernel
theorem dX3_countWait_26 : decode cX3_countWait 26 = .ok (.ireturn, 1) := by decide +kernel
theorem dX4_init_0 : decode cX4_init 0 = .ok (.aload_n 0, 1) := by decide +kernel
theorem dX4_init_1 : decode cX4_init 1 = .ok (.invokespecial 3, 3) := by decide +kernel
theorem dX4_init_4 : decode cX4_init 4 = .ok (.aload_n 0, 1) := by decide +kernel
theorem dX4_init_5 : decode cX4_init 5 = .ok (.bipush 16, 2) := by decide +kernel
theorem dX4_init_7 : decode cX4_init 7 = .ok (.newarray .int, 2) := by decide +kernel
theorem dX4_init_9 : decode cX4_init 9 = .ok (.putfield 9, 3) := by decide +kernel
theorem dX4_init_12 : decode cX4_init 12 = .ok (.aload_n 0, 1) := by decide +kernel
theorem dX4_init_13 : decode cX4_init 13 = .ok (.iconst 0, 1) := by decide +kernel
theorem dX4_init_14 : decode cX4_init 14 = .ok (.putfield 15, 3) := by decide +kernel
theorem dX4_init_17 : decode cX4_init 17 = .ok (.return_, 1) := by decide +kernel
theorem dX4_begin_0 : decode cX4_begin 0 = .ok (.aload_n 0, 1) := by decide +kernel
theorem dX4_begin_1 : decode cX4_begin 1 = .ok (.iconst 1, 1) := by decide +kernel
theorem dX4_begin_2 : decode cX4_begin 2 = .ok (.putfield 15, 3) := by decide +kernel
theorem dX4_begin_5 : decode cX4_begin 5 = .ok (.aload_n 0, 1) := by decide +kernel
theorem dX4_begin_6 : decode cX4_begin 6 = .ok (.iload_n 1, 1) := by decide +kernel
theorem dX4_begin_7 : decode cX4_begin 7 = .ok (.putfield 19, 3) := by decide +kernel
theorem dX4_begin_10 : decode cX4_begin 10 = .ok (.aload_n 0, 1) := by decide +kernel
theorem dX4_begin_11 : decode cX4_begin 11 = .ok (.iload_n 2, 1) := by decide +kernel
theorem dX4_begin_12 : decode cX4_begin 12 = .ok (.putfield 23, 3) := by decide +kernel
theorem dX4_begin_15 : decode cX4_begin 15 = .ok (.aload_n 0, 1) := by decide +kernel
theorem dX4_begin_16 : decode cX4_begin 16 = .ok (.getfield 9, 3) := by decide +kernel
theorem dX4_begin_19 : decode cX4_begin 19 = .ok (.iconst 0, 1) := by decide +kernel
theorem dX4_begin_20 : decode cX4_begin 20 = .ok (.invokestatic 26, 3) := by decide +kernel
theorem dX4_begin_23 : decode cX4_begin 23 = .ok (.return_, 1) := by decide +kernel
theorem dX4_holds_0 : decode cX4_holds 0 = .ok (.iload_n 1, 1) := by decide +kernel
theorem dX4_holds_1 : decode cX4_holds 1 = .ok (.ifCond .lt 29, 3) := by decide +kernel
theorem dX4_holds_4 : decode cX4_holds 4 = .ok (.iload_n 1, 1) := by decide +kernel
theorem dX4_holds_5 : decode cX4_holds 5 = .ok (.aload_n 0, 1) := by decide +kernel
theorem dX4_holds_6 : decode cX4_holds 6 = .ok (.getfield 23, 3) := by decide +kernel
theorem dX4_holds_9 : decode cX4_holds 9 = .ok (.if_icmp .gt 21, 3) := by decide +kernel
theorem dX4_holds_12 : decode cX4_holds 12 = .ok (.iload_n 2, 1) := by decide +kernel
theorem dX4_holds_13 : decode cX4_holds 13 = .ok (.ifCond .lt 17, 3) := by decide +kernel
theorem dX4_holds_16 : decode cX4_holds 16 = .ok (.iload_n 2, 1) := by decide +kernel
theorem dX4_holds_17 : decode cX4_holds 17 = .ok (.aload_n 0, 1) := by decide +kernel
theorem dX4_holds_18 : decode cX4_holds 18 = .ok (.getfield 23, 3) := by decide +kernel
theorem dX4_holds_21 : decode cX4_holds 21 = .ok (.iload_n 1, 1) := by decide +kernel
theorem dX4_holds_22 : decode cX4_holds 22 = .ok (.isub, 1) := by decide +kernel
theorem dX4_holds_23 : decode cX4_holds 23 = .ok (.if_icmp .gt 7, 3) := by decide +kernel
theorem dX4_holds_26 : decode cX4_holds 26 = .ok (.iconst 1, 1) := by decide +kernel
theorem dX4_holds_27 : decode cX4_holds 27 = .ok (.goto 4, 3) := by decide +kernel
theorem dX4_holds_30 : decode cX4_holds 30 = .ok (.iconst 0, 1) := by decide +kernel
theorem dX4_holds_31 : decode cX4_holds 31 = .ok (.ireturn, 1) := by decide +kernel
theorem dX4_put_0 : decode cX4_put 0 = .ok (.iload_n 1, 1) := by decide +kernel
theorem dX4_put_1 : decode cX4_put 1 = .ok (.iconst 0, 1) := by decide +kernel
theorem dX4_put_2 : decode cX4_put 2 = .ok (.aload_n 0, 1) := by decide +kernel
theorem dX4_put_3 : decode cX4_put 3 = .ok (.getfield 23, 3) := by decide +kernel
theorem dX4_put_6 : decode cX4_put 6 = .ok (.iconst 1, 1) := by decide +kernel
theorem dX4_put_7 : decode cX4_put 7 = .ok (.isub, 1) := by decide +kernel
theorem dX4_put_8 : decode cX4_put 8 = .ok (.invokestatic 32, 3) := by decide +kernel
theorem dX4_put_11 : decode cX4_put 11 = .ok (.ifCond .eq 35, 3) := by decide +kernel
theorem dX4_put_14 : decode cX4_put 14 = .ok (.aload_n 0, 1) := by decide +kernel
theorem dX4_put_15 : decode cX4_put 15 = .ok (.getfield 9, 3) := by decide +kernel
theorem dX4_put_18 : decode cX4_put 18 = .ok (.iload_n 1, 1) := by decide +kernel
theorem dX4_put_19 : decode cX4_put 19 = .ok (.aload_n 0, 1) := by decide +kernel
theorem dX4_put_20 : decode cX4_put 20 = .ok (.getfield 19, 3) := by decide +kernel
theorem dX4_put_23 : decode cX4_put 23 = .ok (.ifCond .ne 8, 3) := by decide +kernel
theorem dX4_put_26 : decode cX4_put 26 = .ok (.iload_n 2, 1) := by decide +kernel
theorem dX4_put_27 : decode cX4_put 27 = .ok (.i2b, 1) := by decide +kernel
theorem dX4_put_28 : decode cX4_put 28 = .ok (.goto 17, 3) := by decide +kernel
theorem dX4_put_31 : decode cX4_put 31 = .ok (.aload_n 0, 1) := by decide +kernel
theorem dX4_put_32 : decode cX4_put 32 = .ok (.getfield 19, 3) := by decide +kernel
theorem dX4_put_35 : decode cX4_put 35 = .ok (.iconst 1, 1) := by decide +kernel
theorem dX4_put_36 : decode cX4_put 36 = .ok (.if_icmp .ne 8, 3) := by decide +kernel
theorem dX4_put_39 : decode cX4_put 39 = .ok (.iload_n 2, 1) := by decide +kernel
theorem dX4_put_40 : decode cX4_put 40 = .ok (.i2s, 1) := by decide +kernel
theorem dX4_put_41 : decode cX4_put 41 = .ok (.goto 4, 3) := by decide +kernel
theorem dX4_put_44 : decode cX4_put 44 = .ok (.iload_n 2, 1) := by decide +kernel
theorem dX4_put_45 : decode cX4_put 45 = .ok (.iastore, 1) := by decide +kernel
theorem dX4_put_46 : decode cX4_put 46 = .ok (.return_, 1) := by decide +kernel
theorem dX5_init_0 : decode cX5_init 0 = .ok (.aload_n 0, 1) := by decide +kernel
theorem dX5_init_1 : decode cX5_init 1 = .ok (.invokespecial 3, 3) := by decide +kernel
theorem dX5_init_4 : decode cX5_init 4 = .ok (.aload_n 0, 1) := by decide +kernel
theorem dX5_init_5 : decode cX5_init 5 = .ok (.bipush 80, 2) := by decide +kernel
theorem dX5_init_7 : decode cX5_init 7 = .ok (.newarray .int, 2) := by decide +kernel
theorem dX5_init_9 : decode cX5_init 9 = .ok (.putfield 9, 3) := by decide +kernel
theorem dX5_init_12 : decode cX5_init 12 = .ok (.aload_n 0, 1) := by decide +kernel
theorem dX5_init_13 : decode cX5_init 13 = .ok (.iconst 3, 1) := by decide +kernel
theorem dX5_init_14 : decode cX5_init 14 = .ok (.bipush 8, 2) := by decide +kernel
theorem dX5_init_16 : decode cX5_init 16 = .ok (.multianewarray 15 2, 4) := by decide +kernel
theorem dX5_init_20 : decode cX5_init 20 = .ok (.putfield 17, 3) := by decide +kernel
theorem dX5_init_23 : decode cX5_init 23 = .ok (.aload_n 0, 1) := by decide +kernel
theorem dX5_init_24 : decode cX5_init 24 = .ok (.iconst 0, 1) := by decide +kernel
theorem dX5_init_25 : decode cX5_init 25 = .ok (.putfield 20, 3) := by decide +kernel
theorem dX5_init_28 : decode cX5_init 28 = .ok (.return_, 1) := by decide +kernel
theorem dX5_add_0 : decode cX5_add 0 = .ok (.aload_n 0, 1) := by decide +kernel
theorem dX5_add_1 : decode cX5_add 1 = .ok (.getfield 20, 3) := by decide +kernel
theorem dX5_add_4 : decode cX5_add 4 = .ok (.bipush 80, 2) := by decide +kernel
theorem dX5_add_6 : decode cX5_add 6 = .ok (.if_icmp .ge 23, 3) := by decide +kernel
theorem dX5_add_9 : decode cX5_add 9 = .ok (.aload_n 0, 1) := by decide +kernel
theorem dX5_add_10 : decode cX5_add 10 = .ok (.getfield 9, 3) := by decide +kernel
theorem dX5_add_13 : decode cX5_add 13 = .ok (.aload_n 0, 1) := by decide +kernel
theorem dX5_add_14 : decode cX5_add 14 = .ok (.getfield 20, 3) := by decide +kernel
theorem dX5_add_17 : decode cX5_add 17 = .ok (.iload_n 1, 1) := by decide +kernel
theorem dX5_add_18 : decode cX5_add 18 = .ok (.iastore, 1) := by decide +kernel
theorem dX5_add_19 : decode cX5_add 19 = .ok (.aload_n 0, 1) := by decide +kernel
theorem dX5_add_20 : decode cX5_add 20 = .ok (.dup, 1) := by decide +kernel
theorem dX5_add_21 : decode cX5_add 21 = .ok (.getfield 20, 3) := by decide +kernel
theorem dX5_add_24 : decode cX5_add 24 = .ok (.iconst 1, 1) := by decide +kernel
theorem dX5_add_25 : decode cX5_add 25 = .ok (.iadd, 1) := by decide +kernel
theorem dX5_add_26 : decode cX5_add 26 = .ok (.putfield 20, 3) := by decide +kernel
theorem dX5_add_29 : decode cX5_add 29 = .ok (.return_, 1) := by decide +kernel
theorem dX5_parse_0 : decode cX5_parse 0 = .ok (.aload_n 0, 1) := by decide +kernel
theorem dX5_parse_1 : decode cX5_parse 1 = .ok (.iconst 0, 1) := by decide +kernel
theorem dX5_parse_2 : decode cX5_parse 2 = .ok (.putfield 24, 3) := by decide +kernel
theorem dX5_parse_5 : decode cX5_parse 5 = .ok (.aload_n 0, 1) := by decide +kernel
theorem dX5_parse_6 : decode cX5_parse 6 = .ok (.iconst 0, 1) := by decide +kernel
theorem dX5_parse_7 : decode cX5_parse 7 = .ok (.putfield 27, 3) := by decide +kernel
theorem dX5_parse_10 : decode cX5_parse 10 = .ok (.iconst 0, 1) := by decide +kernel
theorem dX5_parse_11 : decode cX5_parse 11 = .ok (.istore_n 1, 1) := by decide +kernel
theorem dX5_parse_12 : decode cX5_parse 12 = .ok (.iload_n 1, 1) := by decide +kernel
theorem dX5_parse_13 : decode cX5_parse 13 = .ok (.bipush 8, 2) := by decide +kernel
theorem dX5_parse_15 : decode cX5_parse 15 = .ok (.if_icmp .ge 72, 3) := by decide +kernel
theorem dX5_parse_18 : decode cX5_parse 18 = .ok (.aload_n 0, 1) := by decide +kernel
theorem dX5_parse_19 : decode cX5_parse 19 = .ok (.iload_n 1, 1) := by decide +kernel
theorem dX5_parse_20 : decode cX5_parse 20 = .ok (.invokevirtual 30, 3) := by decide +kernel
theorem dX5_parse_23 : decode cX5_parse 23 = .ok (.istore_n 2, 1) := by decide +kernel
theorem dX5_parse_24 : decode cX5_parse 24 = .ok (.iload_n 2, 1) := by decide +kernel
theorem dX5_parse_25 : decode cX5_parse 25 = .ok (.ifCond .ge 5, 3) := by decide +kernel
theorem dX5_parse_28 : decode cX5_parse 28 = .ok (.iload_n 2, 1) := by decide +kernel
theorem dX5_parse_29 : decode cX5_parse 29 = .ok (.ireturn, 1) := by decide +kernel
theorem dX5_parse_30 : decode cX5_parse 30 = .ok (.aload_n 0, 1) := by decide +kernel
theorem dX5_parse_31 : decode cX5_parse 31 = .ok (.iload_n 1, 1) := by decide +kernel
theorem dX5_parse_32 : decode cX5_parse 32 = .ok (.iconst 1, 1) := by decide +kernel
theorem dX5_parse_33 : decode cX5_parse 33 = .ok (.iadd, 1) := by decide +kernel
theorem dX5_parse_34 : decode cX5_parse 34 = .ok (.putfield 27, 3) := by decide +kernel
theorem dX5_parse_37 : decode cX5_parse 37 = .ok (.aload_n 0, 1) := by decide +kernel
theorem dX5_parse_38 : decode cX5_parse 38 = .ok (.invokevirtual 34, 3) := by decide +kernel
theorem dX5_parse_41 : decode cX5_parse 41 = .ok (.istore_n 3, 1) := by decide +kernel
theorem dX5_parse_42 : decode cX5_parse 42 = .ok (.iload_n 3, 1) := by decide +kernel
theorem dX5_parse_43 : decode cX5_parse 43 = .ok (.ifCond .ge 5, 3) := by decide +kernel
theorem dX5_parse_46 : decode cX5_parse 46 = .ok (.iconst 0, 1) := by decide +kernel
theorem dX5_parse_47 : decode cX5_parse 47 = .ok (.ireturn, 1) := by decide +kernel
theorem dX5_parse_48 : decode cX5_parse 48 = .ok (.iload_n 3, 1) := by decide +kernel
theorem dX5_parse_49 : decode cX5_parse 49 = .ok (.bipush 59, 2) := by decide +kernel
theorem dX5_parse_51 : decode cX5_parse 51 = .ok (.if_icmp .ne 12, 3) := by decide +kernel
theorem dX5_parse_54 : decode cX5_parse 54 = .ok (.aload_n 0, 1) := by decide +kernel
theorem dX5_parse_55 : decode cX5_parse 55 = .ok (.getfield 27, 3) := by decide +kernel
theorem dX5_parse_58 : decode cX5_parse 58 = .ok (.bipush 8, 2) := by decide +kernel
theorem dX5_parse_60 : decode cX5_parse 60 = .ok (.if_icmp .ne 11, 3) := by decide +kernel
theorem dX5_parse_63 : decode cX5_parse 63 = .ok (.bipush (-20), 2) := by decide +kernel
theorem dX5_parse_65 : decode cX5_parse 65 = .ok (.aload_n 0, 1) := by decide +kernel
theorem dX5_parse_66 : decode cX5_parse 66 = .ok (.getfield 24, 3) := by decide +kernel
theorem dX5_parse_69 : decode cX5_parse 69 = .ok (.isub, 1) := by decide +kernel
theorem dX5_parse_70 : decode cX5_parse 70 = .ok (.ireturn, 1) := by decide +kernel
theorem dX5_parse_71 : decode cX5_parse 71 = .ok (.aload_n 0, 1) := by decide +kernel
theorem dX5_parse_72 : decode cX5_parse 72 = .ok (.dup, 1) := by decide +kernel
theorem dX5_parse_73 : decode cX5_parse 73 = .ok (.getfield 24, 3) := by decide +kernel
theorem dX5_parse_76 : decode cX5_parse 76 = .ok (.iconst 1, 1) := by decide +kernel
theorem dX5_parse_77 : decode cX5_parse 77 = .ok (.iadd, 1) := by decide +kernel
theorem dX5_parse_78 : decode cX5_parse 78 = .ok (.putfield 24, 3) := by decide +kernel
theorem dX5_parse_81 : decode cX5_parse 81 = .ok (.iinc 1 1, 3) := by decide +kernel
theorem dX5_parse_84 : decode cX5_parse 84 = .ok (.goto (-72), 3) := by decide +kernel
theorem dX5_parse_87 : decode cX5_parse 87 = .ok (.iconst 0, 1) := by decide +kernel
theorem dX5_parse_88 : decode cX5_parse 88 = .ok (.ireturn, 1) := by decide +kernel
theorem dX5_parsePerson_0 : decode cX5_parsePerson 0 = .ok (.aload_n 0, 1) := by decide +kernel
theorem dX5_parsePerson_1 : decode cX5_parsePerson 1 = .ok (.invokevirtual 34, 3) := by decide +kernel
theorem dX5_parsePerson_4 : decode cX5_parsePerson 4 = .ok (.pop, 1) := by decide +kernel
theorem dX5_parsePerson_5 : decode cX5_parsePerson 5 = .ok (.aload_n 0, 1) := by decide +kernel
theorem dX5_parsePerson_6 : decode cX5_parsePerson 6 = .ok (.getfield 24, 3) := by decide +kernel
theorem dX5_parsePerson_9 : decode cX5_parsePerson 9 = .ok (.istore_n 2, 1) := by decide +kernel
theorem dX5_parsePerson_10 : decode cX5_parsePerson 10 = .ok (.aload_n 0, 1) := by decide +kernel
theorem dX5_parsePerson_11 : decode cX5_parsePerson 11 = .ok (.invokevirtual 38, 3) := by decide +kernel
theorem dX5_parsePerson_14 : decode cX5_parsePerson 14 = .ok (.istore_n 3, 1) := by decide +kernel
theorem dX5_parsePerson_15 : decode cX5_parsePerson 15 = .ok (.iload_n 3, 1) := by decide +kernel
theorem dX5_parsePerson_16 : decode cX5_parsePerson 16 = .ok (.iconst 0, 1) := by decide +kernel
theorem dX5_parsePerson_17 : decode cX5_parsePerson 17 = .ok (.bipush 99, 2) := by decide +kernel
theorem dX5_parsePerson_19 : decode cX5_parsePerson 19 = .ok (.invokestatic 41, 3) := by decide +kernel
theorem dX5_parsePerson_22 : decode cX5_parsePerson 22 = .ok (.ifCond .ne 8, 3) := by decide +kernel
theorem dX5_parsePerson_25 : decode cX5_parsePerson 25 = .ok (.bipush (-20), 2) := by decide +kernel
theorem dX5_parsePerson_27 : decode cX5_parsePerson 27 = .ok (.iload_n 2, 1) := by decide +kernel
theorem dX5_parsePerson_28 : decode cX5_parsePerson 28 = .ok (.isub, 1) := by decide +kernel
theorem dX5_parsePerson_29 : decode cX5_parsePerson 29 = .ok (.ireturn, 1) := by decide +kernel
theorem dX5_parsePerson_30 : decode cX5_parsePerson 30 = .ok (.ldc 45, 2) := by decide +kernel
theorem dX5_parsePerson_32 : decode cX5_parsePerson 32 = .ok (.aload_n 0, 1) := by decide +kernel
theorem dX5_parsePerson_33 : decode cX5_parsePerson 33 = .ok (.invokevirtual 47, 3) := by decide +kernel
theorem dX5_parsePerson_36 : decode cX5_parsePerson 36 = .ok (.i2c, 1) := by decide +kernel
theorem dX5_parsePerson_37 : decode cX5_parsePerson 37 = .ok (.invokevirtual 50, 3) := by decide +kernel
theorem dX5_parsePerson_40 : decode cX5_parsePerson 40 = .ok (.istore 4, 2) := by decide +kernel
theorem dX5_parsePerson_42 : decode cX5_parsePerson 42 = .ok (.iload 4, 2) := by decide +kernel
theorem dX5_parsePerson_44 : decode cX5_parsePerson 44 = .ok (.ifCond .ge 11, 3) := by decide +kernel
theorem dX5_parsePerson_47 : decode cX5_parsePerson 47 = .ok (.bipush (-20), 2) := by decide +kernel
theorem dX5_parsePerson_49 : decode cX5_parsePerson 49 = .ok (.aload_n 0, 1) := by decide +kernel
theorem dX5_parsePerson_50 : decode cX5_parsePerson 50 = .ok (.getfield 24, 3) := by decide +kernel
theorem dX5_parsePerson_53 : decode cX5_parsePerson 53 = .ok (.isub, 1) := by decide +kernel
theorem dX5_parsePerson_54 : decode cX5_parsePerson 54 = .ok (.ireturn, 1) := by decide +kernel
theorem dX5_parsePerson_55 : decode cX5_parsePerson 55 = .ok (.aload_n 0, 1) := by decide +kernel
theorem dX5_parsePerson_56 : decode cX5_parsePerson 56 = .ok (.dup, 1) := by decide +kernel
theorem dX5_parsePerson_57 : decode cX5_parsePerson 57 = .ok (.getfield 24, 3) := by decide +kernel
theorem dX5_parsePerson_60 : decode cX5_parsePerson 60 = .ok (.iconst 1, 1) := by decide +kernel
theorem dX5_parsePerson_61 : decode cX5_parsePerson 61 = .ok (.iadd, 1) := by decide +kernel
theorem dX5_parsePerson_62 : decode cX5_parsePerson 62 = .ok (.putfield 24, 3) := by decide +kernel
theorem dX5_parsePerson_65 : decode cX5_parsePerson 65 = .ok (.ldc 55, 2) := by decide +kernel
theorem dX5_parsePerson_67 : decode cX5_parsePerson 67 = .ok (.aload_n 0, 1) := by decide +kernel
theorem dX5_parsePerson_68 : decode cX5_parsePerson 68 = .ok (.invokevirtual 47, 3) := by decide +kernel
theorem dX5_parsePerson_71 : decode cX5_parsePerson 71 = .ok (.i2c, 1) := by decide +kernel
theorem dX5_parsePerson_72 : decode cX5_parsePerson 72 = .ok (.invokevirtual 50, 3) := by decide +kernel
theorem dX5_parsePerson_75 : decode cX5_parsePerson 75 = .ok (.istore 5, 2) := by decide +kernel
theorem dX5_parsePerson_77 : decode cX5_parsePerson 77 = .ok (.iload 5, 2) := by decide +kernel
theorem dX5_parsePerson_79 : decode cX5_parsePerson 79 = .ok (.ifCond .ge 11, 3) := by decide +kernel
theorem dX5_parsePerson_82 : decode cX5_parsePerson 82 = .ok (.bipush (-20), 2) := by decide +kernel
theorem dX5_parsePerson_84 : decode cX5_parsePerson 84 = .ok (.aload_n 0, 1) := by decide +kernel
theorem dX5_parsePerson_85 : decode cX5_parsePerson 85 = .ok (.getfield 24, 3) := by decide +kernel
theorem dX5_parsePerson_88 : decode cX5_parsePerson 88 = .ok (.isub, 1) := by decide +kernel
theorem dX5_parsePerson_89 : decode cX5_parsePerson 89 = .ok (.ireturn, 1) := by decide +kernel
theorem dX5_parsePerson_90 : decode cX5_parsePerson 90 = .ok (.aload_n 0, 1) := by decide +kernel
theorem dX5_parsePerson_91 : decode cX5_parsePerson 91 = .ok (.dup, 1) := by decide +kernel
theorem dX5_parsePerson_92 : decode cX5_parsePerson 92 = .ok (.getfield 24, 3) := by decide +kernel
theorem dX5_parsePerson_95 : decode cX5_parsePerson 95 = .ok (.iconst 1, 1) := by decide +kernel
theorem dX5_parsePerson_96 : decode cX5_parsePerson 96 = .ok (.iadd, 1) := by decide +kernel
theorem dX5_parsePerson_97 : decode cX5_parsePerson 97 = .ok (.putfield 24, 3) := by decide +kernel
theorem dX5_parsePerson_100 : decode cX5_parsePerson 100 = .ok (.aload_n 0, 1) := by decide +kernel
theorem dX5_parsePerson_101 : decode cX5_parsePerson 101 = .ok (.getfield 17, 3) := by decide +kernel
theorem dX5_parsePerson_104 : decode cX5_parsePerson 104 = .ok (.iconst 0, 1) := by decide +kernel
theorem dX5_parsePerson_105 : decode cX5_parsePerson 105 = .ok (.aaload, 1) := by decide +kernel
theorem dX5_parsePerson_106 : decode cX5_parsePerson 106 = .ok (.iload_n 1, 1) := by decide +kernel
theorem dX5_parsePerson_107 : decode cX5_parsePerson 107 = .ok (.iload_n 3, 1) := by decide +kernel
theorem dX5_parsePerson_108 : decode cX5_parsePerson 108 = .ok (.iastore, 1) := by decide +kernel
theorem dX5_parsePerson_109 : decode cX5_parsePerson 109 = .ok (.aload_n 0, 1) := by decide +kernel
theorem dX5_parsePerson_110 : decode cX5_parsePerson 110 = .ok (.getfield 17, 3) := by decide +kernel
theorem dX5_parsePerson_113 : decode cX5_parsePerson 113 = .ok (.iconst 1, 1) := by decide +kernel
theorem dX5_parsePerson_114 : decode cX5_parsePerson 114 = .ok (.aaload, 1) := by decide +kernel
theorem dX5_parsePerson_115 : decode cX5_parsePerson 115 = .ok (.iload_n 1, 1) := by decide +kernel
theorem dX5_parsePerson_116 : decode cX5_parsePerson 116 = .ok (.iload 4, 2) := by decide +kernel
theorem dX5_parsePerson_118 : decode cX5_parsePerson 118 = .ok (.iastore, 1) := by decide +kernel
theorem dX5_parsePerson_119 : decode cX5_parsePerson 119 = .ok (.aload_n 0, 1) := by decide +kernel
theorem dX5_parsePerson_120 : decode cX5_parsePerson 120 = .ok (.getfield 17, 3) := by decide +kernel
theorem dX5_parsePerson_123 : decode cX5_parsePerson 123 = .ok (.iconst 2, 1) := by decide +kernel
theorem dX5_parsePerson_124 : decode cX5_parsePerson 124 = .ok (.aaload, 1) := by decide +kernel
theorem dX5_parsePerson_125 : decode cX5_parsePerson 125 = .ok (.iload_n 1, 1) := by decide +kernel
theorem dX5_parsePerson_126 : decode cX5_parsePerson 126 = .ok (.iload 5, 2) := by decide +kernel
theorem dX5_parsePerson_128 : decode cX5_parsePerson 128 = .ok (.iastore, 1) := by decide +kernel
theorem dX5_parsePerson_129 : decode cX5_parsePerson 129 = .ok (.iconst 0, 1) := by decide +kernel
theorem dX5_parsePerson_130 : decode cX5_parsePerson 130 = .ok (.ireturn, 1) := by decide +kernel
theorem dX5_parseNumber_0 : decode cX5_parseNumber 0 = .ok (.iconst (-1), 1) := by decide +kernel
theorem dX5_parseNumber_1 : decode cX5_parseNumber 1 = .ok (.istore_n 1, 1) := by decide +kernel
theorem dX5_parseNumber_2 : decode cX5_parseNumber 2 = .ok (.aload_n 0, 1) := by decide +kernel
theorem dX5_parseNumber_3 : decode cX5_parseNumber 3 = .ok (.getfield 24, 3) := by decide +kernel
theorem dX5_parseNumber_6 : decode cX5_parseNumber 6 = .ok (.aload_n 0, 1) := by decide +kernel
theorem dX5_parseNumber_7 : decode cX5_parseNumber 7 = .ok (.getfield 20, 3) := by decide +kernel
theorem dX5_parseNumber_10 : decode cX5_parseNumber 10 = .ok (.if_icmp .ge 62, 3) := by decide +kernel
theorem dX5_parseNumber_13 : decode cX5_parseNumber 13 = .ok (.aload_n 0, 1) := by decide +kernel
theorem dX5_parseNumber_14 : decode cX5_parseNumber 14 = .ok (.getfield 9, 3) := by decide +kernel
theorem dX5_parseNumber_17 : decode cX5_parseNumber 17 = .ok (.aload_n 0, 1) := by decide +kernel
theorem dX5_parseNumber_18 : decode cX5_parseNumber 18 = .ok (.getfield 24, 3) := by decide +kernel
theorem dX5_parseNumber_21 : decode cX5_parseNumber 21 = .ok (.iaload, 1) := by decide +kernel
theorem dX5_parseNumber_22 : decode cX5_parseNumber 22 = .ok (.bipush 48, 2) := by decide +kernel
theorem dX5_parseNumber_24 : decode cX5_parseNumber 24 = .ok (.bipush 57, 2) := by decide +kernel
theorem dX5_parseNumber_26 : decode cX5_parseNumber 26 = .ok (.invokestatic 41, 3) := by decide +kernel
theorem dX5_parseNumber_29 : decode cX5_parseNumber 29 = .ok (.ifCond .eq 43, 3) := by decide +kernel
theorem dX5_parseNumber_32 : decode cX5_parseNumber 32 = .ok (.bipush 100, 2) := by decide +kernel
theorem dX5_parseNumber_34 : decode cX5_parseNumber 34 = .ok (.iconst 0, 1) := by decide +kernel
theorem dX5_parseNumber_35 : decode cX5_parseNumber 35 = .ok (.iload_n 1, 1) := by decide +kernel
theorem dX5_parseNumber_36 : decode cX5_parseNumber 36 = .ok (.invokestatic 57, 3) := by decide +kernel
theorem dX5_parseNumber_39 : decode cX5_parseNumber 39 = .ok (.bipush 10, 2) := by decide +kernel
theorem dX5_parseNumber_41 : decode cX5_parseNumber 41 = .ok (.imul, 1) := by decide +kernel
theorem dX5_parseNumber_42 : decode cX5_parseNumber 42 = .ok (.aload_n 0, 1) := by decide +kernel
theorem dX5_parseNumber_43 : decode cX5_parseNumber 43 = .ok (.getfield 9, 3) := by decide +kernel
theorem dX5_parseNumber_46 : decode cX5_parseNumber 46 = .ok (.aload_n 0, 1) := by decide +kernel
theorem dX5_parseNumber_47 : decode cX5_parseNumber 47 = .ok (.getfield 24, 3) := by decide +kernel
theorem dX5_parseNumber_50 : decode cX5_parseNumber 50 = .ok (.iaload, 1) := by decide +kernel
theorem dX5_parseNumber_51 : decode cX5_parseNumber 51 = .ok (.iadd, 1) := by decide +kernel
theorem dX5_parseNumber_52 : decode cX5_parseNumber 52 = .ok (.bipush 48, 2) := by decide +kernel
theorem dX5_parseNumber_54 : decode cX5_parseNumber 54 = .ok (.isub, 1) := by decide +kernel
theorem dX5_parseNumber_55 : decode cX5_parseNumber 55 = .ok (.invokestatic 63, 3) := by decide +kernel
theorem dX5_parseNumber_58 : decode cX5_parseNumber 58 = .ok (.istore_n 1, 1) := by decide +kernel
theorem dX5_parseNumber_59 : decode cX5_parseNumber 59 = .ok (.aload_n 0, 1) := by decide +kernel
theorem dX5_parseNumber_60 : decode cX5_parseNumber 60 = .ok (.dup, 1) := by decide +kernel
theorem dX5_parseNumber_61 : decode cX5_parseNumber 61 = .ok (.getfield 24, 3) := by decide +kernel
theorem dX5_parseNumber_64 : decode cX5_parseNumber 64 = .ok (.iconst 1, 1) := by decide +kernel
theorem dX5_parseNumber_65 : decode cX5_parseNumber 65 = .ok (.iadd, 1) := by decide +kernel
theorem dX5_parseNumber_66 : decode cX5_parseNumber 66 = .ok (.putfield 24, 3) := by decide +kernel
theorem dX5_parseNumber_69 : decode cX5_parseNumber 69 = .ok (.goto (-67), 3) := by decide +kernel
theorem dX5_parseNumber_72 : decode cX5_parseNumber 72 = .ok (.iload_n 1, 1) := by decide +kernel
theorem dX5_parseNumber_73 : decode cX5_parseNumber 73 = .ok (.ireturn, 1) := by decide +kernel
theorem dX5_nextByte_0 : decode cX5_nextByte 0 = .ok (.aload_n 0, 1) := by decide +kernel
theorem dX5_nextByte_1 : decode cX5_nextByte 1 = .ok (.getfield 24, 3) := by decide +kernel
theorem dX5_nextByte_4 : decode cX5_nextByte 4 = .ok (.aload_n 0, 1) := by decide +kernel
theorem dX5_nextByte_5 : decode cX5_nextByte 5 = .ok (.getfield 20, 3) := by decide +kernel
theorem dX5_nextByte_8 : decode cX5_nextByte 8 = .ok (.if_icmp .ge 30, 3) := by decide +kernel
theorem dX5_nextByte_11 : decode cX5_nextByte 11 = .ok (.aload_n 0, 1) := by decide +kernel
theorem dX5_nextByte_12 : decode cX5_nextByte 12 = .ok (.getfield 9, 3) := by decide +kernel
theorem dX5_nextByte_15 : decode cX5_nextByte 15 = .ok (.aload_n 0, 1) := by decide +kernel
theorem dX5_nextByte_16 : decode cX5_nextByte 16 = .ok (.getfield 24, 3) := by decide +kernel
theorem dX5_nextByte_19 : decode cX5_nextByte 19 = .ok (.iaload, 1) := by decide +kernel
theorem dX5_nextByte_20 : decode cX5_nextByte 20 = .ok (.bipush 32, 2) := by decide +kernel
theorem dX5_nextByte_22 : decode cX5_nextByte 22 = .ok (.if_icmp .ne 16, 3) := by decide +kernel
theorem dX5_nextByte_25 : decode cX5_nextByte 25 = .ok (.aload_n 0, 1) := by decide +kernel
theorem dX5_nextByte_26 : decode cX5_nextByte 26 = .ok (.dup, 1) := by decide +kernel
theorem dX5_nextByte_27 : decode cX5_nextByte 27 = .ok (.getfield 24, 3) := by decide +kernel
theorem dX5_nextByte_30 : decode cX5_nextByte 30 = .ok (.iconst 1, 1) := by decide +kernel
theorem dX5_nextByte_31 : decode cX5_nextByte 31 = .ok (.iadd, 1) := by decide +kernel
theorem dX5_nextByte_32 : decode cX5_nextByte 32 = .ok (.putfield 24, 3) := by decide +kernel
theorem dX5_nextByte_35 : decode cX5_nextByte 35 = .ok (.goto (-35), 3) := by decide +kernel
theorem dX5_nextByte_38 : decode cX5_nextByte 38 = .ok (.aload_n 0, 1) := by decide +kernel
theorem dX5_nextByte_39 : decode cX5_nextByte 39 = .ok (.getfield 24, 3) := by decide +kernel
theorem dX5_nextByte_42 : decode cX5_nextByte 42 = .ok (.aload_n 0, 1) := by decide +kernel
theorem dX5_nextByte_43 : decode cX5_nextByte 43 = .ok (.getfield 20, 3) := by decide +kernel
theorem dX5_nextByte_46 : decode cX5_nextByte 46 = .ok (.if_icmp .ge 15, 3) := by decide +kernel
theorem dX5_nextByte_49 : decode cX5_nextByte 49 = .ok (.aload_n 0, 1) := by decide +kernel
theorem dX5_nextByte_50 : decode cX5_nextByte 50 = .ok (.getfield 9, 3) := by decide +kernel
theorem dX5_nextByte_53 : decode cX5_nextByte 53 = .ok (.aload_n 0, 1) := by decide +kernel
theorem dX5_nextByte_54 : decode cX5_nextByte 54 = .ok (.getfield 24, 3) := by decide +kernel
theorem dX5_nextByte_57 : decode cX5_nextByte 57 = .ok (.iaload, 1) := by decide +kernel
theorem dX5_nextByte_58 : decode cX5_nextByte 58 = .ok (.goto 4, 3) := by decide +kernel
theorem dX5_nextByte_61 : decode cX5_nextByte 61 = .ok (.iconst (-1), 1) := by decide +kernel
theorem dX5_nextByte_62 : decode cX5_nextByte 62 = .ok (.ireturn, 1) := by decide +kernel
theorem dX5_nextLetter_0 : decode cX5_nextLetter 0 = .ok (.iconst 0, 1) := by decide +kernel
theorem dX5_nextLetter_1 : decode cX5_nextLetter 1 = .ok (.aload_n 0, 1) := by decide +kernel
theorem dX5_nextLetter_2 : decode cX5_nextLetter 2 = .ok (.invokevirtual 34, 3) := by decide +kernel
theorem dX5_nextLetter_5 : decode cX5_nextLetter 5 = .ok (.invokestatic 57, 3) := by decide +kernel
theorem dX5_nextLetter_8 : decode cX5_nextLetter 8 = .ok (.ireturn, 1) := by decide +kernel
theorem dX6_init_0 : decode cX6_init 0 = .ok (.aload_n 0, 1) := by decide +kernel
theorem dX6_init_1 : decode cX6_init 1 = .ok (.invokespecial 1, 3) := by decide +kernel
theorem dX6_init_4 : decode cX6_init 4 = .ok (.aload_n 0, 1) := by decide +kernel
theorem dX6_init_5 : decode cX6_init 5 = .ok (.new 7, 3) := by decide +kernel
theorem dX6_init_8 : decode cX6_init 8 = .ok (.dup, 1) := by decide +kernel
theorem dX6_init_9 : decode cX6_init 9 = .ok (.invokespecial 9, 3) := by decide +kernel
theorem dX6_init_12 : decode cX6_init 12 = .ok (.putfield 10, 3) := by decide +kernel
theorem dX6_init_15 : decode cX6_init 15 = .ok (.aload_n 0, 1) := by decide +kernel
theorem dX6_init_16 : decode cX6_init 16 = .ok (.new 7, 3) := by decide +kernel
theorem dX6_init_19 : decode cX6_init 19 = .ok (.dup, 1) := by decide +kernel
theorem dX6_init_20 : decode cX6_init 20 = .ok (.invokespecial 9, 3) := by decide +kernel
theorem dX6_init_23 : decode cX6_init 23 = .ok (.putfield 16, 3) := by decide +kernel
theorem dX6_init_26 : decode cX6_init 26 = .ok (.aload_n 0, 1) := by decide +kernel
theorem dX6_init_27 : decode cX6_init 27 = .ok (.new 19, 3) := by decide +kernel
theorem dX6_init_30 : decode cX6_init 30 = .ok (.dup, 1) := by decide +kernel
theorem dX6_init_31 : decode cX6_init 31 = .ok (.invokespecial 21, 3) := by decide +kernel
theorem dX6_init_34 : decode cX6_init 34 = .ok (.putfield 22, 3) := by decide +kernel
theorem dX6_init_37 : decode cX6_init 37 = .ok (.aload_n 0, 1) := by decide +kernel
theorem dX6_init_38 : decode cX6_init 38 = .ok (.iconst 4, 1) := by decide +kernel
theorem dX6_init_39 : decode cX6_init 39 = .ok (.anewarray 26, 3) := by decide +kernel
theorem dX6_init_42 : decode cX6_init 42 = .ok (.putfield 28, 3) := by decide +kernel
theorem dX6_init_45 : decode cX6_init 45 = .ok (.aload_n 0, 1) := by decide +kernel
theorem dX6_init_46 : decode cX6_init 46 = .ok (.new 32, 3) := by decide +kernel
theorem dX6_init_49 : decode cX6_init 49 = .ok (.dup, 1) := by decide +kernel
theorem dX6_init_50 : decode cX6_init 50 = .ok (.invokespecial 34, 3) := by decide +kernel
theorem dX6_init_53 : decode cX6_init 53 = .ok (.putfield 35, 3) := by decide +kernel
theorem dX6_init_56 : decode cX6_init 56 = .ok (.aload_n 0, 1) := by decide +kernel
theorem dX6_init_57 : decode cX6_init 57 = .ok (.new 32, 3) := by decide +kernel
theorem dX6_init_60 : decode cX6_init 60 = .ok (.dup, 1) := by decide +kernel
theorem dX6_init_61 : decode cX6_init 61 = .ok (.invokespecial 34, 3) := by decide +kernel
theorem dX6_init_64 : decode cX6_init 64 = .ok (.putfield 39, 3) := by decide +kernel
theorem dX6_init_67 : decode cX6_init 67 = .ok (.aload_n 0, 1) := by decide +kernel
theorem dX6_init_68 : decode cX6_init 68 = .ok (.new 32, 3) := by decide +kernel
theorem dX6_init_71 : decode cX6_init 71 = .ok (.dup, 1) := by decide +kernel
theorem dX6_init_72 : decode cX6_init 72 = .ok (.invokespecial 34, 3) := by decide +kernel
theorem dX6_init_75 : decode cX6_init 75 = .ok (.putfield 42, 3) := by decide +kernel
theorem dX6_init_78 : decode cX6_init 78 = .ok (.iconst 0, 1) := by decide +kernel
theorem dX6_init_79 : decode cX6_init 79 = .ok (.istore_n 1, 1) := by decide +kernel
theorem dX6_init_80 : decode cX6_init 80 = .ok (.iload_n 1, 1) := by decide +kernel
theorem dX6_init_81 : decode cX6_init 81 = .ok (.iconst 4, 1) := by decide +kernel
theorem dX6_init_82 : decode cX6_init 82 = .ok (.if_icmp .ge 22, 3) := by decide +kernel
theorem dX6_init_85 : decode cX6_init 85 = .ok (.aload_n 0, 1) := by decide +kernel
theorem dX6_init_86 : decode cX6_init 86 = .ok (.getfield 28, 3) := by decide +kernel
theorem dX6_init_89 : decode cX6_init 89 = .ok (.iload_n 1, 1) := by decide +kernel
theorem dX6_init_90 : decode cX6_init 90 = .ok (.new 26, 3) := by decide +kernel
theorem dX6_init_93 : decode cX6_init 93 = .ok (.dup, 1) := by decide +kernel
theorem dX6_init_94 : decode cX6_init 94 = .ok (.invokespecial 45, 3) := by decide +kernel
theorem dX6_init_97 : decode cX6_init 97 = .ok (.aastore, 1) := by decide +kernel
theorem dX6_init_98 : decode cX6_init 98 = .ok (.iinc 1 1, 3) := by decide +kernel
theorem dX6_init_101 : decode cX6_init 101 = .ok (.goto (-21), 3) := by decide +kernel
theorem dX6_init_104 : decode cX6_init 104 = .ok (.return_, 1) := by decide +kernel
theorem dX6_stair_0 : decode cX6_stair 0 = .ok (.iload_n 1, 1) := by decide +kernel
theorem dX6_stair_1 : decode cX6_stair 1 = .ok (.getstatic 46, 3) := by decide +kernel
theorem dX6_stair_4 : decode cX6_stair 4 = .ok (.iconst 0, 1) := by decide +kernel
theorem dX6_stair_5 : decode cX6_stair 5 = .ok (.iaload, 1) := by decide +kernel
theorem dX6_stair_6 : decode cX6_stair 6 = .ok (.getstatic 50, 3) := by decide +kernel
theorem dX6_stair_9 : decode cX6_stair 9 = .ok (.iconst 0, 1) := by decide +kernel
theorem dX6_stair_10 : decode cX6_stair 10 = .ok (.iaload, 1) := by decide +kernel
theorem dX6_stair_11 : decode cX6_stair 11 = .ok (.invokestatic 53, 3) := by decide +kernel
theorem dX6_stair_14 : decode cX6_stair 14 = .ok (.ifCond .eq 20, 3) := by decide +kernel
theorem dX6_stair_17 : decode cX6_stair 17 = .ok (.iload_n 2, 1) := by decide +kernel
theorem dX6_stair_18 : decode cX6_stair 18 = .ok (.getstatic 46, 3) := by decide +kernel
theorem dX6_stair_21 : decode cX6_stair 21 = .ok (.iconst 2, 1) := by decide +kernel
theorem dX6_stair_22 : decode cX6_stair 22 = .ok (.iaload, 1) := by decide +kernel
theorem dX6_stair_23 : decode cX6_stair 23 = .ok (.getstatic 50, 3) := by decide +kernel
theorem dX6_stair_26 : decode cX6_stair 26 = .ok (.iconst 2, 1) := by decide +kernel
theorem dX6_stair_27 : decode cX6_stair 27 = .ok (.iaload, 1) := by decide +kernel
theorem dX6_stair_28 : decode cX6_stair 28 = .ok (.invokestatic 53, 3) := by decide +kernel
theorem dX6_stair_31 : decode cX6_stair 31 = .ok (.ifCond .ne 5, 3) := by decide +kernel
theorem dX6_stair_34 : decode cX6_stair 34 = .ok (.iconst (-1), 1) := by decide +kernel
theorem dX6_stair_35 : decode cX6_stair 35 = .ok (.ireturn, 1) := by decide +kernel
theorem dX6_stair_36 : decode cX6_stair 36 = .ok (.aload_n 0, 1) := by decide +kernel
theorem dX6_stair_37 : decode cX6_stair 37 = .ok (.getfield 10, 3) := by decide +kernel
theorem dX6_stair_40 : decode cX6_stair 40 = .ok (.getfield 57, 3) := by decide +kernel
theorem dX6_stair_43 : decode cX6_stair 43 = .ok (.iconst 3, 1) := by decide +kernel
theorem dX6_stair_44 : decode cX6_stair 44 = .ok (.if_icmp .lt 6, 3) := by decide +kernel
theorem dX6_stair_47 : decode cX6_stair 47 = .ok (.bipush (-3), 2) := by decide +kernel
theorem dX6_stair_49 : decode cX6_stair 49 = .ok (.ireturn, 1) := by decide +kernel
theorem dX6_stair_50 : decode cX6_stair 50 = .ok (.aload_n 0, 1) := by decide +kernel
theorem dX6_stair_51 : decode cX6_stair 51 = .ok (.getfield 10, 3) := by decide +kernel
theorem dX6_stair_54 : decode cX6_stair 54 = .ok (.getfield 57, 3) := by decide +kernel
theorem dX6_stair_57 : decode cX6_stair 57 = .ok (.istore_n 3, 1) := by decide +kernel
theorem dX6_stair_58 : decode cX6_stair 58 = .ok (.aload_n 0, 1) := by decide +kernel
theorem dX6_stair_59 : decode cX6_stair 59 = .ok (.getfield 10, 3) := by decide +kernel
theorem dX6_stair_62 : decode cX6_stair 62 = .ok (.getfield 61, 3) := by decide +kernel
theorem dX6_stair_65 : decode cX6_stair 65 = .ok (.iconst 0, 1) := by decide +kernel
theorem dX6_stair_66 : decode cX6_stair 66 = .ok (.aaload, 1) := by decide +kernel
theorem dX6_stair_67 : decode cX6_stair 67 = .ok (.iload_n 3, 1) := by decide +kernel
theorem dX6_stair_68 : decode cX6_stair 68 = .ok (.iload_n 1, 1) := by decide +kernel
theorem dX6_stair_69 : decode cX6_stair 69 = .ok (.iastore, 1) := by decide +kernel
theorem dX6_stair_70 : decode cX6_stair 70 = .ok (.aload_n 0, 1) := by decide +kernel
theorem dX6_stair_71 : decode cX6_stair 71 = .ok (.getfield 10, 3) := by decide +kernel
theorem dX6_stair_74 : decode cX6_stair 74 = .ok (.getfield 61, 3) := by decide +kernel
theorem dX6_stair_77 : decode cX6_stair 77 = .ok (.iconst 1, 1) := by decide +kernel
theorem dX6_stair_78 : decode cX6_stair 78 = .ok (.aaload, 1) := by decide +kernel
theorem dX6_stair_79 : decode cX6_stair 79 = .ok (.iload_n 3, 1) := by decide +kernel
theorem dX6_stair_80 : decode cX6_stair 80 = .ok (.iconst 0, 1) := by decide +kernel
theorem dX6_stair_81 : decode cX6_stair 81 = .ok (.iastore, 1) := by decide +kernel
theorem dX6_stair_82 : decode cX6_stair 82 = .ok (.aload_n 0, 1) := by decide +kernel
theorem dX6_stair_83 : decode cX6_stair 83 = .ok (.getfield 10, 3) := by decide +kernel
theorem dX6_stair_86 : decode cX6_stair 86 = .ok (.getfield 61, 3) := by decide +kernel
theorem dX6_stair_89 : decode cX6_stair 89 = .ok (.iconst 2, 1) := by decide +kernel
theorem dX6_stair_90 : decode cX6_stair 90 = .ok (.aaload, 1) := by decide +kernel
theorem dX6_stair_91 : decode cX6_stair 91 = .ok (.iload_n 3, 1) := by decide +kernel
theorem dX6_stair_92 : decode cX6_stair 92 = .ok (.iload_n 2, 1) := by decide +kernel
theorem dX6_stair_93 : decode cX6_stair 93 = .ok (.iastore, 1) := by decide +kernel
theorem dX6_stair_94 : decode cX6_stair 94 = .ok (.aload_n 0, 1) := by decide +kernel
theorem dX6_stair_95 : decode cX6_stair 95 = .ok (.getfield 10, 3) := by decide +kernel
theorem dX6_stair_98 : decode cX6_stair 98 = .ok (.iload_n 3, 1) := by decide +kernel
theorem dX6_stair_99 : decode cX6_stair 99 = .ok (.iconst 1, 1) := by decide +kernel
theorem dX6_stair_100 : decode cX6_stair 100 = .ok (.iadd, 1) := by decide +kernel
theorem dX6_stair_101 : decode cX6_stair 101 = .ok (.putfield 57, 3) := by decide +kernel
theorem dX6_stair_104 : decode cX6_stair 104 = .ok (.aload_n 0, 1) := by decide +kernel
theorem dX6_stair_105 : decode cX6_stair 105 = .ok (.invokevirtual 65, 3) := by decide +kernel
theorem dX6_stair_108 : decode cX6_stair 108 = .ok (.iload_n 3, 1) := by decide +kernel
theorem dX6_stair_109 : decode cX6_stair 109 = .ok (.ireturn, 1) := by decide +kernel
theorem dX6_of_0 : decode cX6_of 0 = .ok (.aload_n 0, 1) := by decide +kernel
theorem dX6_of_1 : decode cX6_of 1 = .ok (.iload_n 1, 1) := by decide +kernel
theorem dX6_of_2 : decode cX6_of 2 = .ok (.invokevirtual 68, 3) := by decide +kernel
theorem dX6_of_5 : decode cX6_of 5 = .ok (.ifCond .eq 29, 3) := by decide +kernel
theorem dX6_of_8 : decode cX6_of 8 = .ok (.iload_n 2, 1) := by decide +kernel
theorem dX6_of_9 : decode cX6_of 9 = .ok (.iconst 0, 1) := by decide +kernel
theorem dX6_of_10 : decode cX6_of 10 = .ok (.iconst 2, 1) := by decide +kernel
theorem dX6_of_11 : decode cX6_of 11 = .ok (.invokestatic 53, 3) := by decide +kernel
theorem dX6_of_14 : decode cX6_of 14 = .ok (.ifCond .eq 20, 3) := by decide +kernel
theorem dX6_of_17 : decode cX6_of 17 = .ok (.iload_n 3, 1) := by decide +kernel
theorem dX6_of_18 : decode cX6_of 18 = .ok (.getstatic 46, 3) := by decide +kernel
theorem dX6_of_21 : decode cX6_of 21 = .ok (.iload_n 2, 1) := by decide +kernel
theorem dX6_of_22 : decode cX6_of 22 = .ok (.iaload, 1) := by decide +kernel
theorem dX6_of_23 : decode cX6_of 23 = .ok (.getstatic 50, 3) := by decide +kernel
theorem dX6_of_26 : decode cX6_of 26 = .ok (.iload_n 2, 1) := by decide +kernel
theorem dX6_of_27 : decode cX6_of 27 = .ok (.iaload, 1) := by decide +kernel
theorem dX6_of_28 : decode cX6_of 28 = .ok (.invokestatic 53, 3) := by decide +kernel
theorem dX6_of_31 : decode cX6_of 31 = .ok (.ifCond .ne 5, 3) := by decide +kernel
theorem dX6_of_34 : decode cX6_of 34 = .ok (.iconst (-1), 1) := by decide +kernel
theorem dX6_of_35 : decode cX6_of 35 = .ok (.ireturn, 1) := by decide +kernel
theorem dX6_of_36 : decode cX6_of 36 = .ok (.aload_n 0, 1) := by decide +kernel
theorem dX6_of_37 : decode cX6_of 37 = .ok (.getfield 10, 3) := by decide +kernel
theorem dX6_of_40 : decode cX6_of 40 = .ok (.getfield 61, 3) := by decide +kernel
theorem dX6_of_43 : decode cX6_of 43 = .ok (.iload_n 2, 1) := by decide +kernel
theorem dX6_of_44 : decode cX6_of 44 = .ok (.aaload, 1) := by decide +kernel
theorem dX6_of_45 : decode cX6_of 45 = .ok (.iload_n 1, 1) := by decide +kernel
theorem dX6_of_46 : decode cX6_of 46 = .ok (.iaload, 1) := by decide +kernel
theorem dX6_of_47 : decode cX6_of 47 = .ok (.istore 4, 2) := by decide +kernel
theorem dX6_of_49 : decode cX6_of 49 = .ok (.aload_n 0, 1) := by decide +kernel
theorem dX6_of_50 : decode cX6_of 50 = .ok (.getfield 10, 3) := by decide +kernel
theorem dX6_of_53 : decode cX6_of 53 = .ok (.getfield 61, 3) := by decide +kernel
theorem dX6_of_56 : decode cX6_of 56 = .ok (.iload_n 2, 1) := by decide +kernel
theorem dX6_of_57 : decode cX6_of 57 = .ok (.aaload, 1) := by decide +kernel
theorem dX6_of_58 : decode cX6_of 58 = .ok (.iload_n 1, 1) := by decide +kernel
theorem dX6_of_59 : decode cX6_of 59 = .ok (.iload_n 3, 1) := by decide +kernel
theorem dX6_of_60 : decode cX6_of 60 = .ok (.iastore, 1) := by decide +kernel
theorem dX6_of_61 : decode cX6_of 61 = .ok (.aload_n 0, 1) := by decide +kernel
theorem dX6_of_62 : decode cX6_of 62 = .ok (.invokevirtual 65, 3) := by decide +kernel
theorem dX6_of_65 : decode cX6_of 65 = .ok (.iload 4, 2) := by decide +kernel
theorem dX6_of_67 : decode cX6_of 67 = .ok (.ireturn, 1) := by decide +kernel
theorem dX6_set_0 : decode cX6_set 0 = .ok (.iload_n 1, 1) := by decide +kernel
theorem dX6_set_1 : decode cX6_set 1 = .ok (.iconst 0, 1) := by decide +kernel
theorem dX6_set_2 : decode cX6_set 2 = .ok (.bipush 6, 2) := by decide +kernel
theorem dX6_set_4 : decode cX6_set 4 = .ok (.invokestatic 53, 3) := by decide +kernel
theorem dX6_set_7 : decode cX6_set 7 = .ok (.ifCond .eq 20, 3) := by decide +kernel
theorem dX6_set_10 : decode cX6_set 10 = .ok (.iload_n 2, 1) := by decide +kernel
theorem dX6_set_11 : decode cX6_set 11 = .ok (.getstatic 72, 3) := by decide +kernel
theorem dX6_set_14 : decode cX6_set 14 = .ok (.iload_n 1, 1) := by decide +kernel
theorem dX6_set_15 : decode cX6_set 15 = .ok (.iaload, 1) := by decide +kernel
theorem dX6_set_16 : decode cX6_set 16 = .ok (.getstatic 75, 3) := by decide +kernel
theorem dX6_set_19 : decode cX6_set 19 = .ok (.iload_n 1, 1) := by decide +kernel
theorem dX6_set_20 : decode cX6_set 20 = .ok (.iaload, 1) := by decide +kernel
theorem dX6_set_21 : decode cX6_set 21 = .ok (.invokestatic 53, 3) := by decide +kernel
theorem dX6_set_24 : decode cX6_set 24 = .ok (.ifCond .ne 5, 3) := by decide +kernel
theorem dX6_set_27 : decode cX6_set 27 = .ok (.iconst (-1), 1) := by decide +kernel
theorem dX6_set_28 : decode cX6_set 28 = .ok (.ireturn, 1) := by decide +kernel
theorem dX6_set_29 : decode cX6_set 29 = .ok (.aload_n 0, 1) := by decide +kernel
theorem dX6_set_30 : decode cX6_set 30 = .ok (.getfield 10, 3) := by decide +kernel
theorem dX6_set_33 : decode cX6_set 33 = .ok (.getfield 78, 3) := by decide +kernel
theorem dX6_set_36 : decode cX6_set 36 = .ok (.iload_n 1, 1) := by decide +kernel
theorem dX6_set_37 : decode cX6_set 37 = .ok (.iaload, 1) := by decide +kernel
theorem dX6_set_38 : decode cX6_set 38 = .ok (.istore_n 3, 1) := by decide +kernel
theorem dX6_set_39 : decode cX6_set 39 = .ok (.aload_n 0, 1) := by decide +kernel
theorem dX6_set_40 : decode cX6_set 40 = .ok (.getfield 10, 3) := by decide +kernel
theorem dX6_set_43 : decode cX6_set 43 = .ok (.getfield 78, 3) := by decide +kernel
theorem dX6_set_46 : decode cX6_set 46 = .ok (.iload_n 1, 1) := by decide +kernel
theorem dX6_set_47 : decode cX6_set 47 = .ok (.iload_n 2, 1) := by decide +kernel
theorem dX6_set_48 : decode cX6_set 48 = .ok (.iastore, 1) := by decide +kernel
theorem dX6_set_49 : decode cX6_set 49 = .ok (.aload_n 0, 1) := by decide +kernel
theorem dX6_set_50 : decode cX6_set 50 = .ok (.invokevirtual 65, 3) := by decide +kernel
theorem dX6_set_53 : decode cX6_set 53 = .ok (.iload_n 3, 1) := by decide +kernel
theorem dX6_set_54 : decode cX6_set 54 = .ok (.ireturn, 1) := by decide +kernel
theorem dX6_change_0 : decode cX6_change 0 = .ok (.iload_n 1, 1) := by decide +kernel
theorem dX6_change_1 : decode cX6_change 1 = .ok (.iconst 0, 1) := by decide +kernel
theorem dX6_change_2 : decode cX6_change 2 = .ok (.bipush 99, 2) := by decide +kernel
theorem dX6_change_4 : decode cX6_change 4 = .ok (.invokestatic 53, 3) := by decide +kernel
theorem dX6_change_7 : decode cX6_change 7 = .ok (.ifCond .eq 18, 3) := by decide +kernel
theorem dX6_change_10 : decode cX6_change 10 = .ok (.iload_n 2, 1) := by decide +kernel
theorem dX6_change_11 : decode cX6_change 11 = .ok (.iconst 0, 1) := by decide +kernel
theorem dX6_change_12 : decode cX6_change 12 = .ok (.getstatic 81, 3) := by decide +kernel
theorem dX6_change_15 : decode cX6_change 15 = .ok (.iconst 3, 1) := by decide +kernel
theorem dX6_change_16 : decode cX6_change 16 = .ok (.iaload, 1) := by decide +kernel
theorem dX6_change_17 : decode cX6_change 17 = .ok (.iconst 1, 1) := by decide +kernel
theorem dX6_change_18 : decode cX6_change 18 = .ok (.isub, 1) := by decide +kernel
theorem dX6_change_19 : decode cX6_change 19 = .ok (.invokestatic 53, 3) := by decide +kernel
theorem dX6_change_22 : decode cX6_change 22 = .ok (.ifCond .ne 5, 3) := by decide +kernel
theorem dX6_change_25 : decode cX6_change 25 = .ok (.iconst (-1), 1) := by decide +kernel
theorem dX6_change_26 : decode cX6_change 26 = .ok (.ireturn, 1) := by decide +kernel
theorem dX6_change_27 : decode cX6_change 27 = .ok (.aload_n 0, 1) := by decide +kernel
theorem dX6_change_28 : decode cX6_change 28 = .ok (.getfield 10, 3) := by decide +kernel
theorem dX6_change_31 : decode cX6_change 31 = .ok (.getfield 84, 3) := by decide +kernel
theorem dX6_change_34 : decode cX6_change 34 = .ok (.istore_n 3, 1) := by decide +kernel
theorem dX6_change_35 : decode cX6_change 35 = .ok (.aload_n 0, 1) := by decide +kernel
theorem dX6_change_36 : decode cX6_change 36 = .ok (.getfield 10, 3) := by decide +kernel
theorem dX6_change_39 : decode cX6_change 39 = .ok (.iload_n 1, 1) := by decide +kernel
theorem dX6_change_40 : decode cX6_change 40 = .ok (.putfield 84, 3) := by decide +kernel
theorem dX6_change_43 : decode cX6_change 43 = .ok (.aload_n 0, 1) := by decide +kernel
theorem dX6_change_44 : decode cX6_change 44 = .ok (.getfield 10, 3) := by decide +kernel
theorem dX6_change_47 : decode cX6_change 47 = .ok (.iload_n 2, 1) := by decide +kernel
theorem dX6_change_48 : decode cX6_change 48 = .ok (.putfield 87, 3) := by decide +kernel
theorem dX6_change_51 : decode cX6_change 51 = .ok (.aload_n 0, 1) := by decide +kernel
theorem dX6_change_52 : decode cX6_change 52 = .ok (.invokevirtual 65, 3) := by decide +kernel
theorem dX6_change_55 : decode cX6_change 55 = .ok (.iload_n 3, 1) := by decide +kernel
theorem dX6_change_56 : decode cX6_change 56 = .ok (.ireturn, 1) := by decide +kernel
theorem dX6_person_0 : decode cX6_person 0 = .ok (.iload_n 1, 1) := by decide +kernel
theorem dX6_person_1 : decode cX6_person 1 = .ok (.iconst 0, 1) := by decide +kernel
theorem dX6_person_2 : decode cX6_person 2 = .ok (.getstatic 90, 3) := by decide +kernel
theorem dX6_person_5 : decode cX6_person 5 = .ok (.iconst 0, 1) := by decide +kernel
theorem dX6_person_6 : decode cX6_person 6 = .ok (.iaload, 1) := by decide +kernel
theorem dX6_person_7 : decode cX6_person 7 = .ok (.invokestatic 53, 3) := by decide +kernel
theorem dX6_person_10 : decode cX6_person 10 = .ok (.ifCond .eq 29, 3) := by decide +kernel
theorem dX6_person_13 : decode cX6_person 13 = .ok (.iload_n 2, 1) := by decide +kernel
theorem dX6_person_14 : decode cX6_person 14 = .ok (.iconst 0, 1) := by decide +kernel
theorem dX6_person_15 : decode cX6_person 15 = .ok (.getstatic 90, 3) := by decide +kernel
theorem dX6_person_18 : decode cX6_person 18 = .ok (.iconst 1, 1) := by decide +kernel
theorem dX6_person_19 : decode cX6_person 19 = .ok (.iaload, 1) := by decide +kernel
theorem dX6_person_20 : decode cX6_person 20 = .ok (.invokestatic 53, 3) := by decide +kernel
theorem dX6_person_23 : decode cX6_person 23 = .ok (.ifCond .eq 16, 3) := by decide +kernel
theorem dX6_person_26 : decode cX6_person 26 = .ok (.iload_n 3, 1) := by decide +kernel
theorem dX6_person_27 : decode cX6_person 27 = .ok (.iconst 0, 1) := by decide +kernel
theorem dX6_person_28 : decode cX6_person 28 = .ok (.getstatic 90, 3) := by decide +kernel
theorem dX6_person_31 : decode cX6_person 31 = .ok (.iconst 2, 1) := by decide +kernel
theorem dX6_person_32 : decode cX6_person 32 = .ok (.iaload, 1) := by decide +kernel
theorem dX6_person_33 : decode cX6_person 33 = .ok (.invokestatic 53, 3) := by decide +kernel
theorem dX6_person_36 : decode cX6_person 36 = .ok (.ifCond .ne 5, 3) := by decide +kernel
theorem dX6_person_39 : decode cX6_person 39 = .ok (.iconst (-1), 1) := by decide +kernel
theorem dX6_person_40 : decode cX6_person 40 = .ok (.ireturn, 1) := by decide +kernel
theorem dX6_person_41 : decode cX6_person 41 = .ok (.aload_n 0, 1) := by decide +kernel
theorem dX6_person_42 : decode cX6_person 42 = .ok (.getfield 10, 3) := by decide +kernel
theorem dX6_person_45 : decode cX6_person 45 = .ok (.getfield 93, 3) := by decide +kernel
theorem dX6_person_48 : decode cX6_person 48 = .ok (.bipush 14, 2) := by decide +kernel
theorem dX6_person_50 : decode cX6_person 50 = .ok (.if_icmp .lt 6, 3) := by decide +kernel
theorem dX6_person_53 : decode cX6_person 53 = .ok (.bipush (-3), 2) := by decide +kernel
theorem dX6_person_55 : decode cX6_person 55 = .ok (.ireturn, 1) := by decide +kernel
theorem dX6_person_56 : decode cX6_person 56 = .ok (.aload_n 0, 1) := by decide +kernel
theorem dX6_person_57 : decode cX6_person 57 = .ok (.getfield 10, 3) := by decide +kernel
theorem dX6_person_60 : decode cX6_person 60 = .ok (.iload_n 1, 1) := by decide +kernel
theorem dX6_person_61 : decode cX6_person 61 = .ok (.iload_n 2, 1) := by decide +kernel
theorem dX6_person_62 : decode cX6_person 62 = .ok (.iload_n 3, 1) := by decide +kernel
theorem dX6_person_63 : decode cX6_person 63 = .ok (.invokevirtual 96, 3) := by decide +kernel
theorem dX6_person_66 : decode cX6_person 66 = .ok (.aload_n 0, 1) := by decide +kernel
theorem dX6_person_67 : decode cX6_person 67 = .ok (.invokevirtual 65, 3) := by decide +kernel
theorem dX6_person_70 : decode cX6_person 70 = .ok (.aload_n 0, 1) := by decide +kernel
theorem dX6_person_71 : decode cX6_person 71 = .ok (.getfield 10, 3) := by decide +kernel
theorem dX6_person_74 : decode cX6_person 74 = .ok (.getfield 93, 3) := by decide +kernel
theorem dX6_person_77 : decode cX6_person 77 = .ok (.iconst 1, 1) := by decide +kernel
theorem dX6_person_78 : decode cX6_person 78 = .ok (.isub, 1) := by decide +kernel
theorem dX6_person_79 : decode cX6_person 79 = .ok (.ireturn, 1) := by decide +kernel
theorem dX6_told_0 : decode cX6_told 0 = .ok (.aload_n 0, 1) := by decide +kernel
theorem dX6_told_1 : decode cX6_told 1 = .ok (.iload_n 1, 1) := by decide +kernel
theorem dX6_told_2 : decode cX6_told 2 = .ok (.invokevirtual 100, 3) := by decide +kernel
theorem dX6_told_5 : decode cX6_told 5 = .ok (.ifCond .eq 12, 3) := by decide +kernel
theorem dX6_told_8 : decode cX6_told 8 = .ok (.iload_n 2, 1) := by decide +kernel
theorem dX6_told_9 : decode cX6_told 9 = .ok (.iconst 0, 1) := by decide +kernel
theorem dX6_told_10 : decode cX6_told 10 = .ok (.iconst 3, 1) := by decide +kernel
theorem dX6_told_11 : decode cX6_told 11 = .ok (.invokestatic 53, 3) := by decide +kernel
theorem dX6_told_14 : decode cX6_told 14 = .ok (.ifCond .ne 5, 3) := by decide +kernel
theorem dX6_told_17 : decode cX6_told 17 = .ok (.iconst (-1), 1) := by decide +kernel
theorem dX6_told_18 : decode cX6_told 18 = .ok (.ireturn, 1) := by decide +kernel
theorem dX6_told_19 : decode cX6_told 19 = .ok (.iload_n 2, 1) := by decide +kernel
theorem dX6_told_20 : decode cX6_told 20 = .ok (.iconst 2, 1) := by decide +kernel
theorem dX6_told_21 : decode cX6_told 21 = .ok (.if_icmp .gt 17, 3) := by decide +kernel
theorem dX6_told_24 : decode cX6_told 24 = .ok (.aload_n 0, 1) := by decide +kernel
theorem dX6_told_25 : decode cX6_told 25 = .ok (.getfield 10, 3) := by decide +kernel
theorem dX6_told_28 : decode cX6_told 28 = .ok (.getfield 103, 3) := by decide +kernel
theorem dX6_told_31 : decode cX6_told 31 = .ok (.iload_n 2, 1) := by decide +kernel
theorem dX6_told_32 : decode cX6_told 32 = .ok (.aaload, 1) := by decide +kernel
theorem dX6_told_33 : decode cX6_told 33 = .ok (.iload_n 1, 1) := by decide +kernel
theorem dX6_told_34 : decode cX6_told 34 = .ok (.iaload, 1) := by decide +kernel
theorem dX6_told_35 : decode cX6_told 35 = .ok (.goto 17, 3) := by decide +kernel
theorem dX6_told_38 : decode cX6_told 38 = .ok (.aload_n 0, 1) := by decide +kernel
theorem dX6_told_39 : decode cX6_told 39 = .ok (.getfield 10, 3) := by decide +kernel
theorem dX6_told_42 : decode cX6_told 42 = .ok (.getfield 103, 3) := by decide +kernel
theorem dX6_told_45 : decode cX6_told 45 = .ok (.iconst 2, 1) := by decide +kernel
theorem dX6_told_46 : decode cX6_told 46 = .ok (.aaload, 1) := by decide +kernel
theorem dX6_told_47 : decode cX6_told 47 = .ok (.iload_n 1, 1) := by decide +kernel
theorem dX6_told_48 : decode cX6_told 48 = .ok (.iaload, 1) := by decide +kernel
theorem dX6_told_49 : decode cX6_told 49 = .ok (.invokestatic 106, 3) := by decide +kernel
theorem dX6_told_52 : decode cX6_told 52 = .ok (.ireturn, 1) := by decide +kernel
theorem dX6_strike_0 : decode cX6_strike 0 = .ok (.aload_n 0, 1) := by decide +kernel
theorem dX6_strike_1 : decode cX6_strike 1 = .ok (.iload_n 1, 1) := by decide +kernel
theorem dX6_strike_2 : decode cX6_strike 2 = .ok (.invokevirtual 100, 3) := by decide +kernel
theorem dX6_strike_5 : decode cX6_strike 5 = .ok (.ifCond .ne 5, 3) := by decide +kernel
theorem dX6_strike_8 : decode cX6_strike 8 = .ok (.iconst (-1), 1) := by decide +kernel
theorem dX6_strike_9 : decode cX6_strike 9 = .ok (.ireturn, 1) := by decide +kernel
theorem dX6_strike_10 : decode cX6_strike 10 = .ok (.aload_n 0, 1) := by decide +kernel
theorem dX6_strike_11 : decode cX6_strike 11 = .ok (.getfield 10, 3) := by decide +kernel
theorem dX6_strike_14 : decode cX6_strike 14 = .ok (.iload_n 1, 1) := by decide +kernel
theorem dX6_strike_15 : decode cX6_strike 15 = .ok (.invokevirtual 110, 3) := by decide +kernel
theorem dX6_strike_18 : decode cX6_strike 18 = .ok (.aload_n 0, 1) := by decide +kernel
theorem dX6_strike_19 : decode cX6_strike 19 = .ok (.invokevirtual 65, 3) := by decide +kernel
theorem dX6_strike_22 : decode cX6_strike 22 = .ok (.aload_n 0, 1) := by decide +kernel
theorem dX6_strike_23 : decode cX6_strike 23 = .ok (.getfield 10, 3) := by decide +kernel
theorem dX6_strike_26 : decode cX6_strike 26 = .ok (.getfield 93, 3) := by decide +kernel
theorem dX6_strike_29 : decode cX6_strike 29 = .ok (.ireturn, 1) := by decide +kernel
theorem dX6_type_0 : decode cX6_type 0 = .ok (.iload_n 3, 1) := by decide +kernel
theorem dX6_type_1 : decode cX6_type 1 = .ok (.iconst 1, 1) := by decide +kernel
theorem dX6_type_2 : decode cX6_type 2 = .ok (.bipush 8, 2) := by decide +kernel
theorem dX6_type_4 : decode cX6_type 4 = .ok (.invokestatic 53, 3) := by decide +kernel
theorem dX6_type_7 : decode cX6_type 7 = .ok (.ifCond .ne 5, 3) := by decide +kernel
theorem dX6_type_10 : decode cX6_type 10 = .ok (.iconst (-1), 1) := by decide +kernel
theorem dX6_type_11 : decode cX6_type 11 = .ok (.ireturn, 1) := by decide +kernel
theorem dX6_type_12 : decode cX6_type 12 = .ok (.iconst 0, 1) := by decide +kernel
theorem dX6_type_13 : decode cX6_type 13 = .ok (.istore 4, 2) := by decide +kernel
theorem dX6_type_15 : decode cX6_type 15 = .ok (.iload 4, 2) := by decide +kernel
theorem dX6_type_17 : decode cX6_type 17 = .ok (.iload_n 3, 1) := by decide +kernel
theorem dX6_type_18 : decode cX6_type 18 = .ok (.if_icmp .ge 27, 3) := by decide +kernel
theorem dX6_type_21 : decode cX6_type 21 = .ok (.lload_n 1, 1) := by decide +kernel
theorem dX6_type_22 : decode cX6_type 22 = .ok (.iload 4, 2) := by decide +kernel
theorem dX6_type_24 : decode cX6_type 24 = .ok (.invokestatic 114, 3) := by decide +kernel
theorem dX6_type_27 : decode cX6_type 27 = .ok (.bipush 32, 2) := by decide +kernel
theorem dX6_type_29 : decode cX6_type 29 = .ok (.bipush 126, 2) := by decide +kernel
theorem dX6_type_31 : decode cX6_type 31 = .ok (.invokestatic 53, 3) := by decide +kernel
theorem dX6_type_34 : decode cX6_type 34 = .ok (.ifCond .ne 5, 3) := by decide +kernel
theorem dX6_type_37 : decode cX6_type 37 = .ok (.iconst (-1), 1) := by decide +kernel
theorem dX6_type_38 : decode cX6_type 38 = .ok (.ireturn, 1) := by decide +kernel
theorem dX6_type_39 : decode cX6_type 39 = .ok (.iinc 4 1, 3) := by decide +kernel
theorem dX6_type_42 : decode cX6_type 42 = .ok (.goto (-27), 3) := by decide +kernel
theorem dX6_type_45 : decode cX6_type 45 = .ok (.iload_n 3, 1) := by decide +kernel
theorem dX6_type_46 : decode cX6_type 46 = .ok (.bipush 80, 2) := by decide +kernel
theorem dX6_type_48 : decode cX6_type 48 = .ok (.aload_n 0, 1) := by decide +kernel
theorem dX6_type_49 : decode cX6_type 49 = .ok (.getfield 22, 3) := by decide +kernel
theorem dX6_type_52 : decode cX6_type 52 = .ok (.getfield 118, 3) := by decide +kernel
theorem dX6_type_55 : decode cX6_type 55 = .ok (.isub, 1) := by decide +kernel
theorem dX6_type_56 : decode cX6_type 56 = .ok (.if_icmp .le 6, 3) := by decide +kernel
theorem dX6_type_59 : decode cX6_type 59 = .ok (.bipush (-3), 2) := by decide +kernel
theorem dX6_type_61 : decode cX6_type 61 = .ok (.ireturn, 1) := by decide +kernel
theorem dX6_type_62 : decode cX6_type 62 = .ok (.iload_n 3, 1) := by decide +kernel
theorem dX6_type_63 : decode cX6_type 63 = .ok (.iconst 1, 1) := by decide +kernel
theorem dX6_type_64 : decode cX6_type 64 = .ok (.isub, 1) := by decide +kernel
theorem dX6_type_65 : decode cX6_type 65 = .ok (.istore 4, 2) := by decide +kernel
theorem dX6_type_67 : decode cX6_type 67 = .ok (.iload 4, 2) := by decide +kernel
theorem dX6_type_69 : decode cX6_type 69 = .ok (.ifCond .lt 22, 3) := by decide +kernel
theorem dX6_type_72 : decode cX6_type 72 = .ok (.aload_n 0, 1) := by decide +kernel
theorem dX6_type_73 : decode cX6_type 73 = .ok (.getfield 22, 3) := by decide +kernel
theorem dX6_type_76 : decode cX6_type 76 = .ok (.lload_n 1, 1) := by decide +kernel
theorem dX6_type_77 : decode cX6_type 77 = .ok (.iload 4, 2) := by decide +kernel
theorem dX6_type_79 : decode cX6_type 79 = .ok (.invokestatic 114, 3) := by decide +kernel
theorem dX6_type_82 : decode cX6_type 82 = .ok (.invokevirtual 121, 3) := by decide +kernel
theorem dX6_type_85 : decode cX6_type 85 = .ok (.iinc 4 (-1), 3) := by decide +kernel
theorem dX6_type_88 : decode cX6_type 88 = .ok (.goto (-21), 3) := by decide +kernel
theorem dX6_type_91 : decode cX6_type 91 = .ok (.aload_n 0, 1) := by decide +kernel
theorem dX6_type_92 : decode cX6_type 92 = .ok (.getfield 22, 3) := by decide +kernel
theorem dX6_type_95 : decode cX6_type 95 = .ok (.getfield 118, 3) := by decide +kernel
theorem dX6_type_98 : decode cX6_type 98 = .ok (.ireturn, 1) := by decide +kernel
theorem dX6_people_0 : decode cX6_people 0 = .ok (.aload_n 0, 1) := by decide +kernel
theorem dX6_people_1 : decode cX6_people 1 = .ok (.getfield 22, 3) := by decide +kernel
theorem dX6_people_4 : decode cX6_people 4 = .ok (.invokevirtual 124, 3) := by decide +kernel
theorem dX6_people_7 : decode cX6_people 7 = .ok (.istore_n 1, 1) := by decide +kernel
theorem dX6_people_8 : decode cX6_people 8 = .ok (.aload_n 0, 1) := by decide +kernel
theorem dX6_people_9 : decode cX6_people 9 = .ok (.getfield 22, 3) := by decide +kernel
theorem dX6_people_12 : decode cX6_people 12 = .ok (.iconst 0, 1) := by decide +kernel
theorem dX6_people_13 : decode cX6_people 13 = .ok (.putfield 118, 3) := by decide +kernel
theorem dX6_people_16 : decode cX6_people 16 = .ok (.iload_n 1, 1) := by decide +kernel
theorem dX6_people_17 : decode cX6_people 17 = .ok (.ifCond .ge 5, 3) := by decide +kernel
theorem dX6_people_20 : decode cX6_people 20 = .ok (.iload_n 1, 1) := by decide +kernel
theorem dX6_people_21 : decode cX6_people 21 = .ok (.ireturn, 1) := by decide +kernel
theorem dX6_people_22 : decode cX6_people 22 = .ok (.aload_n 0, 1) := by decide +kernel
theorem dX6_people_23 : decode cX6_people 23 = .ok (.getfield 22, 3) := by decide +kernel
theorem dX6_people_26 : decode cX6_people 26 = .ok (.getfield 128, 3) := by decide +kernel
theorem dX6_people_29 : decode cX6_people 29 = .ok (.bipush 14, 2) := by decide +kernel
theorem dX6_people_31 : decode cX6_people 31 = .ok (.aload_n 0, 1) := by decide +kernel
theorem dX6_people_32 : decode cX6_people 32 = .ok (.getfield 10, 3) := by decide +kernel
theorem dX6_people_35 : decode cX6_people 35 = .ok (.getfield 93, 3) := by decide +kernel
theorem dX6_people_38 : decode cX6_people 38 = .ok (.isub, 1) := by decide +kernel
theorem dX6_people_39 : decode cX6_people 39 = .ok (.if_icmp .le 6, 3) := by decide +kernel
theorem dX6_people_42 : decode cX6_people 42 = .ok (.bipush (-3), 2) := by decide +kernel
theorem dX6_people_44 : decode cX6_people 44 = .ok (.ireturn, 1) := by decide +kernel
theorem dX6_people_45 : decode cX6_people 45 = .ok (.iconst 0, 1) := by decide +kernel
theorem dX6_people_46 : decode cX6_people 46 = .ok (.istore_n 2, 1) := by decide +kernel
theorem dX6_people_47 : decode cX6_people 47 = .ok (.iload_n 2, 1) := by decide +kernel
theorem dX6_people_48 : decode cX6_people 48 = .ok (.aload_n 0, 1) := by decide +kernel
theorem dX6_people_49 : decode cX6_people 49 = .ok (.getfield 22, 3) := by decide +kernel
theorem dX6_people_52 : decode cX6_people 52 = .ok (.getfield 128, 3) := by decide +kernel
theorem dX6_people_55 : decode cX6_people 55 = .ok (.if_icmp .ge 49, 3) := by decide +kernel
theorem dX6_people_58 : decode cX6_people 58 = .ok (.aload_n 0, 1) := by decide +kernel
theorem dX6_people_59 : decode cX6_people 59 = .ok (.getfield 10, 3) := by decide +kernel
theorem dX6_people_62 : decode cX6_people 62 = .ok (.aload_n 0, 1) := by decide +kernel
theorem dX6_people_63 : decode cX6_people 63 = .ok (.getfield 22, 3) := by decide +kernel
theorem dX6_people_66 : decode cX6_people 66 = .ok (.getfield 131, 3) := by decide +kernel
theorem dX6_people_69 : decode cX6_people 69 = .ok (.iconst 0, 1) := by decide +kernel
theorem dX6_people_70 : decode cX6_people 70 = .ok (.aaload, 1) := by decide +kernel
theorem dX6_people_71 : decode cX6_people 71 = .ok (.iload_n 2, 1) := by decide +kernel
theorem dX6_people_72 : decode cX6_people 72 = .ok (.iaload, 1) := by decide +kernel
theorem dX6_people_73 : decode cX6_people 73 = .ok (.aload_n 0, 1) := by decide +kernel
theorem dX6_people_74 : decode cX6_people 74 = .ok (.getfield 22, 3) := by decide +kernel
theorem dX6_people_77 : decode cX6_people 77 = .ok (.getfield 131, 3) := by decide +kernel
theorem dX6_people_80 : decode cX6_people 80 = .ok (.iconst 1, 1) := by decide +kernel
theorem dX6_people_81 : decode cX6_people 81 = .ok (.aaload, 1) := by decide +kernel
theorem dX6_people_82 : decode cX6_people 82 = .ok (.iload_n 2, 1) := by decide +kernel
theorem dX6_people_83 : decode cX6_people 83 = .ok (.iaload, 1) := by decide +kernel
theorem dX6_people_84 : decode cX6_people 84 = .ok (.aload_n 0, 1) := by decide +kernel
theorem dX6_people_85 : decode cX6_people 85 = .ok (.getfield 22, 3) := by decide +kernel
theorem dX6_people_88 : decode cX6_people 88 = .ok (.getfield 131, 3) := by decide +kernel
theorem dX6_people_91 : decode cX6_people 91 = .ok (.iconst 2, 1) := by decide +kernel
theorem dX6_people_92 : decode cX6_people 92 = .ok (.aaload, 1) := by decide +kernel
theorem dX6_people_93 : decode cX6_people 93 = .ok (.iload_n 2, 1) := by decide +kernel
theorem dX6_people_94 : decode cX6_people 94 = .ok (.iaload, 1) := by decide +kernel
theorem dX6_people_95 : decode cX6_people 95 = .ok (.invokevirtual 96, 3) := by decide +kernel
theorem dX6_people_98 : decode cX6_people 98 = .ok (.iinc 2 1, 3) := by decide +kernel
theorem dX6_people_101 : decode cX6_people 101 = .ok (.goto (-54), 3) := by decide +kernel
theorem dX6_people_104 : decode cX6_people 104 = .ok (.aload_n 0, 1) := by decide +kernel
theorem dX6_people_105 : decode cX6_people 105 = .ok (.invokevirtual 65, 3) := by decide +kernel
theorem dX6_people_108 : decode cX6_people 108 = .ok (.aload_n 0, 1) := by decide +kernel
theorem dX6_people_109 : decode cX6_people 109 = .ok (.getfield 22, 3) := by decide +kernel
theorem dX6_people_112 : decode cX6_people 112 = .ok (.getfield 128, 3) := by decide +kernel
theorem dX6_people_115 : decode cX6_people 115 = .ok (.ireturn, 1) := by decide +kernel
theorem dX6_count_0 : decode cX6_count 0 = .ok (.iload_n 1, 1) := by decide +kernel
theorem dX6_count_1 : decode cX6_count 1 = .ok (.tableswitch 51 0 2 #[27, 35, 43], 27) := by decide +kernel
theorem dX6_count_28 : decode cX6_count 28 = .ok (.aload_n 0, 1) := by decide +kernel
theorem dX6_count_29 : decode cX6_count 29 = .ok (.getfield 10, 3) := by decide +kernel
theorem dX6_count_32 : decode cX6_count 32 = .ok (.getfield 57, 3) := by decide +kernel
theorem dX6_count_35 : decode cX6_count 35 = .ok (.ireturn, 1) := by decide +kernel
theorem dX6_count_36 : decode cX6_count 36 = .ok (.aload_n 0, 1) := by decide +kernel
theorem dX6_count_37 : decode cX6_count 37 = .ok (.getfield 10, 3) := by decide +kernel
theorem dX6_count_40 : decode cX6_count 40 = .ok (.getfield 93, 3) := by decide +kernel
theorem dX6_count_43 : decode cX6_count 43 = .ok (.ireturn, 1) := by decide +kernel
theorem dX6_count_44 : decode cX6_count 44 = .ok (.aload_n 0, 1) := by decide +kernel
theorem dX6_count_45 : decode cX6_count 45 = .ok (.getfield 10, 3) := by decide +kernel
theorem dX6_count_48 : decode cX6_count 48 = .ok (.invokevirtual 132, 3) := by decide +kernel
theorem dX6_count_51 : decode cX6_count 51 = .ok (.ireturn, 1) := by decide +kernel
theorem dX6_count_52 : decode cX6_count 52 = .ok (.iconst (-1), 1) := by decide +kernel
theorem dX6_count_53 : decode cX6_count 53 = .ok (.ireturn, 1) := by decide +kernel
theorem dX6_fate_0 : decode cX6_fate 0 = .ok (.aload_n 0, 1) := by decide +kernel
theorem dX6_fate_1 : decode cX6_fate 1 = .ok (.iload_n 1, 1) := by decide +kernel
theorem dX6_fate_2 : decode cX6_fate 2 = .ok (.invokevirtual 100, 3) := by decide +kernel
theorem dX6_fate_5 : decode cX6_fate 5 = .ok (.ifCond .eq 12, 3) := by decide +kernel
theorem dX6_fate_8 : decode cX6_fate 8 = .ok (.iload_n 2, 1) := by decide +kernel
theorem dX6_fate_9 : decode cX6_fate 9 = .ok (.iconst 0, 1) := by decide +kernel
theorem dX6_fate_10 : decode cX6_fate 10 = .ok (.iconst 4, 1) := by decide +kernel
theorem dX6_fate_11 : decode cX6_fate 11 = .ok (.invokestatic 53, 3) := by decide +kernel
theorem dX6_fate_14 : decode cX6_fate 14 = .ok (.ifCond .ne 5, 3) := by decide +kernel
theorem dX6_fate_17 : decode cX6_fate 17 = .ok (.iconst (-1), 1) := by decide +kernel
theorem dX6_fate_18 : decode cX6_fate 18 = .ok (.ireturn, 1) := by decide +kernel
theorem dX6_fate_19 : decode cX6_fate 19 = .ok (.aload_n 0, 1) := by decide +kernel
theorem dX6_fate_20 : decode cX6_fate 20 = .ok (.invokevirtual 135, 3) := by decide +kernel
theorem dX6_fate_23 : decode cX6_fate 23 = .ok (.getfield 139, 3) := by decide +kernel
theorem dX6_fate_26 : decode cX6_fate 26 = .ok (.iload_n 1, 1) := by decide +kernel
theorem dX6_fate_27 : decode cX6_fate 27 = .ok (.aaload, 1) := by decide +kernel
theorem dX6_fate_28 : decode cX6_fate 28 = .ok (.astore_n 3, 1) := by decide +kernel
theorem dX6_fate_29 : decode cX6_fate 29 = .ok (.iload_n 2, 1) := by decide +kernel
theorem dX6_fate_30 : decode cX6_fate 30 = .ok (.tableswitch 59 0 3 #[30, 38, 46, 54], 30) := by decide +kernel
theorem dX6_fate_60 : decode cX6_fate 60 = .ok (.aload_n 3, 1) := by decide +kernel
theorem dX6_fate_61 : decode cX6_fate 61 = .ok (.getfield 143, 3) := by decide +kernel
theorem dX6_fate_64 : decode cX6_fate 64 = .ok (.invokestatic 148, 3) := by decide +kernel
theorem dX6_fate_67 : decode cX6_fate 67 = .ok (.ireturn, 1) := by decide +kernel
theorem dX6_fate_68 : decode cX6_fate 68 = .ok (.aload_n 3, 1) := by decide +kernel
theorem dX6_fate_69 : decode cX6_fate 69 = .ok (.getfield 151, 3) := by decide +kernel
theorem dX6_fate_72 : decode cX6_fate 72 = .ok (.invokestatic 148, 3) := by decide +kernel
theorem dX6_fate_75 : decode cX6_fate 75 = .ok (.ireturn, 1) := by decide +kernel
theorem dX6_fate_76 : decode cX6_fate 76 = .ok (.aload_n 3, 1) := by decide +kernel
theorem dX6_fate_77 : decode cX6_fate 77 = .ok (.getfield 153, 3) := by decide +kernel
theorem dX6_fate_80 : decode cX6_fate 80 = .ok (.invokestatic 148, 3) := by decide +kernel
theorem dX6_fate_83 : decode cX6_fate 83 = .ok (.ireturn, 1) := by decide +kernel
theorem dX6_fate_84 : decode cX6_fate 84 = .ok (.aload_n 3, 1) := by decide +kernel
theorem dX6_fate_85 : decode cX6_fate 85 = .ok (.invokevirtual 156, 3) := by decide +kernel
theorem dX6_fate_88 : decode cX6_fate 88 = .ok (.ireturn, 1) := by decide +kernel
theorem dX6_fate_89 : decode cX6_fate 89 = .ok (.aload_n 3, 1) := by decide +kernel
theorem dX6_fate_90 : decode cX6_fate 90 = .ok (.getfield 159, 3) := by decide +kernel
theorem dX6_fate_93 : decode cX6_fate 93 = .ok (.ifCond .eq 7, 3) := by decide +kernel
theorem dX6_fate_96 : decode cX6_fate 96 = .ok (.iconst 1, 1) := by decide +kernel
theorem dX6_fate_97 : decode cX6_fate 97 = .ok (.goto 4, 3) := by decide +kernel
theorem dX6_fate_100 : decode cX6_fate 100 = .ok (.iconst 0, 1) := by decide +kernel
theorem dX6_fate_101 : decode cX6_fate 101 = .ok (.ireturn, 1) := by decide +kernel
theorem dX6_at_0 : decode cX6_at 0 = .ok (.iload_n 1, 1) := by decide +kernel
theorem dX6_at_1 : decode cX6_at 1 = .ok (.iconst 0, 1) := by decide +kernel
theorem dX6_at_2 : decode cX6_at 2 = .ok (.bipush 99, 2) := by decide +kernel
theorem dX6_at_4 : decode cX6_at 4 = .ok (.invokestatic 53, 3) := by decide +kernel
theorem dX6_at_7 : decode cX6_at 7 = .ok (.ifCond .eq 12, 3) := by decide +kernel
theorem dX6_at_10 : decode cX6_at 10 = .ok (.iload_n 2, 1) := by decide +kernel
theorem dX6_at_11 : decode cX6_at 11 = .ok (.iconst 0, 1) := by decide +kernel
theorem dX6_at_12 : decode cX6_at 12 = .ok (.iconst 4, 1) := by decide +kernel
theorem dX6_at_13 : decode cX6_at 13 = .ok (.invokestatic 53, 3) := by decide +kernel
theorem dX6_at_16 : decode cX6_at 16 = .ok (.ifCond .ne 5, 3) := by decide +kernel
theorem dX6_at_19 : decode cX6_at 19 = .ok (.iconst (-1), 1) := by decide +kernel
theorem dX6_at_20 : decode cX6_at 20 = .ok (.ireturn, 1) := by decide +kernel
theorem dX6_at_21 : decode cX6_at 21 = .ok (.aload_n 0, 1) := by decide +kernel
theorem dX6_at_22 : decode cX6_at 22 = .ok (.getfield 39, 3) := by decide +kernel
theorem dX6_at_25 : decode cX6_at 25 = .ok (.aload_n 0, 1) := by decide +kernel
theorem dX6_at_26 : decode cX6_at 26 = .ok (.getfield 10, 3) := by decide +kernel
theorem dX6_at_29 : decode cX6_at 29 = .ok (.iconst (-1), 1) := by decide +kernel
theorem dX6_at_30 : decode cX6_at 30 = .ok (.invokevirtual 163, 3) := by decide +kernel
theorem dX6_at_33 : decode cX6_at 33 = .ok (.aload_n 0, 1) := by decide +kernel
theorem dX6_at_34 : decode cX6_at 34 = .ok (.getfield 39, 3) := by decide +kernel
theorem dX6_at_37 : decode cX6_at 37 = .ok (.iconst 0, 1) := by decide +kernel
theorem dX6_at_38 : decode cX6_at 38 = .ok (.iload_n 1, 1) := by decide +kernel
theorem dX6_at_39 : decode cX6_at 39 = .ok (.invokevirtual 167, 3) := by decide +kernel
theorem dX6_at_42 : decode cX6_at 42 = .ok (.iload_n 2, 1) := by decide +kernel
theorem dX6_at_43 : decode cX6_at 43 = .ok (.iconst 3, 1) := by decide +kernel
theorem dX6_at_44 : decode cX6_at 44 = .ok (.if_icmp .gt 14, 3) := by decide +kernel
theorem dX6_at_47 : decode cX6_at 47 = .ok (.aload_n 0, 1) := by decide +kernel
theorem dX6_at_48 : decode cX6_at 48 = .ok (.getfield 39, 3) := by decide +kernel
theorem dX6_at_51 : decode cX6_at 51 = .ok (.iload_n 2, 1) := by decide +kernel
theorem dX6_at_52 : decode cX6_at 52 = .ok (.invokevirtual 171, 3) := by decide +kernel
theorem dX6_at_55 : decode cX6_at 55 = .ok (.goto 10, 3) := by decide +kernel
theorem dX6_at_58 : decode cX6_at 58 = .ok (.aload_n 0, 1) := by decide +kernel
theorem dX6_at_59 : decode cX6_at 59 = .ok (.getfield 39, 3) := by decide +kernel
theorem dX6_at_62 : decode cX6_at 62 = .ok (.invokevirtual 174, 3) := by decide +kernel
theorem dX6_at_65 : decode cX6_at 65 = .ok (.ireturn, 1) := by decide +kernel
theorem dX6_on_0 : decode cX6_on 0 = .ok (.iload_n 1, 1) := by decide +kernel
theorem dX6_on_1 : decode cX6_on 1 = .ok (.iconst 0, 1) := by decide +kernel
theorem dX6_on_2 : decode cX6_on 2 = .ok (.bipush 99, 2) := by decide +kernel
theorem dX6_on_4 : decode cX6_on 4 = .ok (.invokestatic 53, 3) := by decide +kernel
theorem dX6_on_7 : decode cX6_on 7 = .ok (.ifCond .eq 42, 3) := by decide +kernel
theorem dX6_on_10 : decode cX6_on 10 = .ok (.aload_n 0, 1) := by decide +kernel
theorem dX6_on_11 : decode cX6_on 11 = .ok (.iload_n 2, 1) := by decide +kernel
theorem dX6_on_12 : decode cX6_on 12 = .ok (.invokevirtual 68, 3) := by decide +kernel
theorem dX6_on_15 : decode cX6_on 15 = .ok (.ifCond .eq 34, 3) := by decide +kernel
theorem dX6_on_18 : decode cX6_on 18 = .ok (.iload 4, 2) := by decide +kernel
theorem dX6_on_20 : decode cX6_on 20 = .ok (.iconst 0, 1) := by decide +kernel
theorem dX6_on_21 : decode cX6_on 21 = .ok (.iconst 1, 1) := by decide +kernel
theorem dX6_on_22 : decode cX6_on 22 = .ok (.invokestatic 53, 3) := by decide +kernel
theorem dX6_on_25 : decode cX6_on 25 = .ok (.ifCond .eq 24, 3) := by decide +kernel
theorem dX6_on_28 : decode cX6_on 28 = .ok (.iload_n 3, 1) := by decide +kernel
theorem dX6_on_29 : decode cX6_on 29 = .ok (.iconst 0, 1) := by decide +kernel
theorem dX6_on_30 : decode cX6_on 30 = .ok (.aload_n 0, 1) := by decide +kernel
theorem dX6_on_31 : decode cX6_on 31 = .ok (.getfield 10, 3) := by decide +kernel
theorem dX6_on_34 : decode cX6_on 34 = .ok (.getfield 61, 3) := by decide +kernel
theorem dX6_on_37 : decode cX6_on 37 = .ok (.iconst 0, 1) := by decide +kernel
theorem dX6_on_38 : decode cX6_on 38 = .ok (.aaload, 1) := by decide +kernel
theorem dX6_on_39 : decode cX6_on 39 = .ok (.iload_n 2, 1) := by decide +kernel
theorem dX6_on_40 : decode cX6_on 40 = .ok (.iaload, 1) := by decide +kernel
theorem dX6_on_41 : decode cX6_on 41 = .ok (.iconst 1, 1) := by decide +kernel
theorem dX6_on_42 : decode cX6_on 42 = .ok (.isub, 1) := by decide +kernel
theorem dX6_on_43 : decode cX6_on 43 = .ok (.invokestatic 53, 3) := by decide +kernel
theorem dX6_on_46 : decode cX6_on 46 = .ok (.ifCond .ne 5, 3) := by decide +kernel
theorem dX6_on_49 : decode cX6_on 49 = .ok (.iconst (-1), 1) := by decide +kernel
theorem dX6_on_50 : decode cX6_on 50 = .ok (.ireturn, 1) := by decide +kernel
theorem dX6_on_51 : decode cX6_on 51 = .ok (.aload_n 0, 1) := by decide +kernel
theorem dX6_on_52 : decode cX6_on 52 = .ok (.getfield 39, 3) := by decide +kernel
theorem dX6_on_55 : decode cX6_on 55 = .ok (.aload_n 0, 1) := by decide +kernel
theorem dX6_on_56 : decode cX6_on 56 = .ok (.getfield 10, 3) := by decide +kernel
theorem dX6_on_59 : decode cX6_on 59 = .ok (.iconst (-1), 1) := by decide +kernel
theorem dX6_on_60 : decode cX6_on 60 = .ok (.invokevirtual 163, 3) := by decide +kernel
theorem dX6_on_63 : decode cX6_on 63 = .ok (.aload_n 0, 1) := by decide +kernel
theorem dX6_on_64 : decode cX6_on 64 = .ok (.getfield 39, 3) := by decide +kernel
theorem dX6_on_67 : decode cX6_on 67 = .ok (.iconst 0, 1) := by decide +kernel
theorem dX6_on_68 : decode cX6_on 68 = .ok (.iload_n 1, 1) := by decide +kernel
theorem dX6_on_69 : decode cX6_on 69 = .ok (.invokevirtual 167, 3) := by decide +kernel
theorem dX6_on_72 : decode cX6_on 72 = .ok (.aload_n 0, 1) := by decide +kernel
theorem dX6_on_73 : decode cX6_on 73 = .ok (.getfield 39, 3) := by decide +kernel
theorem dX6_on_76 : decode cX6_on 76 = .ok (.getfield 177, 3) := by decide +kernel
theorem dX6_on_79 : decode cX6_on 79 = .ok (.iload_n 2, 1) := by decide +kernel
theorem dX6_on_80 : decode cX6_on 80 = .ok (.aaload, 1) := by decide +kernel
theorem dX6_on_81 : decode cX6_on 81 = .ok (.iload_n 3, 1) := by decide +kernel
theorem dX6_on_82 : decode cX6_on 82 = .ok (.iload 4, 2) := by decide +kernel
theorem dX6_on_84 : decode cX6_on 84 = .ok (.invokevirtual 181, 3) := by decide +kernel
theorem dX6_on_87 : decode cX6_on 87 = .ok (.invokestatic 148, 3) := by decide +kernel
theorem dX6_on_90 : decode cX6_on 90 = .ok (.ireturn, 1) := by decide +kernel
theorem dX6_all_0 : decode cX6_all 0 = .ok (.iload_n 1, 1) := by decide +kernel
theorem dX6_all_1 : decode cX6_all 1 = .ok (.iconst 0, 1) := by decide +kernel
theorem dX6_all_2 : decode cX6_all 2 = .ok (.bipush 6, 2) := by decide +kernel
theorem dX6_all_4 : decode cX6_all 4 = .ok (.invokestatic 53, 3) := by decide +kernel
theorem dX6_all_7 : decode cX6_all 7 = .ok (.ifCond .ne 5, 3) := by decide +kernel
theorem dX6_all_10 : decode cX6_all 10 = .ok (.iconst (-1), 1) := by decide +kernel
theorem dX6_all_11 : decode cX6_all 11 = .ok (.ireturn, 1) := by decide +kernel
theorem dX6_all_12 : decode cX6_all 12 = .ok (.aload_n 0, 1) := by decide +kernel
theorem dX6_all_13 : decode cX6_all 13 = .ok (.invokevirtual 135, 3) := by decide +kernel
theorem dX6_all_16 : decode cX6_all 16 = .ok (.astore_n 2, 1) := by decide +kernel
theorem dX6_all_17 : decode cX6_all 17 = .ok (.iload_n 1, 1) := by decide +kernel
theorem dX6_all_18 : decode cX6_all 18 = .ok (.tableswitch 70 0 5 #[38, 43, 48, 53, 58, 63], 38) := by decide +kernel
theorem dX6_all_56 : decode cX6_all 56 = .ok (.aload_n 2, 1) := by decide +kernel
theorem dX6_all_57 : decode cX6_all 57 = .ok (.getfield 187, 3) := by decide +kernel
theorem dX6_all_60 : decode cX6_all 60 = .ok (.ireturn, 1) := by decide +kernel
theorem dX6_all_61 : decode cX6_all 61 = .ok (.aload_n 2, 1) := by decide +kernel
theorem dX6_all_62 : decode cX6_all 62 = .ok (.getfield 190, 3) := by decide +kernel
theorem dX6_all_65 : decode cX6_all 65 = .ok (.ireturn, 1) := by decide +kernel
theorem dX6_all_66 : decode cX6_all 66 = .ok (.aload_n 2, 1) := by decide +kernel
theorem dX6_all_67 : decode cX6_all 67 = .ok (.getfield 193, 3) := by decide +kernel
theorem dX6_all_70 : decode cX6_all 70 = .ok (.ireturn, 1) := by decide +kernel
theorem dX6_all_71 : decode cX6_all 71 = .ok (.aload_n 2, 1) := by decide +kernel
theorem dX6_all_72 : decode cX6_all 72 = .ok (.getfield 196, 3) := by decide +kernel
theorem dX6_all_75 : decode cX6_all 75 = .ok (.ireturn, 1) := by decide +kernel
theorem dX6_all_76 : decode cX6_all 76 = .ok (.aload_n 2, 1) := by decide +kernel
theorem dX6_all_77 : decode cX6_all 77 = .ok (.invokevirtual 199, 3) := by decide +kernel
theorem dX6_all_80 : decode cX6_all 80 = .ok (.ireturn, 1) := by decide +kernel
theorem dX6_all_81 : decode cX6_all 81 = .ok (.aload_n 2, 1) := by decide +kernel
theorem dX6_all_82 : decode cX6_all 82 = .ok (.bipush 99, 2) := by decide +kernel
theorem dX6_all_84 : decode cX6_all 84 = .ok (.invokevirtual 202, 3) := by decide +kernel
theorem dX6_all_87 : decode cX6_all 87 = .ok (.ireturn, 1) := by decide +kernel
theorem dX6_all_88 : decode cX6_all 88 = .ok (.aload_n 2, 1) := by decide +kernel
theorem dX6_all_89 : decode cX6_all 89 = .ok (.invokevirtual 205, 3) := by decide +kernel
theorem dX6_all_92 : decode cX6_all 92 = .ok (.ireturn, 1) := by decide +kernel
theorem dX6_ways_0 : decode cX6_ways 0 = .ok (.iload_n 1, 1) := by decide +kernel
theorem dX6_ways_1 : decode cX6_ways 1 = .ok (.iconst 0, 1) := by decide +kernel
theorem dX6_ways_2 : decode cX6_ways 2 = .ok (.iconst 1, 1) := by decide +kernel
theorem dX6_ways_3 : decode cX6_ways 3 = .ok (.invokestatic 53, 3) := by decide +kernel
theorem dX6_ways_6 : decode cX6_ways 6 = .ok (.ifCond .ne 5, 3) := by decide +kernel
theorem dX6_ways_9 : decode cX6_ways 9 = .ok (.iconst (-1), 1) := by decide +kernel
theorem dX6_ways_10 : decode cX6_ways 10 = .ok (.ireturn, 1) := by decide +kernel
theorem dX6_ways_11 : decode cX6_ways 11 = .ok (.aload_n 0, 1) := by decide +kernel
theorem dX6_ways_12 : decode cX6_ways 12 = .ok (.getfield 10, 3) := by decide +kernel
theorem dX6_ways_15 : decode cX6_ways 15 = .ok (.getfield 57, 3) := by decide +kernel
theorem dX6_ways_18 : decode cX6_ways 18 = .ok (.ifCond .ne 6, 3) := by decide +kernel
theorem dX6_ways_21 : decode cX6_ways 21 = .ok (.bipush (-2), 2) := by decide +kernel
theorem dX6_ways_23 : decode cX6_ways 23 = .ok (.ireturn, 1) := by decide +kernel
theorem dX6_ways_24 : decode cX6_ways 24 = .ok (.ldc 208, 2) := by decide +kernel
theorem dX6_ways_26 : decode cX6_ways 26 = .ok (.istore_n 2, 1) := by decide +kernel
theorem dX6_ways_27 : decode cX6_ways 27 = .ok (.iconst 0, 1) := by decide +kernel
theorem dX6_ways_28 : decode cX6_ways 28 = .ok (.istore_n 3, 1) := by decide +kernel
theorem dX6_ways_29 : decode cX6_ways 29 = .ok (.iconst 0, 1) := by decide +kernel
theorem dX6_ways_30 : decode cX6_ways 30 = .ok (.istore 4, 2) := by decide +kernel
theorem dX6_ways_32 : decode cX6_ways 32 = .ok (.iload 4, 2) := by decide +kernel
theorem dX6_ways_34 : decode cX6_ways 34 = .ok (.getstatic 81, 3) := by decide +kernel
theorem dX6_ways_37 : decode cX6_ways 37 = .ok (.aload_n 0, 1) := by decide +kernel
theorem dX6_ways_38 : decode cX6_ways 38 = .ok (.getfield 10, 3) := by decide +kernel
theorem dX6_ways_41 : decode cX6_ways 41 = .ok (.getfield 57, 3) := by decide +kernel
theorem dX6_ways_44 : decode cX6_ways 44 = .ok (.iaload, 1) := by decide +kernel
theorem dX6_ways_45 : decode cX6_ways 45 = .ok (.if_icmp .ge 53, 3) := by decide +kernel
theorem dX6_ways_48 : decode cX6_ways 48 = .ok (.aload_n 0, 1) := by decide +kernel
theorem dX6_ways_49 : decode cX6_ways 49 = .ok (.getfield 39, 3) := by decide +kernel
theorem dX6_ways_52 : decode cX6_ways 52 = .ok (.aload_n 0, 1) := by decide +kernel
theorem dX6_ways_53 : decode cX6_ways 53 = .ok (.getfield 10, 3) := by decide +kernel
theorem dX6_ways_56 : decode cX6_ways 56 = .ok (.iload 4, 2) := by decide +kernel
theorem dX6_ways_58 : decode cX6_ways 58 = .ok (.invokevirtual 209, 3) := by decide +kernel
theorem dX6_ways_61 : decode cX6_ways 61 = .ok (.aload_n 0, 1) := by decide +kernel
theorem dX6_ways_62 : decode cX6_ways 62 = .ok (.getfield 39, 3) := by decide +kernel
theorem dX6_ways_65 : decode cX6_ways 65 = .ok (.iconst 0, 1) := by decide +kernel
theorem dX6_ways_66 : decode cX6_ways 66 = .ok (.iload_n 2, 1) := by decide +kernel
theorem dX6_ways_67 : decode cX6_ways 67 = .ok (.invokevirtual 212, 3) := by decide +kernel
theorem dX6_ways_70 : decode cX6_ways 70 = .ok (.aload_n 0, 1) := by decide +kernel
theorem dX6_ways_71 : decode cX6_ways 71 = .ok (.getfield 39, 3) := by decide +kernel
theorem dX6_ways_74 : decode cX6_ways 74 = .ok (.getfield 187, 3) := by decide +kernel
theorem dX6_ways_77 : decode cX6_ways 77 = .ok (.iload_n 2, 1) := by decide +kernel
theorem dX6_ways_78 : decode cX6_ways 78 = .ok (.if_icmp .ge 14, 3) := by decide +kernel
theorem dX6_ways_81 : decode cX6_ways 81 = .ok (.aload_n 0, 1) := by decide +kernel
theorem dX6_ways_82 : decode cX6_ways 82 = .ok (.getfield 39, 3) := by decide +kernel
theorem dX6_ways_85 : decode cX6_ways 85 = .ok (.getfield 187, 3) := by decide +kernel
theorem dX6_ways_88 : decode cX6_ways 88 = .ok (.istore_n 2, 1) := by decide +kernel
theorem dX6_ways_89 : decode cX6_ways 89 = .ok (.iload 4, 2) := by decide +kernel
theorem dX6_ways_91 : decode cX6_ways 91 = .ok (.istore_n 3, 1) := by decide +kernel
theorem dX6_ways_92 : decode cX6_ways 92 = .ok (.iinc 4 1, 3) := by decide +kernel
theorem dX6_ways_95 : decode cX6_ways 95 = .ok (.goto (-63), 3) := by decide +kernel
theorem dX6_ways_98 : decode cX6_ways 98 = .ok (.iload_n 1, 1) := by decide +kernel
theorem dX6_ways_99 : decode cX6_ways 99 = .ok (.ifCond .ne 7, 3) := by decide +kernel
theorem dX6_ways_102 : decode cX6_ways 102 = .ok (.iload_n 3, 1) := by decide +kernel
theorem dX6_ways_103 : decode cX6_ways 103 = .ok (.goto 4, 3) := by decide +kernel
theorem dX6_ways_106 : decode cX6_ways 106 = .ok (.iload_n 2, 1) := by decide +kernel
theorem dX6_ways_107 : decode cX6_ways 107 = .ok (.ireturn, 1) := by decide +kernel
theorem dX6_best_0 : decode cX6_best 0 = .ok (.iload_n 1, 1) := by decide +kernel
theorem dX6_best_1 : decode cX6_best 1 = .ok (.iconst 1, 1) := by decide +kernel
theorem dX6_best_2 : decode cX6_best 2 = .ok (.bipush 99, 2) := by decide +kernel
theorem dX6_best_4 : decode cX6_best 4 = .ok (.invokestatic 53, 3) := by decide +kernel
theorem dX6_best_7 : decode cX6_best 7 = .ok (.ifCond .eq 12, 3) := by decide +kernel
theorem dX6_best_10 : decode cX6_best 10 = .ok (.iload_n 2, 1) := by decide +kernel
theorem dX6_best_11 : decode cX6_best 11 = .ok (.iconst 0, 1) := by decide +kernel
theorem dX6_best_12 : decode cX6_best 12 = .ok (.iconst 2, 1) := by decide +kernel
theorem dX6_best_13 : decode cX6_best 13 = .ok (.invokestatic 53, 3) := by decide +kernel
theorem dX6_best_16 : decode cX6_best 16 = .ok (.ifCond .ne 5, 3) := by decide +kernel
theorem dX6_best_19 : decode cX6_best 19 = .ok (.iconst (-1), 1) := by decide +kernel
theorem dX6_best_20 : decode cX6_best 20 = .ok (.ireturn, 1) := by decide +kernel
theorem dX6_best_21 : decode cX6_best 21 = .ok (.aload_n 0, 1) := by decide +kernel
theorem dX6_best_22 : decode cX6_best 22 = .ok (.getfield 10, 3) := by decide +kernel
theorem dX6_best_25 : decode cX6_best 25 = .ok (.getfield 57, 3) := by decide +kernel
theorem dX6_best_28 : decode cX6_best 28 = .ok (.ifCond .ne 6, 3) := by decide +kernel
theorem dX6_best_31 : decode cX6_best 31 = .ok (.bipush (-2), 2) := by decide +kernel
theorem dX6_best_33 : decode cX6_best 33 = .ok (.ireturn, 1) := by decide +kernel
theorem dX6_best_34 : decode cX6_best 34 = .ok (.aload_n 0, 1) := by decide +kernel
theorem dX6_best_35 : decode cX6_best 35 = .ok (.getfield 215, 3) := by decide +kernel
theorem dX6_best_38 : decode cX6_best 38 = .ok (.iload_n 1, 1) := by decide +kernel
theorem dX6_best_39 : decode cX6_best 39 = .ok (.if_icmp .eq 8, 3) := by decide +kernel
theorem dX6_best_42 : decode cX6_best 42 = .ok (.aload_n 0, 1) := by decide +kernel
theorem dX6_best_43 : decode cX6_best 43 = .ok (.iload_n 1, 1) := by decide +kernel
theorem dX6_best_44 : decode cX6_best 44 = .ok (.invokevirtual 218, 3) := by decide +kernel
theorem dX6_best_47 : decode cX6_best 47 = .ok (.iload_n 2, 1) := by decide +kernel
theorem dX6_best_48 : decode cX6_best 48 = .ok (.lookupswitch 38 #[(0, 28), (1, 33)], 28) := by decide +kernel
theorem dX6_best_76 : decode cX6_best 76 = .ok (.aload_n 0, 1) := by decide +kernel
theorem dX6_best_77 : decode cX6_best 77 = .ok (.getfield 221, 3) := by decide +kernel
theorem dX6_best_80 : decode cX6_best 80 = .ok (.ireturn, 1) := by decide +kernel
theorem dX6_best_81 : decode cX6_best 81 = .ok (.aload_n 0, 1) := by decide +kernel
theorem dX6_best_82 : decode cX6_best 82 = .ok (.getfield 224, 3) := by decide +kernel
theorem dX6_best_85 : decode cX6_best 85 = .ok (.ireturn, 1) := by decide +kernel
theorem dX6_best_86 : decode cX6_best 86 = .ok (.aload_n 0, 1) := by decide +kernel
theorem dX6_best_87 : decode cX6_best 87 = .ok (.getfield 227, 3) := by decide +kernel
theorem dX6_best_90 : decode cX6_best 90 = .ok (.ireturn, 1) := by decide +kernel
theorem dX6_thrift_0 : decode cX6_thrift 0 = .ok (.iload_n 1, 1) := by decide +kernel
theorem dX6_thrift_1 : decode cX6_thrift 1 = .ok (.iconst 0, 1) := by decide +kernel
theorem dX6_thrift_2 : decode cX6_thrift 2 = .ok (.bipush 99, 2) := by decide +kernel
theorem dX6_thrift_4 : decode cX6_thrift 4 = .ok (.invokestatic 53, 3) := by decide +kernel
theorem dX6_thrift_7 : decode cX6_thrift 7 = .ok (.ifCond .eq 12, 3) := by decide +kernel
theorem dX6_thrift_10 : decode cX6_thrift 10 = .ok (.iload_n 2, 1) := by decide +kernel
theorem dX6_thrift_11 : decode cX6_thrift 11 = .ok (.iconst 0, 1) := by decide +kernel
theorem dX6_thrift_12 : decode cX6_thrift 12 = .ok (.iconst 1, 1) := by decide +kernel
theorem dX6_thrift_13 : decode cX6_thrift 13 = .ok (.invokestatic 53, 3) := by decide +kernel
theorem dX6_thrift_16 : decode cX6_thrift 16 = .ok (.ifCond .ne 5, 3) := by decide +kernel
theorem dX6_thrift_19 : decode cX6_thrift 19 = .ok (.iconst (-1), 1) := by decide +kernel
theorem dX6_thrift_20 : decode cX6_thrift 20 = .ok (.ireturn, 1) := by decide +kernel
theorem dX6_thrift_21 : decode cX6_thrift 21 = .ok (.aload_n 0, 1) := by decide +kernel
theorem dX6_thrift_22 : decode cX6_thrift 22 = .ok (.getfield 10, 3) := by decide +kernel
theorem dX6_thrift_25 : decode cX6_thrift 25 = .ok (.getfield 57, 3) := by decide +kernel
theorem dX6_thrift_28 : decode cX6_thrift 28 = .ok (.ifCond .ne 6, 3) := by decide +kernel
theorem dX6_thrift_31 : decode cX6_thrift 31 = .ok (.bipush (-2), 2) := by decide +kernel
theorem dX6_thrift_33 : decode cX6_thrift 33 = .ok (.ireturn, 1) := by decide +kernel
theorem dX6_thrift_34 : decode cX6_thrift 34 = .ok (.ldc 208, 2) := by decide +kernel
theorem dX6_thrift_36 : decode cX6_thrift 36 = .ok (.istore_n 3, 1) := by decide +kernel
theorem dX6_thrift_37 : decode cX6_thrift 37 = .ok (.bipush (-4), 2) := by decide +kernel
theorem dX6_thrift_39 : decode cX6_thrift 39 = .ok (.istore 4, 2) := by decide +kernel
theorem dX6_thrift_41 : decode cX6_thrift 41 = .ok (.iconst 0, 1) := by decide +kernel
theorem dX6_thrift_42 : decode cX6_thrift 42 = .ok (.istore 5, 2) := by decide +kernel
theorem dX6_thrift_44 : decode cX6_thrift 44 = .ok (.iload 5, 2) := by decide +kernel
theorem dX6_thrift_46 : decode cX6_thrift 46 = .ok (.iconst 1, 1) := by decide +kernel
theorem dX6_thrift_47 : decode cX6_thrift 47 = .ok (.aload_n 0, 1) := by decide +kernel
theorem dX6_thrift_48 : decode cX6_thrift 48 = .ok (.getfield 10, 3) := by decide +kernel
theorem dX6_thrift_51 : decode cX6_thrift 51 = .ok (.getfield 57, 3) := by decide +kernel
theorem dX6_thrift_54 : decode cX6_thrift 54 = .ok (.ishl, 1) := by decide +kernel
theorem dX6_thrift_55 : decode cX6_thrift 55 = .ok (.if_icmp .ge 74, 3) := by decide +kernel
theorem dX6_thrift_58 : decode cX6_thrift 58 = .ok (.aload_n 0, 1) := by decide +kernel
theorem dX6_thrift_59 : decode cX6_thrift 59 = .ok (.getfield 39, 3) := by decide +kernel
theorem dX6_thrift_62 : decode cX6_thrift 62 = .ok (.aload_n 0, 1) := by decide +kernel
theorem dX6_thrift_63 : decode cX6_thrift 63 = .ok (.getfield 10, 3) := by decide +kernel
theorem dX6_thrift_66 : decode cX6_thrift 66 = .ok (.iconst (-1), 1) := by decide +kernel
theorem dX6_thrift_67 : decode cX6_thrift 67 = .ok (.invokevirtual 163, 3) := by decide +kernel
theorem dX6_thrift_70 : decode cX6_thrift 70 = .ok (.aload_n 0, 1) := by decide +kernel
theorem dX6_thrift_71 : decode cX6_thrift 71 = .ok (.getfield 39, 3) := by decide +kernel
theorem dX6_thrift_74 : decode cX6_thrift 74 = .ok (.iload 5, 2) := by decide +kernel
theorem dX6_thrift_76 : decode cX6_thrift 76 = .ok (.invokevirtual 230, 3) := by decide +kernel
theorem dX6_thrift_79 : decode cX6_thrift 79 = .ok (.aload_n 0, 1) := by decide +kernel
theorem dX6_thrift_80 : decode cX6_thrift 80 = .ok (.getfield 39, 3) := by decide +kernel
theorem dX6_thrift_83 : decode cX6_thrift 83 = .ok (.iconst 0, 1) := by decide +kernel
theorem dX6_thrift_84 : decode cX6_thrift 84 = .ok (.bipush 99, 2) := by decide +kernel
theorem dX6_thrift_86 : decode cX6_thrift 86 = .ok (.invokevirtual 167, 3) := by decide +kernel
theorem dX6_thrift_89 : decode cX6_thrift 89 = .ok (.aload_n 0, 1) := by decide +kernel
theorem dX6_thrift_90 : decode cX6_thrift 90 = .ok (.getfield 39, 3) := by decide +kernel
theorem dX6_thrift_93 : decode cX6_thrift 93 = .ok (.invokevirtual 205, 3) := by decide +kernel
theorem dX6_thrift_96 : decode cX6_thrift 96 = .ok (.iload_n 1, 1) := by decide +kernel
theorem dX6_thrift_97 : decode cX6_thrift 97 = .ok (.if_icmp .gt 26, 3) := by decide +kernel
theorem dX6_thrift_100 : decode cX6_thrift 100 = .ok (.aload_n 0, 1) := by decide +kernel
theorem dX6_thrift_101 : decode cX6_thrift 101 = .ok (.getfield 39, 3) := by decide +kernel
theorem dX6_thrift_104 : decode cX6_thrift 104 = .ok (.getfield 190, 3) := by decide +kernel
theorem dX6_thrift_107 : decode cX6_thrift 107 = .ok (.iload_n 3, 1) := by decide +kernel
theorem dX6_thrift_108 : decode cX6_thrift 108 = .ok (.if_icmp .ge 15, 3) := by decide +kernel
theorem dX6_thrift_111 : decode cX6_thrift 111 = .ok (.aload_n 0, 1) := by decide +kernel
theorem dX6_thrift_112 : decode cX6_thrift 112 = .ok (.getfield 39, 3) := by decide +kernel
theorem dX6_thrift_115 : decode cX6_thrift 115 = .ok (.getfield 190, 3) := by decide +kernel
theorem dX6_thrift_118 : decode cX6_thrift 118 = .ok (.istore_n 3, 1) := by decide +kernel
theorem dX6_thrift_119 : decode cX6_thrift 119 = .ok (.iload 5, 2) := by decide +kernel
theorem dX6_thrift_121 : decode cX6_thrift 121 = .ok (.istore 4, 2) := by decide +kernel
theorem dX6_thrift_123 : decode cX6_thrift 123 = .ok (.iinc 5 1, 3) := by decide +kernel
theorem dX6_thrift_126 : decode cX6_thrift 126 = .ok (.goto (-82), 3) := by decide +kernel
theorem dX6_thrift_129 : decode cX6_thrift 129 = .ok (.iload_n 2, 1) := by decide +kernel
theorem dX6_thrift_130 : decode cX6_thrift 130 = .ok (.ifCond .eq 10, 3) := by decide +kernel
theorem dX6_thrift_133 : decode cX6_thrift 133 = .ok (.iload 4, 2) := by decide +kernel
theorem dX6_thrift_135 : decode cX6_thrift 135 = .ok (.bipush (-4), 2) := by decide +kernel
theorem dX6_thrift_137 : decode cX6_thrift 137 = .ok (.if_icmp .ne 8, 3) := by decide +kernel
theorem dX6_thrift_140 : decode cX6_thrift 140 = .ok (.iload 4, 2) := by decide +kernel
theorem dX6_thrift_142 : decode cX6_thrift 142 = .ok (.goto 4, 3) := by decide +kernel
theorem dX6_thrift_145 : decode cX6_thrift 145 = .ok (.iload_n 3, 1) := by decide +kernel
theorem dX6_thrift_146 : decode cX6_thrift 146 = .ok (.ireturn, 1) := by decide +kernel
theorem dX6_costs_0 : decode cX6_costs 0 = .ok (.aload_n 0, 1) := by decide +kernel
theorem dX6_costs_1 : decode cX6_costs 1 = .ok (.iload_n 1, 1) := by decide +kernel
theorem dX6_costs_2 : decode cX6_costs 2 = .ok (.invokevirtual 100, 3) := by decide +kernel
theorem dX6_costs_5 : decode cX6_costs 5 = .ok (.ifCond .ne 6, 3) := by decide +kernel
theorem dX6_costs_8 : decode cX6_costs 8 = .ok (.ldc 233, 2) := by decide +kernel
theorem dX6_costs_10 : decode cX6_costs 10 = .ok (.ireturn, 1) := by decide +kernel
theorem dX6_costs_11 : decode cX6_costs 11 = .ok (.aload_n 0, 1) := by decide +kernel
theorem dX6_costs_12 : decode cX6_costs 12 = .ok (.invokevirtual 135, 3) := by decide +kernel
theorem dX6_costs_15 : decode cX6_costs 15 = .ok (.astore_n 2, 1) := by decide +kernel
theorem dX6_costs_16 : decode cX6_costs 16 = .ok (.aload_n 2, 1) := by decide +kernel
theorem dX6_costs_17 : decode cX6_costs 17 = .ok (.getfield 187, 3) := by decide +kernel
theorem dX6_costs_20 : decode cX6_costs 20 = .ok (.aload_n 2, 1) := by decide +kernel
theorem dX6_costs_21 : decode cX6_costs 21 = .ok (.getfield 139, 3) := by decide +kernel
theorem dX6_costs_24 : decode cX6_costs 24 = .ok (.iload_n 1, 1) := by decide +kernel
theorem dX6_costs_25 : decode cX6_costs 25 = .ok (.aaload, 1) := by decide +kernel
theorem dX6_costs_26 : decode cX6_costs 26 = .ok (.invokevirtual 156, 3) := by decide +kernel
theorem dX6_costs_29 : decode cX6_costs 29 = .ok (.isub, 1) := by decide +kernel
theorem dX6_costs_30 : decode cX6_costs 30 = .ok (.istore_n 3, 1) := by decide +kernel
theorem dX6_costs_31 : decode cX6_costs 31 = .ok (.aload_n 0, 1) := by decide +kernel
theorem dX6_costs_32 : decode cX6_costs 32 = .ok (.getfield 39, 3) := by decide +kernel
theorem dX6_costs_35 : decode cX6_costs 35 = .ok (.aload_n 0, 1) := by decide +kernel
theorem dX6_costs_36 : decode cX6_costs 36 = .ok (.getfield 10, 3) := by decide +kernel
theorem dX6_costs_39 : decode cX6_costs 39 = .ok (.iload_n 1, 1) := by decide +kernel
theorem dX6_costs_40 : decode cX6_costs 40 = .ok (.invokevirtual 163, 3) := by decide +kernel
theorem dX6_costs_43 : decode cX6_costs 43 = .ok (.aload_n 0, 1) := by decide +kernel
theorem dX6_costs_44 : decode cX6_costs 44 = .ok (.getfield 39, 3) := by decide +kernel
theorem dX6_costs_47 : decode cX6_costs 47 = .ok (.iconst 0, 1) := by decide +kernel
theorem dX6_costs_48 : decode cX6_costs 48 = .ok (.ldc 208, 2) := by decide +kernel
theorem dX6_costs_50 : decode cX6_costs 50 = .ok (.invokevirtual 212, 3) := by decide +kernel
theorem dX6_costs_53 : decode cX6_costs 53 = .ok (.iload_n 3, 1) := by decide +kernel
theorem dX6_costs_54 : decode cX6_costs 54 = .ok (.aload_n 0, 1) := by decide +kernel
theorem dX6_costs_55 : decode cX6_costs 55 = .ok (.getfield 39, 3) := by decide +kernel
theorem dX6_costs_58 : decode cX6_costs 58 = .ok (.getfield 187, 3) := by decide +kernel
theorem dX6_costs_61 : decode cX6_costs 61 = .ok (.isub, 1) := by decide +kernel
theorem dX6_costs_62 : decode cX6_costs 62 = .ok (.ireturn, 1) := by decide +kernel
theorem dX6_rules_0 : decode cX6_rules 0 = .ok (.aload_n 0, 1) := by decide +kernel
theorem dX6_rules_1 : decode cX6_rules 1 = .ok (.iconst 0, 1) := by decide +kernel
theorem dX6_rules_2 : decode cX6_rules 2 = .ok (.invokevirtual 234, 3) := by decide +kernel
theorem dX6_rules_5 : decode cX6_rules 5 = .ok (.aload_n 0, 1) := by decide +kernel
theorem dX6_rules_6 : decode cX6_rules 6 = .ok (.iconst 1, 1) := by decide +kernel
theorem dX6_rules_7 : decode cX6_rules 7 = .ok (.invokevirtual 234, 3) := by decide +kernel
theorem dX6_rules_10 : decode cX6_rules 10 = .ok (.isub, 1) := by decide +kernel
theorem dX6_rules_11 : decode cX6_rules 11 = .ok (.ireturn, 1) := by decide +kernel
theorem dX6_stood_0 : decode cX6_stood 0 = .ok (.iload 4, 2) := by decide +kernel
theorem dX6_stood_2 : decode cX6_stood 2 = .ok (.iconst 1, 1) := by decide +kernel
theorem dX6_stood_3 : decode cX6_stood 3 = .ok (.bipush 10, 2) := by decide +kernel
theorem dX6_stood_5 : decode cX6_stood 5 = .ok (.invokestatic 53, 3) := by decide +kernel
theorem dX6_stood_8 : decode cX6_stood 8 = .ok (.ifCond .eq 15, 3) := by decide +kernel
theorem dX6_stood_11 : decode cX6_stood 11 = .ok (.aload_n 0, 1) := by decide +kernel
theorem dX6_stood_12 : decode cX6_stood 12 = .ok (.iload_n 1, 1) := by decide +kernel
theorem dX6_stood_13 : decode cX6_stood 13 = .ok (.iload_n 2, 1) := by decide +kernel
theorem dX6_stood_14 : decode cX6_stood 14 = .ok (.iload_n 3, 1) := by decide +kernel
theorem dX6_stood_15 : decode cX6_stood 15 = .ok (.iload 4, 2) := by decide +kernel
theorem dX6_stood_17 : decode cX6_stood 17 = .ok (.invokevirtual 237, 3) := by decide +kernel
theorem dX6_stood_20 : decode cX6_stood 20 = .ok (.goto 4, 3) := by decide +kernel
theorem dX6_stood_23 : decode cX6_stood 23 = .ok (.iconst (-1), 1) := by decide +kernel
theorem dX6_stood_24 : decode cX6_stood 24 = .ok (.istore 5, 2) := by decide +kernel
theorem dX6_stood_26 : decode cX6_stood 26 = .ok (.iload 5, 2) := by decide +kernel
theorem dX6_stood_28 : decode cX6_stood 28 = .ok (.ifCond .ge 6, 3) := by decide +kernel
theorem dX6_stood_31 : decode cX6_stood 31 = .ok (.iload 5, 2) := by decide +kernel
theorem dX6_stood_33 : decode cX6_stood 33 = .ok (.ireturn, 1) := by decide +kernel
theorem dX6_stood_34 : decode cX6_stood 34 = .ok (.iconst 0, 1) := by decide +kernel
theorem dX6_stood_35 : decode cX6_stood 35 = .ok (.istore 6, 2) := by decide +kernel
theorem dX6_stood_37 : decode cX6_stood 37 = .ok (.iconst 0, 1) := by decide +kernel
theorem dX6_stood_38 : decode cX6_stood 38 = .ok (.istore 7, 2) := by decide +kernel
theorem dX6_stood_40 : decode cX6_stood 40 = .ok (.iload 7, 2) := by decide +kernel
theorem dX6_stood_42 : decode cX6_stood 42 = .ok (.aload_n 0, 1) := by decide +kernel
theorem dX6_stood_43 : decode cX6_stood 43 = .ok (.getfield 10, 3) := by decide +kernel
theorem dX6_stood_46 : decode cX6_stood 46 = .ok (.getfield 57, 3) := by decide +kernel
theorem dX6_stood_49 : decode cX6_stood 49 = .ok (.if_icmp .ge 68, 3) := by decide +kernel
theorem dX6_stood_52 : decode cX6_stood 52 = .ok (.aload_n 0, 1) := by decide +kernel
theorem dX6_stood_53 : decode cX6_stood 53 = .ok (.getfield 39, 3) := by decide +kernel
theorem dX6_stood_56 : decode cX6_stood 56 = .ok (.aload_n 0, 1) := by decide +kernel
theorem dX6_stood_57 : decode cX6_stood 57 = .ok (.getfield 10, 3) := by decide +kernel
theorem dX6_stood_60 : decode cX6_stood 60 = .ok (.iconst (-1), 1) := by decide +kernel
theorem dX6_stood_61 : decode cX6_stood 61 = .ok (.invokevirtual 163, 3) := by decide +kernel
theorem dX6_stood_64 : decode cX6_stood 64 = .ok (.aload_n 0, 1) := by decide +kernel
theorem dX6_stood_65 : decode cX6_stood 65 = .ok (.getfield 39, 3) := by decide +kernel
theorem dX6_stood_68 : decode cX6_stood 68 = .ok (.iload 7, 2) := by decide +kernel
theorem dX6_stood_70 : decode cX6_stood 70 = .ok (.invokevirtual 241, 3) := by decide +kernel
theorem dX6_stood_73 : decode cX6_stood 73 = .ok (.aload_n 0, 1) := by decide +kernel
theorem dX6_stood_74 : decode cX6_stood 74 = .ok (.getfield 39, 3) := by decide +kernel
theorem dX6_stood_77 : decode cX6_stood 77 = .ok (.iconst 0, 1) := by decide +kernel
theorem dX6_stood_78 : decode cX6_stood 78 = .ok (.bipush 99, 2) := by decide +kernel
theorem dX6_stood_80 : decode cX6_stood 80 = .ok (.invokevirtual 167, 3) := by decide +kernel
theorem dX6_stood_83 : decode cX6_stood 83 = .ok (.aload_n 0, 1) := by decide +kernel
theorem dX6_stood_84 : decode cX6_stood 84 = .ok (.getfield 39, 3) := by decide +kernel
theorem dX6_stood_87 : decode cX6_stood 87 = .ok (.aload_n 0, 1) := by decide +kernel
theorem dX6_stood_88 : decode cX6_stood 88 = .ok (.getfield 28, 3) := by decide +kernel
theorem dX6_stood_91 : decode cX6_stood 91 = .ok (.iload_n 1, 1) := by decide +kernel
theorem dX6_stood_92 : decode cX6_stood 92 = .ok (.aaload, 1) := by decide +kernel
theorem dX6_stood_93 : decode cX6_stood 93 = .ok (.iload_n 3, 1) := by decide +kernel
theorem dX6_stood_94 : decode cX6_stood 94 = .ok (.iload 4, 2) := by decide +kernel
theorem dX6_stood_96 : decode cX6_stood 96 = .ok (.invokestatic 244, 3) := by decide +kernel
theorem dX6_stood_99 : decode cX6_stood 99 = .ok (.ifCond .eq 12, 3) := by decide +kernel
theorem dX6_stood_102 : decode cX6_stood 102 = .ok (.iload 6, 2) := by decide +kernel
theorem dX6_stood_104 : decode cX6_stood 104 = .ok (.iconst 1, 1) := by decide +kernel
theorem dX6_stood_105 : decode cX6_stood 105 = .ok (.iload 7, 2) := by decide +kernel
theorem dX6_stood_107 : decode cX6_stood 107 = .ok (.ishl, 1) := by decide +kernel
theorem dX6_stood_108 : decode cX6_stood 108 = .ok (.ior, 1) := by decide +kernel
theorem dX6_stood_109 : decode cX6_stood 109 = .ok (.istore 6, 2) := by decide +kernel
theorem dX6_stood_111 : decode cX6_stood 111 = .ok (.iinc 7 1, 3) := by decide +kernel
theorem dX6_stood_114 : decode cX6_stood 114 = .ok (.goto (-74), 3) := by decide +kernel
theorem dX6_stood_117 : decode cX6_stood 117 = .ok (.aload_n 0, 1) := by decide +kernel
theorem dX6_stood_118 : decode cX6_stood 118 = .ok (.invokevirtual 135, 3) := by decide +kernel
theorem dX6_stood_121 : decode cX6_stood 121 = .ok (.aload_n 0, 1) := by decide +kernel
theorem dX6_stood_122 : decode cX6_stood 122 = .ok (.getfield 28, 3) := by decide +kernel
theorem dX6_stood_125 : decode cX6_stood 125 = .ok (.iload_n 1, 1) := by decide +kernel
theorem dX6_stood_126 : decode cX6_stood 126 = .ok (.aaload, 1) := by decide +kernel
theorem dX6_stood_127 : decode cX6_stood 127 = .ok (.iload_n 3, 1) := by decide +kernel
theorem dX6_stood_128 : decode cX6_stood 128 = .ok (.iload 4, 2) := by decide +kernel
theorem dX6_stood_130 : decode cX6_stood 130 = .ok (.invokestatic 244, 3) := by decide +kernel
theorem dX6_stood_133 : decode cX6_stood 133 = .ok (.ifCond .eq 11, 3) := by decide +kernel
theorem dX6_stood_136 : decode cX6_stood 136 = .ok (.iload 6, 2) := by decide +kernel
theorem dX6_stood_138 : decode cX6_stood 138 = .ok (.bipush 8, 2) := by decide +kernel
theorem dX6_stood_140 : decode cX6_stood 140 = .ok (.ior, 1) := by decide +kernel
theorem dX6_stood_141 : decode cX6_stood 141 = .ok (.goto 5, 3) := by decide +kernel
theorem dX6_stood_144 : decode cX6_stood 144 = .ok (.iload 6, 2) := by decide +kernel
theorem dX6_stood_146 : decode cX6_stood 146 = .ok (.ireturn, 1) := by decide +kernel
theorem dX6_image_0 : decode cX6_image 0 = .ok (.aload_n 0, 1) := by decide +kernel
theorem dX6_image_1 : decode cX6_image 1 = .ok (.getfield 16, 3) := by decide +kernel
theorem dX6_image_4 : decode cX6_image 4 = .ok (.aload_n 0, 1) := by decide +kernel
theorem dX6_image_5 : decode cX6_image 5 = .ok (.getfield 10, 3) := by decide +kernel
theorem dX6_image_8 : decode cX6_image 8 = .ok (.invokevirtual 248, 3) := by decide +kernel
theorem dX6_image_11 : decode cX6_image 11 = .ok (.aload_n 0, 1) := by decide +kernel
theorem dX6_image_12 : decode cX6_image 12 = .ok (.iconst 1, 1) := by decide +kernel
theorem dX6_image_13 : decode cX6_image 13 = .ok (.putfield 252, 3) := by decide +kernel
theorem dX6_image_16 : decode cX6_image 16 = .ok (.iconst 1, 1) := by decide +kernel
theorem dX6_image_17 : decode cX6_image 17 = .ok (.ireturn, 1) := by decide +kernel
theorem dX6_restore_0 : decode cX6_restore 0 = .ok (.aload_n 0, 1) := by decide +kernel
theorem dX6_restore_1 : decode cX6_restore 1 = .ok (.getfield 252, 3) := by decide +kernel
theorem dX6_restore_4 : decode cX6_restore 4 = .ok (.ifCond .ne 6, 3) := by decide +kernel
theorem dX6_restore_7 : decode cX6_restore 7 = .ok (.bipush (-4), 2) := by decide +kernel
theorem dX6_restore_9 : decode cX6_restore 9 = .ok (.ireturn, 1) := by decide +kernel
theorem dX6_restore_10 : decode cX6_restore 10 = .ok (.aload_n 0, 1) := by decide +kernel
theorem dX6_restore_11 : decode cX6_restore 11 = .ok (.getfield 10, 3) := by decide +kernel
theorem dX6_restore_14 : decode cX6_restore 14 = .ok (.aload_n 0, 1) := by decide +kernel
theorem dX6_restore_15 : decode cX6_restore 15 = .ok (.getfield 16, 3) := by decide +kernel
theorem dX6_restore_18 : decode cX6_restore 18 = .ok (.invokevirtual 248, 3) := by decide +kernel
theorem dX6_restore_21 : decode cX6_restore 21 = .ok (.aload_n 0, 1) := by decide +kernel
theorem dX6_restore_22 : decode cX6_restore 22 = .ok (.invokevirtual 65, 3) := by decide +kernel
theorem dX6_restore_25 : decode cX6_restore 25 = .ok (.iconst 1, 1) := by decide +kernel
theorem dX6_restore_26 : decode cX6_restore 26 = .ok (.ireturn, 1) := by decide +kernel
theorem dX6_film_0 : decode cX6_film 0 = .ok (.iload 4, 2) := by decide +kernel
theorem dX6_film_2 : decode cX6_film 2 = .ok (.iconst 1, 1) := by decide +kernel
theorem dX6_film_3 : decode cX6_film 3 = .ok (.bipush 10, 2) := by decide +kernel
theorem dX6_film_5 : decode cX6_film 5 = .ok (.invokestatic 53, 3) := by decide +kernel
theorem dX6_film_8 : decode cX6_film 8 = .ok (.ifCond .eq 15, 3) := by decide +kernel
theorem dX6_film_11 : decode cX6_film 11 = .ok (.aload_n 0, 1) := by decide +kernel
theorem dX6_film_12 : decode cX6_film 12 = .ok (.iload_n 1, 1) := by decide +kernel
theorem dX6_film_13 : decode cX6_film 13 = .ok (.iload_n 2, 1) := by decide +kernel
theorem dX6_film_14 : decode cX6_film 14 = .ok (.iload_n 3, 1) := by decide +kernel
theorem dX6_film_15 : decode cX6_film 15 = .ok (.iload 4, 2) := by decide +kernel
theorem dX6_film_17 : decode cX6_film 17 = .ok (.invokevirtual 237, 3) := by decide +kernel
theorem dX6_film_20 : decode cX6_film 20 = .ok (.goto 4, 3) := by decide +kernel
theorem dX6_film_23 : decode cX6_film 23 = .ok (.iconst (-1), 1) := by decide +kernel
theorem dX6_film_24 : decode cX6_film 24 = .ok (.istore 5, 2) := by decide +kernel
theorem dX6_film_26 : decode cX6_film 26 = .ok (.iload 5, 2) := by decide +kernel
theorem dX6_film_28 : decode cX6_film 28 = .ok (.ifCond .ge 6, 3) := by decide +kernel
theorem dX6_film_31 : decode cX6_film 31 = .ok (.iload 5, 2) := by decide +kernel
theorem dX6_film_33 : decode cX6_film 33 = .ok (.ireturn, 1) := by decide +kernel
theorem dX6_film_34 : decode cX6_film 34 = .ok (.aload_n 0, 1) := by decide +kernel
theorem dX6_film_35 : decode cX6_film 35 = .ok (.invokevirtual 135, 3) := by decide +kernel
theorem dX6_film_38 : decode cX6_film 38 = .ok (.astore 6, 2) := by decide +kernel
theorem dX6_film_40 : decode cX6_film 40 = .ok (.iconst 0, 1) := by decide +kernel
theorem dX6_film_41 : decode cX6_film 41 = .ok (.istore 7, 2) := by decide +kernel
theorem dX6_film_43 : decode cX6_film 43 = .ok (.iload 7, 2) := by decide +kernel
theorem dX6_film_45 : decode cX6_film 45 = .ok (.iload 4, 2) := by decide +kernel
theorem dX6_film_47 : decode cX6_film 47 = .ok (.if_icmp .ge 35, 3) := by decide +kernel
theorem dX6_film_50 : decode cX6_film 50 = .ok (.aload_n 0, 1) := by decide +kernel
theorem dX6_film_51 : decode cX6_film 51 = .ok (.getfield 28, 3) := by decide +kernel
theorem dX6_film_54 : decode cX6_film 54 = .ok (.iload_n 1, 1) := by decide +kernel
theorem dX6_film_55 : decode cX6_film 55 = .ok (.aaload, 1) := by decide +kernel
theorem dX6_film_56 : decode cX6_film 56 = .ok (.iload_n 3, 1) := by decide +kernel
theorem dX6_film_57 : decode cX6_film 57 = .ok (.iload 7, 2) := by decide +kernel
theorem dX6_film_59 : decode cX6_film 59 = .ok (.iadd, 1) := by decide +kernel
theorem dX6_film_60 : decode cX6_film 60 = .ok (.aload 6, 2) := by decide +kernel
theorem dX6_film_62 : decode cX6_film 62 = .ok (.bipush 10, 2) := by decide +kernel
theorem dX6_film_64 : decode cX6_film 64 = .ok (.iload 7, 2) := by decide +kernel
theorem dX6_film_66 : decode cX6_film 66 = .ok (.imul, 1) := by decide +kernel
theorem dX6_film_67 : decode cX6_film 67 = .ok (.bipush 9, 2) := by decide +kernel
theorem dX6_film_69 : decode cX6_film 69 = .ok (.iadd, 1) := by decide +kernel
theorem dX6_film_70 : decode cX6_film 70 = .ok (.invokevirtual 202, 3) := by decide +kernel
theorem dX6_film_73 : decode cX6_film 73 = .ok (.invokevirtual 255, 3) := by decide +kernel
theorem dX6_film_76 : decode cX6_film 76 = .ok (.iinc 7 1, 3) := by decide +kernel
theorem dX6_film_79 : decode cX6_film 79 = .ok (.goto (-36), 3) := by decide +kernel
theorem dX6_film_82 : decode cX6_film 82 = .ok (.iload 4, 2) := by decide +kernel
theorem dX6_film_84 : decode cX6_film 84 = .ok (.ireturn, 1) := by decide +kernel
theorem dX6_sheet_0 : decode cX6_sheet 0 = .ok (.iload_n 1, 1) := by decide +kernel
theorem dX6_sheet_1 : decode cX6_sheet 1 = .ok (.invokestatic 258, 3) := by decide +kernel
theorem dX6_sheet_4 : decode cX6_sheet 4 = .ok (.ifCond .eq 18, 3) := by decide +kernel
theorem dX6_sheet_7 : decode cX6_sheet 7 = .ok (.iload_n 2, 1) := by decide +kernel
theorem dX6_sheet_8 : decode cX6_sheet 8 = .ok (.iconst 0, 1) := by decide +kernel
theorem dX6_sheet_9 : decode cX6_sheet 9 = .ok (.iconst 2, 1) := by decide +kernel
theorem dX6_sheet_10 : decode cX6_sheet 10 = .ok (.invokestatic 53, 3) := by decide +kernel
theorem dX6_sheet_13 : decode cX6_sheet 13 = .ok (.ifCond .eq 9, 3) := by decide +kernel
theorem dX6_sheet_16 : decode cX6_sheet 16 = .ok (.iload_n 3, 1) := by decide +kernel
theorem dX6_sheet_17 : decode cX6_sheet 17 = .ok (.bipush 16, 2) := by decide +kernel
theorem dX6_sheet_19 : decode cX6_sheet 19 = .ok (.if_icmp .le 5, 3) := by decide +kernel
theorem dX6_sheet_22 : decode cX6_sheet 22 = .ok (.iconst (-1), 1) := by decide +kernel
theorem dX6_sheet_23 : decode cX6_sheet 23 = .ok (.ireturn, 1) := by decide +kernel
theorem dX6_sheet_24 : decode cX6_sheet 24 = .ok (.iload_n 3, 1) := by decide +kernel
theorem dX6_sheet_25 : decode cX6_sheet 25 = .ok (.ifCond .ge 6, 3) := by decide +kernel
theorem dX6_sheet_28 : decode cX6_sheet 28 = .ok (.bipush (-14), 2) := by decide +kernel
theorem dX6_sheet_30 : decode cX6_sheet 30 = .ok (.ireturn, 1) := by decide +kernel
theorem dX6_sheet_31 : decode cX6_sheet 31 = .ok (.aload_n 0, 1) := by decide +kernel
theorem dX6_sheet_32 : decode cX6_sheet 32 = .ok (.getfield 28, 3) := by decide +kernel
theorem dX6_sheet_35 : decode cX6_sheet 35 = .ok (.iload_n 1, 1) := by decide +kernel
theorem dX6_sheet_36 : decode cX6_sheet 36 = .ok (.aaload, 1) := by decide +kernel
theorem dX6_sheet_37 : decode cX6_sheet 37 = .ok (.iload_n 2, 1) := by decide +kernel
theorem dX6_sheet_38 : decode cX6_sheet 38 = .ok (.iload_n 3, 1) := by decide +kernel
theorem dX6_sheet_39 : decode cX6_sheet 39 = .ok (.invokevirtual 261, 3) := by decide +kernel
theorem dX6_sheet_42 : decode cX6_sheet 42 = .ok (.iload_n 3, 1) := by decide +kernel
theorem dX6_sheet_43 : decode cX6_sheet 43 = .ok (.ireturn, 1) := by decide +kernel
theorem dX6_drop_0 : decode cX6_drop 0 = .ok (.iload_n 1, 1) := by decide +kernel
theorem dX6_drop_1 : decode cX6_drop 1 = .ok (.invokestatic 258, 3) := by decide +kernel
theorem dX6_drop_4 : decode cX6_drop 4 = .ok (.ifCond .ne 5, 3) := by decide +kernel
theorem dX6_drop_7 : decode cX6_drop 7 = .ok (.iconst (-1), 1) := by decide +kernel
theorem dX6_drop_8 : decode cX6_drop 8 = .ok (.ireturn, 1) := by decide +kernel
theorem dX6_drop_9 : decode cX6_drop 9 = .ok (.aload_n 0, 1) := by decide +kernel
theorem dX6_drop_10 : decode cX6_drop 10 = .ok (.getfield 28, 3) := by decide +kernel
theorem dX6_drop_13 : decode cX6_drop 13 = .ok (.iload_n 1, 1) := by decide +kernel
theorem dX6_drop_14 : decode cX6_drop 14 = .ok (.aaload, 1) := by decide +kernel
theorem dX6_drop_15 : decode cX6_drop 15 = .ok (.getfield 264, 3) := by decide +kernel
theorem dX6_drop_18 : decode cX6_drop 18 = .ok (.ifCond .ne 6, 3) := by decide +kernel
theorem dX6_drop_21 : decode cX6_drop 21 = .ok (.bipush (-11), 2) := by decide +kernel
theorem dX6_drop_23 : decode cX6_drop 23 = .ok (.ireturn, 1) := by decide +kernel
theorem dX6_drop_24 : decode cX6_drop 24 = .ok (.aload_n 0, 1) := by decide +kernel
theorem dX6_drop_25 : decode cX6_drop 25 = .ok (.getfield 28, 3) := by decide +kernel
theorem dX6_drop_28 : decode cX6_drop 28 = .ok (.iload_n 1, 1) := by decide +kernel
theorem dX6_drop_29 : decode cX6_drop 29 = .ok (.aaload, 1) := by decide +kernel
theorem dX6_drop_30 : decode cX6_drop 30 = .ok (.iconst 0, 1) := by decide +kernel
theorem dX6_drop_31 : decode cX6_drop 31 = .ok (.putfield 264, 3) := by decide +kernel
theorem dX6_drop_34 : decode cX6_drop 34 = .ok (.aload_n 0, 1) := by decide +kernel
theorem dX6_drop_35 : decode cX6_drop 35 = .ok (.getfield 28, 3) := by decide +kernel
theorem dX6_drop_38 : decode cX6_drop 38 = .ok (.iload_n 1, 1) := by decide +kernel
theorem dX6_drop_39 : decode cX6_drop 39 = .ok (.aaload, 1) := by decide +kernel
theorem dX6_drop_40 : decode cX6_drop 40 = .ok (.getfield 267, 3) := by decide +kernel
theorem dX6_drop_43 : decode cX6_drop 43 = .ok (.ireturn, 1) := by decide +kernel
theorem dX6_item_0 : decode cX6_item 0 = .ok (.aload_n 0, 1) := by decide +kernel
theorem dX6_item_1 : decode cX6_item 1 = .ok (.iload_n 1, 1) := by decide +kernel
theorem dX6_item_2 : decode cX6_item 2 = .ok (.iload_n 2, 1) := by decide +kernel
theorem dX6_item_3 : decode cX6_item 3 = .ok (.iload_n 3, 1) := by decide +kernel
theorem dX6_item_4 : decode cX6_item 4 = .ok (.iconst 1, 1) := by decide +kernel
theorem dX6_item_5 : decode cX6_item 5 = .ok (.invokevirtual 237, 3) := by decide +kernel
theorem dX6_item_8 : decode cX6_item 8 = .ok (.istore 5, 2) := by decide +kernel
theorem dX6_item_10 : decode cX6_item 10 = .ok (.iload 5, 2) := by decide +kernel
theorem dX6_item_12 : decode cX6_item 12 = .ok (.ifCond .ge 6, 3) := by decide +kernel
theorem dX6_item_15 : decode cX6_item 15 = .ok (.iload 5, 2) := by decide +kernel
theorem dX6_item_17 : decode cX6_item 17 = .ok (.ireturn, 1) := by decide +kernel
theorem dX6_item_18 : decode cX6_item 18 = .ok (.aload_n 0, 1) := by decide +kernel
theorem dX6_item_19 : decode cX6_item 19 = .ok (.getfield 28, 3) := by decide +kernel
theorem dX6_item_22 : decode cX6_item 22 = .ok (.iload_n 1, 1) := by decide +kernel
theorem dX6_item_23 : decode cX6_item 23 = .ok (.aaload, 1) := by decide +kernel
theorem dX6_item_24 : decode cX6_item 24 = .ok (.iload_n 3, 1) := by decide +kernel
theorem dX6_item_25 : decode cX6_item 25 = .ok (.iload 4, 2) := by decide +kernel
theorem dX6_item_27 : decode cX6_item 27 = .ok (.invokevirtual 255, 3) := by decide +kernel
theorem dX6_item_30 : decode cX6_item 30 = .ok (.iconst 1, 1) := by decide +kernel
theorem dX6_item_31 : decode cX6_item 31 = .ok (.ireturn, 1) := by decide +kernel
theorem dX6_copy_0 : decode cX6_copy 0 = .ok (.iload_n 1, 1) := by decide +kernel
theorem dX6_copy_1 : decode cX6_copy 1 = .ok (.invokestatic 258, 3) := by decide +kernel
theorem dX6_copy_4 : decode cX6_copy 4 = .ok (.ifCond .eq 10, 3) := by decide +kernel
theorem dX6_copy_7 : decode cX6_copy 7 = .ok (.iload_n 3, 1) := by decide +kernel
theorem dX6_copy_8 : decode cX6_copy 8 = .ok (.invokestatic 258, 3) := by decide +kernel
theorem dX6_copy_11 : decode cX6_copy 11 = .ok (.ifCond .ne 5, 3) := by decide +kernel
theorem dX6_copy_14 : decode cX6_copy 14 = .ok (.iconst (-1), 1) := by decide +kernel
theorem dX6_copy_15 : decode cX6_copy 15 = .ok (.ireturn, 1) := by decide +kernel
theorem dX6_copy_16 : decode cX6_copy 16 = .ok (.aload_n 0, 1) := by decide +kernel
theorem dX6_copy_17 : decode cX6_copy 17 = .ok (.getfield 28, 3) := by decide +kernel
theorem dX6_copy_20 : decode cX6_copy 20 = .ok (.iload_n 1, 1) := by decide +kernel
theorem dX6_copy_21 : decode cX6_copy 21 = .ok (.aaload, 1) := by decide +kernel
theorem dX6_copy_22 : decode cX6_copy 22 = .ok (.astore 6, 2) := by decide +kernel
theorem dX6_copy_24 : decode cX6_copy 24 = .ok (.aload_n 0, 1) := by decide +kernel
theorem dX6_copy_25 : decode cX6_copy 25 = .ok (.getfield 28, 3) := by decide +kernel
theorem dX6_copy_28 : decode cX6_copy 28 = .ok (.iload_n 3, 1) := by decide +kernel
theorem dX6_copy_29 : decode cX6_copy 29 = .ok (.aaload, 1) := by decide +kernel
theorem dX6_copy_30 : decode cX6_copy 30 = .ok (.astore 7, 2) := by decide +kernel
theorem dX6_copy_32 : decode cX6_copy 32 = .ok (.aload 6, 2) := by decide +kernel
theorem dX6_copy_34 : decode cX6_copy 34 = .ok (.getfield 264, 3) := by decide +kernel
theorem dX6_copy_37 : decode cX6_copy 37 = .ok (.ifCond .eq 11, 3) := by decide +kernel
theorem dX6_copy_40 : decode cX6_copy 40 = .ok (.aload 7, 2) := by decide +kernel
theorem dX6_copy_42 : decode cX6_copy 42 = .ok (.getfield 264, 3) := by decide +kernel
theorem dX6_copy_45 : decode cX6_copy 45 = .ok (.ifCond .ne 6, 3) := by decide +kernel
theorem dX6_copy_48 : decode cX6_copy 48 = .ok (.bipush (-11), 2) := by decide +kernel
theorem dX6_copy_50 : decode cX6_copy 50 = .ok (.ireturn, 1) := by decide +kernel
theorem dX6_copy_51 : decode cX6_copy 51 = .ok (.aload 6, 2) := by decide +kernel
theorem dX6_copy_53 : decode cX6_copy 53 = .ok (.getfield 270, 3) := by decide +kernel
theorem dX6_copy_56 : decode cX6_copy 56 = .ok (.aload 7, 2) := by decide +kernel
theorem dX6_copy_58 : decode cX6_copy 58 = .ok (.getfield 270, 3) := by decide +kernel
theorem dX6_copy_61 : decode cX6_copy 61 = .ok (.if_icmp .eq 6, 3) := by decide +kernel
theorem dX6_copy_64 : decode cX6_copy 64 = .ok (.bipush (-12), 2) := by decide +kernel
theorem dX6_copy_66 : decode cX6_copy 66 = .ok (.ireturn, 1) := by decide +kernel
theorem dX6_copy_67 : decode cX6_copy 67 = .ok (.aload 6, 2) := by decide +kernel
theorem dX6_copy_69 : decode cX6_copy 69 = .ok (.iload_n 2, 1) := by decide +kernel
theorem dX6_copy_70 : decode cX6_copy 70 = .ok (.iload 5, 2) := by decide +kernel
theorem dX6_copy_72 : decode cX6_copy 72 = .ok (.invokevirtual 273, 3) := by decide +kernel
theorem dX6_copy_75 : decode cX6_copy 75 = .ok (.ifCond .eq 15, 3) := by decide +kernel
theorem dX6_copy_78 : decode cX6_copy 78 = .ok (.aload 7, 2) := by decide +kernel
theorem dX6_copy_80 : decode cX6_copy 80 = .ok (.iload 4, 2) := by decide +kernel
theorem dX6_copy_82 : decode cX6_copy 82 = .ok (.iload 5, 2) := by decide +kernel
theorem dX6_copy_84 : decode cX6_copy 84 = .ok (.invokevirtual 273, 3) := by decide +kernel
theorem dX6_copy_87 : decode cX6_copy 87 = .ok (.ifCond .ne 6, 3) := by decide +kernel
theorem dX6_copy_90 : decode cX6_copy 90 = .ok (.bipush (-13), 2) := by decide +kernel
theorem dX6_copy_92 : decode cX6_copy 92 = .ok (.ireturn, 1) := by decide +kernel
theorem dX6_copy_93 : decode cX6_copy 93 = .ok (.aload 6, 2) := by decide +kernel
theorem dX6_copy_95 : decode cX6_copy 95 = .ok (.getfield 277, 3) := by decide +kernel
theorem dX6_copy_98 : decode cX6_copy 98 = .ok (.iload_n 2, 1) := by decide +kernel
theorem dX6_copy_99 : decode cX6_copy 99 = .ok (.aload 7, 2) := by decide +kernel
theorem dX6_copy_101 : decode cX6_copy 101 = .ok (.getfield 277, 3) := by decide +kernel
theorem dX6_copy_104 : decode cX6_copy 104 = .ok (.iload 4, 2) := by decide +kernel
theorem dX6_copy_106 : decode cX6_copy 106 = .ok (.iload 5, 2) := by decide +kernel
theorem dX6_copy_108 : decode cX6_copy 108 = .ok (.invokestatic 280, 3) := by decide +kernel
theorem dX6_copy_111 : decode cX6_copy 111 = .ok (.iload 5, 2) := by decide +kernel
theorem dX6_copy_113 : decode cX6_copy 113 = .ok (.ireturn, 1) := by decide +kernel
theorem dX6_isBetween_0 : decode cX6_isBetween 0 = .ok (.iload_n 1, 1) := by decide +kernel
theorem dX6_isBetween_1 : decode cX6_isBetween 1 = .ok (.iload_n 0, 1) := by decide +kernel
theorem dX6_isBetween_2 : decode cX6_isBetween 2 = .ok (.if_icmp .gt 12, 3) := by decide +kernel
theorem dX6_isBetween_5 : decode cX6_isBetween 5 = .ok (.iload_n 0, 1) := by decide +kernel
theorem dX6_isBetween_6 : decode cX6_isBetween 6 = .ok (.iload_n 2, 1) := by decide +kernel
theorem dX6_isBetween_7 : decode cX6_isBetween 7 = .ok (.if_icmp .gt 7, 3) := by decide +kernel
theorem dX6_isBetween_10 : decode cX6_isBetween 10 = .ok (.iconst 1, 1) := by decide +kernel
theorem dX6_isBetween_11 : decode cX6_isBetween 11 = .ok (.goto 4, 3) := by decide +kernel
theorem dX6_isBetween_14 : decode cX6_isBetween 14 = .ok (.iconst 0, 1) := by decide +kernel
theorem dX6_isBetween_15 : decode cX6_isBetween 15 = .ok (.ireturn, 1) := by decide +kernel
theorem dX6_isStair_0 : decode cX6_isStair 0 = .ok (.iload_n 1, 1) := by decide +kernel
theorem dX6_isStair_1 : decode cX6_isStair 1 = .ok (.iconst 0, 1) := by decide +kernel
theorem dX6_isStair_2 : decode cX6_isStair 2 = .ok (.aload_n 0, 1) := by decide +kernel
theorem dX6_isStair_3 : decode cX6_isStair 3 = .ok (.getfield 10, 3) := by decide +kernel
theorem dX6_isStair_6 : decode cX6_isStair 6 = .ok (.getfield 57, 3) := by decide +kernel
theorem dX6_isStair_9 : decode cX6_isStair 9 = .ok (.iconst 1, 1) := by decide +kernel
theorem dX6_isStair_10 : decode cX6_isStair 10 = .ok (.isub, 1) := by decide +kernel
theorem dX6_isStair_11 : decode cX6_isStair 11 = .ok (.invokestatic 53, 3) := by decide +kernel
theorem dX6_isStair_14 : decode cX6_isStair 14 = .ok (.ireturn, 1) := by decide +kernel
theorem dX6_isPerson_0 : decode cX6_isPerson 0 = .ok (.iload_n 1, 1) := by decide +kernel
theorem dX6_isPerson_1 : decode cX6_isPerson 1 = .ok (.iconst 0, 1) := by decide +kernel
theorem dX6_isPerson_2 : decode cX6_isPerson 2 = .ok (.aload_n 0, 1) := by decide +kernel
theorem dX6_isPerson_3 : decode cX6_isPerson 3 = .ok (.getfield 10, 3) := by decide +kernel
theorem dX6_isPerson_6 : decode cX6_isPerson 6 = .ok (.getfield 93, 3) := by decide +kernel
theorem dX6_isPerson_9 : decode cX6_isPerson 9 = .ok (.iconst 1, 1) := by decide +kernel
theorem dX6_isPerson_10 : decode cX6_isPerson 10 = .ok (.isub, 1) := by decide +kernel
theorem dX6_isPerson_11 : decode cX6_isPerson 11 = .ok (.invokestatic 53, 3) := by decide +kernel
theorem dX6_isPerson_14 : decode cX6_isPerson 14 = .ok (.ireturn, 1) := by decide +kernel
theorem dX6_isSheet_0 : decode cX6_isSheet 0 = .ok (.iload_n 0, 1) := by decide +kernel
theorem dX6_isSheet_1 : decode cX6_isSheet 1 = .ok (.iconst 0, 1) := by decide +kernel
theorem dX6_isSheet_2 : decode cX6_isSheet 2 = .ok (.iconst 3, 1) := by decide +kernel
theorem dX6_isSheet_3 : decode cX6_isSheet 3 = .ok (.invokestatic 53, 3) := by decide +kernel
theorem dX6_isSheet_6 : decode cX6_isSheet 6 = .ok (.ireturn, 1) := by decide +kernel
theorem dX6_orNone_0 : decode cX6_orNone 0 = .ok (.iload_n 0, 1) := by decide +kernel
theorem dX6_orNone_1 : decode cX6_orNone 1 = .ok (.ifCond .ge 8, 3) := by decide +kernel
theorem dX6_orNone_4 : decode cX6_orNone 4 = .ok (.bipush (-4), 2) := by decide +kernel
theorem dX6_orNone_6 : decode cX6_orNone 6 = .ok (.goto 4, 3) := by decide +kernel
theorem dX6_orNone_9 : decode cX6_orNone 9 = .ok (.iload_n 0, 1) := by decide +kernel
theorem dX6_orNone_10 : decode cX6_orNone 10 = .ok (.ireturn, 1) := by decide +kernel
theorem dX6_weightOf_0 : decode cX6_weightOf 0 = .ok (.iload_n 0, 1) := by decide +kernel
theorem dX6_weightOf_1 : decode cX6_weightOf 1 = .ok (.iconst 0, 1) := by decide +kernel
theorem dX6_weightOf_2 : decode cX6_weightOf 2 = .ok (.iconst 4, 1) := by decide +kernel
theorem dX6_weightOf_3 : decode cX6_weightOf 3 = .ok (.invokestatic 53, 3) := by decide +kernel
theorem dX6_weightOf_6 : decode cX6_weightOf 6 = .ok (.ifCond .eq 11, 3) := by decide +kernel
theorem dX6_weightOf_9 : decode cX6_weightOf 9 = .ok (.getstatic 286, 3) := by decide +kernel
theorem dX6_weightOf_12 : decode cX6_weightOf 12 = .ok (.iload_n 0, 1) := by decide +kernel
theorem dX6_weightOf_13 : decode cX6_weightOf 13 = .ok (.iaload, 1) := by decide +kernel
theorem dX6_weightOf_14 : decode cX6_weightOf 14 = .ok (.goto 4, 3) := by decide +kernel
theorem dX6_weightOf_17 : decode cX6_weightOf 17 = .ok (.iconst 0, 1) := by decide +kernel
theorem dX6_weightOf_18 : decode cX6_weightOf 18 = .ok (.ireturn, 1) := by decide +kernel
theorem dX6_byteOf_0 : decode cX6_byteOf 0 = .ok (.lload_n 0, 1) := by decide +kernel
theorem dX6_byteOf_1 : decode cX6_byteOf 1 = .ok (.bipush 8, 2) := by decide +kernel
theorem dX6_byteOf_3 : decode cX6_byteOf 3 = .ok (.iload_n 2, 1) := by decide +kernel
theorem dX6_byteOf_4 : decode cX6_byteOf 4 = .ok (.imul, 1) := by decide +kernel
theorem dX6_byteOf_5 : decode cX6_byteOf 5 = .ok (.lshr, 1) := by decide +kernel
theorem dX6_byteOf_6 : decode cX6_byteOf 6 = .ok (.ldc2_w 289, 3) := by decide +kernel
theorem dX6_byteOf_9 : decode cX6_byteOf 9 = .ok (.land, 1) := by decide +kernel
theorem dX6_byteOf_10 : decode cX6_byteOf 10 = .ok (.l2i, 1) := by decide +kernel
theorem dX6_byteOf_11 : decode cX6_byteOf 11 = .ok (.ireturn, 1) := by decide +kernel
theorem dX6_wayOf_0 : decode cX6_wayOf 0 = .ok (.iload_n 1, 1) := by decide +kernel
theorem dX6_wayOf_1 : decode cX6_wayOf 1 = .ok (.iconst 0, 1) := by decide +kernel
theorem dX6_wayOf_2 : decode cX6_wayOf 2 = .ok (.iconst 2, 1) := by decide +kernel
theorem dX6_wayOf_3 : decode cX6_wayOf 3 = .ok (.invokestatic 53, 3) := by decide +kernel
theorem dX6_wayOf_6 : decode cX6_wayOf 6 = .ok (.ifCond .eq 15, 3) := by decide +kernel
theorem dX6_wayOf_9 : decode cX6_wayOf 9 = .ok (.iload_n 0, 1) := by decide +kernel
theorem dX6_wayOf_10 : decode cX6_wayOf 10 = .ok (.getstatic 81, 3) := by decide +kernel
theorem dX6_wayOf_13 : decode cX6_wayOf 13 = .ok (.iload_n 1, 1) := by decide +kernel
theorem dX6_wayOf_14 : decode cX6_wayOf 14 = .ok (.iaload, 1) := by decide +kernel
theorem dX6_wayOf_15 : decode cX6_wayOf 15 = .ok (.idiv, 1) := by decide +kernel
theorem dX6_wayOf_16 : decode cX6_wayOf 16 = .ok (.iconst 3, 1) := by decide +kernel
theorem dX6_wayOf_17 : decode cX6_wayOf 17 = .ok (.irem, 1) := by decide +kernel
theorem dX6_wayOf_18 : decode cX6_wayOf 18 = .ok (.goto 4, 3) := by decide +kernel
theorem dX6_wayOf_21 : decode cX6_wayOf 21 = .ok (.iconst 0, 1) := by decide +kernel
theorem dX6_wayOf_22 : decode cX6_wayOf 22 = .ok (.ireturn, 1) := by decide +kernel
theorem dX6_tellAnew_0 : decode cX6_tellAnew 0 = .ok (.aload_n 0, 1) := by decide +kernel
theorem dX6_tellAnew_1 : decode cX6_tellAnew 1 = .ok (.iconst 0, 1) := by decide +kernel
theorem dX6_tellAnew_2 : decode cX6_tellAnew 2 = .ok (.putfield 291, 3) := by decide +kernel
theorem dX6_tellAnew_5 : decode cX6_tellAnew 5 = .ok (.aload_n 0, 1) := by decide +kernel
theorem dX6_tellAnew_6 : decode cX6_tellAnew 6 = .ok (.iconst 0, 1) := by decide +kernel
theorem dX6_tellAnew_7 : decode cX6_tellAnew 7 = .ok (.putfield 215, 3) := by decide +kernel
theorem dX6_tellAnew_10 : decode cX6_tellAnew 10 = .ok (.return_, 1) := by decide +kernel
theorem dX6_toldDay_0 : decode cX6_toldDay 0 = .ok (.aload_n 0, 1) := by decide +kernel
theorem dX6_toldDay_1 : decode cX6_toldDay 1 = .ok (.getfield 291, 3) := by decide +kernel
theorem dX6_toldDay_4 : decode cX6_toldDay 4 = .ok (.ifCond .ne 30, 3) := by decide +kernel
theorem dX6_toldDay_7 : decode cX6_toldDay 7 = .ok (.aload_n 0, 1) := by decide +kernel
theorem dX6_toldDay_8 : decode cX6_toldDay 8 = .ok (.getfield 35, 3) := by decide +kernel
theorem dX6_toldDay_11 : decode cX6_toldDay 11 = .ok (.aload_n 0, 1) := by decide +kernel
theorem dX6_toldDay_12 : decode cX6_toldDay 12 = .ok (.getfield 10, 3) := by decide +kernel
theorem dX6_toldDay_15 : decode cX6_toldDay 15 = .ok (.iconst (-1), 1) := by decide +kernel
theorem dX6_toldDay_16 : decode cX6_toldDay 16 = .ok (.invokevirtual 163, 3) := by decide +kernel
theorem dX6_toldDay_19 : decode cX6_toldDay 19 = .ok (.aload_n 0, 1) := by decide +kernel
theorem dX6_toldDay_20 : decode cX6_toldDay 20 = .ok (.getfield 35, 3) := by decide +kernel
theorem dX6_toldDay_23 : decode cX6_toldDay 23 = .ok (.iconst 0, 1) := by decide +kernel
theorem dX6_toldDay_24 : decode cX6_toldDay 24 = .ok (.bipush 99, 2) := by decide +kernel
theorem dX6_toldDay_26 : decode cX6_toldDay 26 = .ok (.invokevirtual 167, 3) := by decide +kernel
theorem dX6_toldDay_29 : decode cX6_toldDay 29 = .ok (.aload_n 0, 1) := by decide +kernel
theorem dX6_toldDay_30 : decode cX6_toldDay 30 = .ok (.iconst 1, 1) := by decide +kernel
theorem dX6_toldDay_31 : decode cX6_toldDay 31 = .ok (.putfield 291, 3) := by decide +kernel
theorem dX6_toldDay_34 : decode cX6_toldDay 34 = .ok (.aload_n 0, 1) := by decide +kernel
theorem dX6_toldDay_35 : decode cX6_toldDay 35 = .ok (.getfield 35, 3) := by decide +kernel
theorem dX6_toldDay_38 : decode cX6_toldDay 38 = .ok (.areturn, 1) := by decide +kernel
theorem dX6_waitsByRule_0 : decode cX6_waitsByRule 0 = .ok (.aload_n 0, 1) := by decide +kernel
theorem dX6_waitsByRule_1 : decode cX6_waitsByRule 1 = .ok (.getfield 39, 3) := by decide +kernel
theorem dX6_waitsByRule_4 : decode cX6_waitsByRule 4 = .ok (.aload_n 0, 1) := by decide +kernel
theorem dX6_waitsByRule_5 : decode cX6_waitsByRule 5 = .ok (.getfield 10, 3) := by decide +kernel
theorem dX6_waitsByRule_8 : decode cX6_waitsByRule 8 = .ok (.iconst (-1), 1) := by decide +kernel
theorem dX6_waitsByRule_9 : decode cX6_waitsByRule 9 = .ok (.invokevirtual 163, 3) := by decide +kernel
theorem dX6_waitsByRule_12 : decode cX6_waitsByRule 12 = .ok (.aload_n 0, 1) := by decide +kernel
theorem dX6_waitsByRule_13 : decode cX6_waitsByRule 13 = .ok (.getfield 39, 3) := by decide +kernel
theorem dX6_waitsByRule_16 : decode cX6_waitsByRule 16 = .ok (.getfield 294, 3) := by decide +kernel
theorem dX6_waitsByRule_19 : decode cX6_waitsByRule 19 = .ok (.iconst 0, 1) := by decide +kernel
theorem dX6_waitsByRule_20 : decode cX6_waitsByRule 20 = .ok (.iload_n 1, 1) := by decide +kernel
theorem dX6_waitsByRule_21 : decode cX6_waitsByRule 21 = .ok (.iastore, 1) := by decide +kernel
theorem dX6_waitsByRule_22 : decode cX6_waitsByRule 22 = .ok (.aload_n 0, 1) := by decide +kernel
theorem dX6_waitsByRule_23 : decode cX6_waitsByRule 23 = .ok (.getfield 39, 3) := by decide +kernel
theorem dX6_waitsByRule_26 : decode cX6_waitsByRule 26 = .ok (.iconst 0, 1) := by decide +kernel
theorem dX6_waitsByRule_27 : decode cX6_waitsByRule 27 = .ok (.ldc 208, 2) := by decide +kernel
theorem dX6_waitsByRule_29 : decode cX6_waitsByRule 29 = .ok (.invokevirtual 212, 3) := by decide +kernel
theorem dX6_waitsByRule_32 : decode cX6_waitsByRule 32 = .ok (.aload_n 0, 1) := by decide +kernel
theorem dX6_waitsByRule_33 : decode cX6_waitsByRule 33 = .ok (.getfield 39, 3) := by decide +kernel
theorem dX6_waitsByRule_36 : decode cX6_waitsByRule 36 = .ok (.getfield 187, 3) := by decide +kernel
theorem dX6_waitsByRule_39 : decode cX6_waitsByRule 39 = .ok (.ireturn, 1) := by decide +kernel
theorem dX6_seekChange_0 : decode cX6_seekChange 0 = .ok (.ldc 208, 2) := by decide +kernel
theorem dX6_seekChange_2 : decode cX6_seekChange 2 = .ok (.istore_n 2, 1) := by decide +kernel
theorem dX6_seekChange_3 : decode cX6_seekChange 3 = .ok (.iconst 0, 1) := by decide +kernel
theorem dX6_seekChange_4 : decode cX6_seekChange 4 = .ok (.istore_n 3, 1) := by decide +kernel
theorem dX6_seekChange_5 : decode cX6_seekChange 5 = .ok (.iload_n 3, 1) := by decide +kernel
theorem dX6_seekChange_6 : decode cX6_seekChange 6 = .ok (.getstatic 81, 3) := by decide +kernel
theorem dX6_seekChange_9 : decode cX6_seekChange 9 = .ok (.aload_n 0, 1) := by decide +kernel
theorem dX6_seekChange_10 : decode cX6_seekChange 10 = .ok (.getfield 10, 3) := by decide +kernel
theorem dX6_seekChange_13 : decode cX6_seekChange 13 = .ok (.getfield 57, 3) := by decide +kernel
theorem dX6_seekChange_16 : decode cX6_seekChange 16 = .ok (.iaload, 1) := by decide +kernel
theorem dX6_seekChange_17 : decode cX6_seekChange 17 = .ok (.if_icmp .ge 42, 3) := by decide +kernel
theorem dX6_seekChange_20 : decode cX6_seekChange 20 = .ok (.aload_n 0, 1) := by decide +kernel
theorem dX6_seekChange_21 : decode cX6_seekChange 21 = .ok (.getfield 39, 3) := by decide +kernel
theorem dX6_seekChange_24 : decode cX6_seekChange 24 = .ok (.aload_n 0, 1) := by decide +kernel
theorem dX6_seekChange_25 : decode cX6_seekChange 25 = .ok (.getfield 10, 3) := by decide +kernel
theorem dX6_seekChange_28 : decode cX6_seekChange 28 = .ok (.iload_n 3, 1) := by decide +kernel
theorem dX6_seekChange_29 : decode cX6_seekChange 29 = .ok (.invokevirtual 209, 3) := by decide +kernel
theorem dX6_seekChange_32 : decode cX6_seekChange 32 = .ok (.aload_n 0, 1) := by decide +kernel
theorem dX6_seekChange_33 : decode cX6_seekChange 33 = .ok (.getfield 39, 3) := by decide +kernel
theorem dX6_seekChange_36 : decode cX6_seekChange 36 = .ok (.iconst 0, 1) := by decide +kernel
theorem dX6_seekChange_37 : decode cX6_seekChange 37 = .ok (.iload_n 2, 1) := by decide +kernel
theorem dX6_seekChange_38 : decode cX6_seekChange 38 = .ok (.invokevirtual 212, 3) := by decide +kernel
theorem dX6_seekChange_41 : decode cX6_seekChange 41 = .ok (.iload_n 2, 1) := by decide +kernel
theorem dX6_seekChange_42 : decode cX6_seekChange 42 = .ok (.aload_n 0, 1) := by decide +kernel
theorem dX6_seekChange_43 : decode cX6_seekChange 43 = .ok (.getfield 39, 3) := by decide +kernel
theorem dX6_seekChange_46 : decode cX6_seekChange 46 = .ok (.getfield 187, 3) := by decide +kernel
theorem dX6_seekChange_49 : decode cX6_seekChange 49 = .ok (.invokestatic 295, 3) := by decide +kernel
theorem dX6_seekChange_52 : decode cX6_seekChange 52 = .ok (.istore_n 2, 1) := by decide +kernel
theorem dX6_seekChange_53 : decode cX6_seekChange 53 = .ok (.iinc 3 1, 3) := by decide +kernel
theorem dX6_seekChange_56 : decode cX6_seekChange 56 = .ok (.goto (-51), 3) := by decide +kernel
theorem dX6_seekChange_59 : decode cX6_seekChange 59 = .ok (.iinc 2 1, 3) := by decide +kernel
theorem dX6_seekChange_62 : decode cX6_seekChange 62 = .ok (.iconst 0, 1) := by decide +kernel
theorem dX6_seekChange_63 : decode cX6_seekChange 63 = .ok (.istore_n 3, 1) := by decide +kernel
theorem dX6_seekChange_64 : decode cX6_seekChange 64 = .ok (.iload_n 3, 1) := by decide +kernel
theorem dX6_seekChange_65 : decode cX6_seekChange 65 = .ok (.getstatic 81, 3) := by decide +kernel
theorem dX6_seekChange_68 : decode cX6_seekChange 68 = .ok (.aload_n 0, 1) := by decide +kernel
theorem dX6_seekChange_69 : decode cX6_seekChange 69 = .ok (.getfield 10, 3) := by decide +kernel
theorem dX6_seekChange_72 : decode cX6_seekChange 72 = .ok (.getfield 57, 3) := by decide +kernel
theorem dX6_seekChange_75 : decode cX6_seekChange 75 = .ok (.iaload, 1) := by decide +kernel
theorem dX6_seekChange_76 : decode cX6_seekChange 76 = .ok (.if_icmp .ge 128, 3) := by decide +kernel
theorem dX6_seekChange_79 : decode cX6_seekChange 79 = .ok (.aload_n 0, 1) := by decide +kernel
theorem dX6_seekChange_80 : decode cX6_seekChange 80 = .ok (.getfield 42, 3) := by decide +kernel
theorem dX6_seekChange_83 : decode cX6_seekChange 83 = .ok (.aload_n 0, 1) := by decide +kernel
theorem dX6_seekChange_84 : decode cX6_seekChange 84 = .ok (.getfield 10, 3) := by decide +kernel
theorem dX6_seekChange_87 : decode cX6_seekChange 87 = .ok (.iload_n 3, 1) := by decide +kernel
theorem dX6_seekChange_88 : decode cX6_seekChange 88 = .ok (.invokevirtual 209, 3) := by decide +kernel
theorem dX6_seekChange_91 : decode cX6_seekChange 91 = .ok (.aload_n 0, 1) := by decide +kernel
theorem dX6_seekChange_92 : decode cX6_seekChange 92 = .ok (.getfield 42, 3) := by decide +kernel
theorem dX6_seekChange_95 : decode cX6_seekChange 95 = .ok (.iconst 0, 1) := by decide +kernel
theorem dX6_seekChange_96 : decode cX6_seekChange 96 = .ok (.iload_n 1, 1) := by decide +kernel
theorem dX6_seekChange_97 : decode cX6_seekChange 97 = .ok (.iconst 1, 1) := by decide +kernel
theorem dX6_seekChange_98 : decode cX6_seekChange 98 = .ok (.isub, 1) := by decide +kernel
theorem dX6_seekChange_99 : decode cX6_seekChange 99 = .ok (.invokevirtual 167, 3) := by decide +kernel
theorem dX6_seekChange_102 : decode cX6_seekChange 102 = .ok (.iconst 0, 1) := by decide +kernel
theorem dX6_seekChange_103 : decode cX6_seekChange 103 = .ok (.istore 4, 2) := by decide +kernel
theorem dX6_seekChange_105 : decode cX6_seekChange 105 = .ok (.iload 4, 2) := by decide +kernel
theorem dX6_seekChange_107 : decode cX6_seekChange 107 = .ok (.getstatic 81, 3) := by decide +kernel
theorem dX6_seekChange_110 : decode cX6_seekChange 110 = .ok (.aload_n 0, 1) := by decide +kernel
theorem dX6_seekChange_111 : decode cX6_seekChange 111 = .ok (.getfield 10, 3) := by decide +kernel
theorem dX6_seekChange_114 : decode cX6_seekChange 114 = .ok (.getfield 57, 3) := by decide +kernel
theorem dX6_seekChange_117 : decode cX6_seekChange 117 = .ok (.iaload, 1) := by decide +kernel
theorem dX6_seekChange_118 : decode cX6_seekChange 118 = .ok (.if_icmp .ge 80, 3) := by decide +kernel
theorem dX6_seekChange_121 : decode cX6_seekChange 121 = .ok (.aload_n 0, 1) := by decide +kernel
theorem dX6_seekChange_122 : decode cX6_seekChange 122 = .ok (.getfield 42, 3) := by decide +kernel
theorem dX6_seekChange_125 : decode cX6_seekChange 125 = .ok (.getfield 187, 3) := by decide +kernel
theorem dX6_seekChange_128 : decode cX6_seekChange 128 = .ok (.iload_n 2, 1) := by decide +kernel
theorem dX6_seekChange_129 : decode cX6_seekChange 129 = .ok (.if_icmp .ge 69, 3) := by decide +kernel
theorem dX6_seekChange_132 : decode cX6_seekChange 132 = .ok (.aload_n 0, 1) := by decide +kernel
theorem dX6_seekChange_133 : decode cX6_seekChange 133 = .ok (.getfield 39, 3) := by decide +kernel
theorem dX6_seekChange_136 : decode cX6_seekChange 136 = .ok (.aload_n 0, 1) := by decide +kernel
theorem dX6_seekChange_137 : decode cX6_seekChange 137 = .ok (.getfield 42, 3) := by decide +kernel
theorem dX6_seekChange_140 : decode cX6_seekChange 140 = .ok (.invokevirtual 300, 3) := by decide +kernel
theorem dX6_seekChange_143 : decode cX6_seekChange 143 = .ok (.aload_n 0, 1) := by decide +kernel
theorem dX6_seekChange_144 : decode cX6_seekChange 144 = .ok (.getfield 39, 3) := by decide +kernel
theorem dX6_seekChange_147 : decode cX6_seekChange 147 = .ok (.iload_n 1, 1) := by decide +kernel
theorem dX6_seekChange_148 : decode cX6_seekChange 148 = .ok (.iload 4, 2) := by decide +kernel
theorem dX6_seekChange_150 : decode cX6_seekChange 150 = .ok (.invokevirtual 303, 3) := by decide +kernel
theorem dX6_seekChange_153 : decode cX6_seekChange 153 = .ok (.aload_n 0, 1) := by decide +kernel
theorem dX6_seekChange_154 : decode cX6_seekChange 154 = .ok (.getfield 39, 3) := by decide +kernel
theorem dX6_seekChange_157 : decode cX6_seekChange 157 = .ok (.iload_n 1, 1) := by decide +kernel
theorem dX6_seekChange_158 : decode cX6_seekChange 158 = .ok (.iload_n 2, 1) := by decide +kernel
theorem dX6_seekChange_159 : decode cX6_seekChange 159 = .ok (.invokevirtual 212, 3) := by decide +kernel
theorem dX6_seekChange_162 : decode cX6_seekChange 162 = .ok (.aload_n 0, 1) := by decide +kernel
theorem dX6_seekChange_163 : decode cX6_seekChange 163 = .ok (.getfield 39, 3) := by decide +kernel
theorem dX6_seekChange_166 : decode cX6_seekChange 166 = .ok (.getfield 187, 3) := by decide +kernel
theorem dX6_seekChange_169 : decode cX6_seekChange 169 = .ok (.iload_n 2, 1) := by decide +kernel
theorem dX6_seekChange_170 : decode cX6_seekChange 170 = .ok (.if_icmp .ge 22, 3) := by decide +kernel
theorem dX6_seekChange_173 : decode cX6_seekChange 173 = .ok (.aload_n 0, 1) := by decide +kernel
theorem dX6_seekChange_174 : decode cX6_seekChange 174 = .ok (.getfield 39, 3) := by decide +kernel
theorem dX6_seekChange_177 : decode cX6_seekChange 177 = .ok (.getfield 187, 3) := by decide +kernel
theorem dX6_seekChange_180 : decode cX6_seekChange 180 = .ok (.istore_n 2, 1) := by decide +kernel
theorem dX6_seekChange_181 : decode cX6_seekChange 181 = .ok (.aload_n 0, 1) := by decide +kernel
theorem dX6_seekChange_182 : decode cX6_seekChange 182 = .ok (.iload_n 3, 1) := by decide +kernel
theorem dX6_seekChange_183 : decode cX6_seekChange 183 = .ok (.putfield 221, 3) := by decide +kernel
theorem dX6_seekChange_186 : decode cX6_seekChange 186 = .ok (.aload_n 0, 1) := by decide +kernel
theorem dX6_seekChange_187 : decode cX6_seekChange 187 = .ok (.iload 4, 2) := by decide +kernel
theorem dX6_seekChange_189 : decode cX6_seekChange 189 = .ok (.putfield 224, 3) := by decide +kernel
theorem dX6_seekChange_192 : decode cX6_seekChange 192 = .ok (.iinc 4 1, 3) := by decide +kernel
theorem dX6_seekChange_195 : decode cX6_seekChange 195 = .ok (.goto (-90), 3) := by decide +kernel
theorem dX6_seekChange_198 : decode cX6_seekChange 198 = .ok (.iinc 3 1, 3) := by decide +kernel
theorem dX6_seekChange_201 : decode cX6_seekChange 201 = .ok (.goto (-137), 3) := by decide +kernel
theorem dX6_seekChange_204 : decode cX6_seekChange 204 = .ok (.aload_n 0, 1) := by decide +kernel
theorem dX6_seekChange_205 : decode cX6_seekChange 205 = .ok (.iload_n 2, 1) := by decide +kernel
theorem dX6_seekChange_206 : decode cX6_seekChange 206 = .ok (.putfield 227, 3) := by decide +kernel
theorem dX6_seekChange_209 : decode cX6_seekChange 209 = .ok (.aload_n 0, 1) := by decide +kernel
theorem dX6_seekChange_210 : decode cX6_seekChange 210 = .ok (.iload_n 1, 1) := by decide +kernel
theorem dX6_seekChange_211 : decode cX6_seekChange 211 = .ok (.putfield 215, 3) := by decide +kernel
theorem dX6_seekChange_214 : decode cX6_seekChange 214 = .ok (.return_, 1) := by decide +kernel
theorem dX6_refuse_0 : decode cX6_refuse 0 = .ok (.iload_n 1, 1) := by decide +kernel
theorem dX6_refuse_1 : decode cX6_refuse 1 = .ok (.invokestatic 258, 3) := by decide +kernel
theorem dX6_refuse_4 : decode cX6_refuse 4 = .ok (.ifCond .eq 12, 3) := by decide +kernel
theorem dX6_refuse_7 : decode cX6_refuse 7 = .ok (.iload_n 2, 1) := by decide +kernel
theorem dX6_refuse_8 : decode cX6_refuse 8 = .ok (.iconst 0, 1) := by decide +kernel
theorem dX6_refuse_9 : decode cX6_refuse 9 = .ok (.iconst 2, 1) := by decide +kernel
theorem dX6_refuse_10 : decode cX6_refuse 10 = .ok (.invokestatic 53, 3) := by decide +kernel
theorem dX6_refuse_13 : decode cX6_refuse 13 = .ok (.ifCond .ne 5, 3) := by decide +kernel
theorem dX6_refuse_16 : decode cX6_refuse 16 = .ok (.iconst (-1), 1) := by decide +kernel
theorem dX6_refuse_17 : decode cX6_refuse 17 = .ok (.ireturn, 1) := by decide +kernel
theorem dX6_refuse_18 : decode cX6_refuse 18 = .ok (.aload_n 0, 1) := by decide +kernel
theorem dX6_refuse_19 : decode cX6_refuse 19 = .ok (.getfield 28, 3) := by decide +kernel
theorem dX6_refuse_22 : decode cX6_refuse 22 = .ok (.iload_n 1, 1) := by decide +kernel
theorem dX6_refuse_23 : decode cX6_refuse 23 = .ok (.aaload, 1) := by decide +kernel
theorem dX6_refuse_24 : decode cX6_refuse 24 = .ok (.astore 5, 2) := by decide +kernel
theorem dX6_refuse_26 : decode cX6_refuse 26 = .ok (.aload 5, 2) := by decide +kernel
theorem dX6_refuse_28 : decode cX6_refuse 28 = .ok (.getfield 264, 3) := by decide +kernel
theorem dX6_refuse_31 : decode cX6_refuse 31 = .ok (.ifCond .ne 6, 3) := by decide +kernel
theorem dX6_refuse_34 : decode cX6_refuse 34 = .ok (.bipush (-11), 2) := by decide +kernel
theorem dX6_refuse_36 : decode cX6_refuse 36 = .ok (.ireturn, 1) := by decide +kernel
theorem dX6_refuse_37 : decode cX6_refuse 37 = .ok (.aload 5, 2) := by decide +kernel
theorem dX6_refuse_39 : decode cX6_refuse 39 = .ok (.getfield 270, 3) := by decide +kernel
theorem dX6_refuse_42 : decode cX6_refuse 42 = .ok (.iload_n 2, 1) := by decide +kernel
theorem dX6_refuse_43 : decode cX6_refuse 43 = .ok (.if_icmp .eq 6, 3) := by decide +kernel
theorem dX6_refuse_46 : decode cX6_refuse 46 = .ok (.bipush (-12), 2) := by decide +kernel
theorem dX6_refuse_48 : decode cX6_refuse 48 = .ok (.ireturn, 1) := by decide +kernel
theorem dX6_refuse_49 : decode cX6_refuse 49 = .ok (.aload 5, 2) := by decide +kernel
theorem dX6_refuse_51 : decode cX6_refuse 51 = .ok (.iload_n 3, 1) := by decide +kernel
theorem dX6_refuse_52 : decode cX6_refuse 52 = .ok (.iload 4, 2) := by decide +kernel
theorem dX6_refuse_54 : decode cX6_refuse 54 = .ok (.invokevirtual 273, 3) := by decide +kernel
theorem dX6_refuse_57 : decode cX6_refuse 57 = .ok (.ifCond .eq 7, 3) := by decide +kernel
theorem dX6_refuse_60 : decode cX6_refuse 60 = .ok (.iconst 0, 1) := by decide +kernel
theorem dX6_refuse_61 : decode cX6_refuse 61 = .ok (.goto 5, 3) := by decide +kernel
theorem dX6_refuse_64 : decode cX6_refuse 64 = .ok (.bipush (-13), 2) := by decide +kernel
theorem dX6_refuse_66 : decode cX6_refuse 66 = .ok (.ireturn, 1) := by decide +kernel
theorem dX6_isFilm_0 : decode cX6_isFilm 0 = .ok (.aload_n 1, 1) := by decide +kernel
theorem dX6_isFilm_1 : decode cX6_isFilm 1 = .ok (.iload_n 2, 1) := by decide +kernel
theorem dX6_isFilm_2 : decode cX6_isFilm 2 = .ok (.iload_n 3, 1) := by decide +kernel
theorem dX6_isFilm_3 : decode cX6_isFilm 3 = .ok (.invokevirtual 273, 3) := by decide +kernel
theorem dX6_isFilm_6 : decode cX6_isFilm 6 = .ok (.ifCond .ne 5, 3) := by decide +kernel
theorem dX6_isFilm_9 : decode cX6_isFilm 9 = .ok (.iconst 0, 1) := by decide +kernel
theorem dX6_isFilm_10 : decode cX6_isFilm 10 = .ok (.ireturn, 1) := by decide +kernel
theorem dX6_isFilm_11 : decode cX6_isFilm 11 = .ok (.iconst 0, 1) := by decide +kernel
theorem dX6_isFilm_12 : decode cX6_isFilm 12 = .ok (.istore 4, 2) := by decide +kernel
theorem dX6_isFilm_14 : decode cX6_isFilm 14 = .ok (.iload 4, 2) := by decide +kernel
theorem dX6_isFilm_16 : decode cX6_isFilm 16 = .ok (.iload_n 3, 1) := by decide +kernel
theorem dX6_isFilm_17 : decode cX6_isFilm 17 = .ok (.if_icmp .ge 35, 3) := by decide +kernel
theorem dX6_isFilm_20 : decode cX6_isFilm 20 = .ok (.aload_n 1, 1) := by decide +kernel
theorem dX6_isFilm_21 : decode cX6_isFilm 21 = .ok (.getfield 277, 3) := by decide +kernel
theorem dX6_isFilm_24 : decode cX6_isFilm 24 = .ok (.iload_n 2, 1) := by decide +kernel
theorem dX6_isFilm_25 : decode cX6_isFilm 25 = .ok (.iload 4, 2) := by decide +kernel
theorem dX6_isFilm_27 : decode cX6_isFilm 27 = .ok (.iadd, 1) := by decide +kernel
theorem dX6_isFilm_28 : decode cX6_isFilm 28 = .ok (.iaload, 1) := by decide +kernel
theorem dX6_isFilm_29 : decode cX6_isFilm 29 = .ok (.aload_n 0, 1) := by decide +kernel
theorem dX6_isFilm_30 : decode cX6_isFilm 30 = .ok (.bipush 10, 2) := by decide +kernel
theorem dX6_isFilm_32 : decode cX6_isFilm 32 = .ok (.iload 4, 2) := by decide +kernel
theorem dX6_isFilm_34 : decode cX6_isFilm 34 = .ok (.imul, 1) := by decide +kernel
theorem dX6_isFilm_35 : decode cX6_isFilm 35 = .ok (.bipush 9, 2) := by decide +kernel
theorem dX6_isFilm_37 : decode cX6_isFilm 37 = .ok (.iadd, 1) := by decide +kernel
theorem dX6_isFilm_38 : decode cX6_isFilm 38 = .ok (.invokevirtual 202, 3) := by decide +kernel
theorem dX6_isFilm_41 : decode cX6_isFilm 41 = .ok (.if_icmp .eq 5, 3) := by decide +kernel
theorem dX6_isFilm_44 : decode cX6_isFilm 44 = .ok (.iconst 0, 1) := by decide +kernel
theorem dX6_isFilm_45 : decode cX6_isFilm 45 = .ok (.ireturn, 1) := by decide +kernel
theorem dX6_isFilm_46 : decode cX6_isFilm 46 = .ok (.iinc 4 1, 3) := by decide +kernel
theorem dX6_isFilm_49 : decode cX6_isFilm 49 = .ok (.goto (-35), 3) := by decide +kernel
theorem dX6_isFilm_52 : decode cX6_isFilm 52 = .ok (.iconst 1, 1) := by decide +kernel
theorem dX6_isFilm_53 : decode cX6_isFilm 53 = .ok (.ireturn, 1) := by decide +kernel
end
section
theorem dX7_in_0 : decode cX7_in 0 = .ok (.lload_n 0, 1) := by decide +kernel
theorem dX7_in_1 : decode cX7_in 1 = .ok (.lload_n 2, 1) := by decide +kernel
theorem dX7_in_2 : decode cX7_in 2 = .ok (.lcmp, 1) := by decide +kernel
theorem dX7_in_3 : decode cX7_in 3 = .ok (.ifCond .lt 14, 3) := by decide +kernel
theorem dX7_in_6 : decode cX7_in 6 = .ok (.lload_n 0, 1) := by decide +kernel
theorem dX7_in_7 : decode cX7_in 7 = .ok (.lload 4, 2) := by decide +kernel
theorem dX7_in_9 : decode cX7_in 9 = .ok (.lcmp, 1) := by decide +kernel
theorem dX7_in_10 : decode cX7_in 10 = .ok (.ifCond .gt 7, 3) := by decide +kernel
theorem dX7_in_13 : decode cX7_in 13 = .ok (.iconst 1, 1) := by decide +kernel
theorem dX7_in_14 : decode cX7_in 14 = .ok (.goto 4, 3) := by decide +kernel
theorem dX7_in_17 : decode cX7_in 17 = .ok (.iconst 0, 1) := by decide +kernel
theorem dX7_in_18 : decode cX7_in 18 = .ok (.ireturn, 1) := by decide +kernel
theorem dX7_init_0 : decode cX7_init 0 = .ok (.aload_n 0, 1) := by decide +kernel
theorem dX7_init_1 : decode cX7_init 1 = .ok (.invokespecial 1, 3) := by decide +kernel
theorem dX7_init_4 : decode cX7_init 4 = .ok (.aload_n 0, 1) := by decide +kernel
theorem dX7_init_5 : decode cX7_init 5 = .ok (.bipush 7, 2) := by decide +kernel
theorem dX7_init_7 : decode cX7_init 7 = .ok (.newarray .int, 2) := by decide +kernel
theorem dX7_init_9 : decode cX7_init 9 = .ok (.putfield 7, 3) := by decide +kernel
theorem dX7_init_12 : decode cX7_init 12 = .ok (.aload_n 0, 1) := by decide +kernel
theorem dX7_init_13 : decode cX7_init 13 = .ok (.bipush 9, 2) := by decide +kernel
theorem dX7_init_15 : decode cX7_init 15 = .ok (.newarray .int, 2) := by decide +kernel
theorem dX7_init_17 : decode cX7_init 17 = .ok (.putfield 13, 3) := by decide +kernel
theorem dX7_init_20 : decode cX7_init 20 = .ok (.aload_n 0, 1) := by decide +kernel
theorem dX7_init_21 : decode cX7_init 21 = .ok (.bipush 42, 2) := by decide +kernel
theorem dX7_init_23 : decode cX7_init 23 = .ok (.newarray .int, 2) := by decide +kernel
theorem dX7_init_25 : decode cX7_init 25 = .ok (.putfield 16, 3) := by decide +kernel
theorem dX7_init_28 : decode cX7_init 28 = .ok (.aload_n 0, 1) := by decide +kernel
theorem dX7_init_29 : decode cX7_init 29 = .ok (.bipush 80, 2) := by decide +kernel
theorem dX7_init_31 : decode cX7_init 31 = .ok (.newarray .int, 2) := by decide +kernel
theorem dX7_init_33 : decode cX7_init 33 = .ok (.putfield 19, 3) := by decide +kernel
theorem dX7_init_36 : decode cX7_init 36 = .ok (.aload_n 0, 1) := by decide +kernel
theorem dX7_init_37 : decode cX7_init 37 = .ok (.bipush 24, 2) := by decide +kernel
theorem dX7_init_39 : decode cX7_init 39 = .ok (.newarray .int, 2) := by decide +kernel
theorem dX7_init_41 : decode cX7_init 41 = .ok (.putfield 22, 3) := by decide +kernel
theorem dX7_init_44 : decode cX7_init 44 = .ok (.aload_n 0, 1) := by decide +kernel
theorem dX7_init_45 : decode cX7_init 45 = .ok (.iconst 3, 1) := by decide +kernel
theorem dX7_init_46 : decode cX7_init 46 = .ok (.newarray .int, 2) := by decide +kernel
theorem dX7_init_48 : decode cX7_init 48 = .ok (.putfield 25, 3) := by decide +kernel
theorem dX7_init_51 : decode cX7_init 51 = .ok (.aload_n 0, 1) := by decide +kernel
theorem dX7_init_52 : decode cX7_init 52 = .ok (.iconst 3, 1) := by decide +kernel
theorem dX7_init_53 : decode cX7_init 53 = .ok (.newarray .int, 2) := by decide +kernel
theorem dX7_init_55 : decode cX7_init 55 = .ok (.putfield 28, 3) := by decide +kernel
theorem dX7_init_58 : decode cX7_init 58 = .ok (.aload_n 0, 1) := by decide +kernel
theorem dX7_init_59 : decode cX7_init 59 = .ok (.iconst 3, 1) := by decide +kernel
theorem dX7_init_60 : decode cX7_init 60 = .ok (.newarray .int, 2) := by decide +kernel
theorem dX7_init_62 : decode cX7_init 62 = .ok (.putfield 31, 3) := by decide +kernel
theorem dX7_init_65 : decode cX7_init 65 = .ok (.aload_n 0, 1) := by decide +kernel
theorem dX7_init_66 : decode cX7_init 66 = .ok (.bipush 14, 2) := by decide +kernel
theorem dX7_init_68 : decode cX7_init 68 = .ok (.newarray .int, 2) := by decide +kernel
theorem dX7_init_70 : decode cX7_init 70 = .ok (.putfield 34, 3) := by decide +kernel
theorem dX7_init_73 : decode cX7_init 73 = .ok (.aload_n 0, 1) := by decide +kernel
theorem dX7_init_74 : decode cX7_init 74 = .ok (.bipush 14, 2) := by decide +kernel
theorem dX7_init_76 : decode cX7_init 76 = .ok (.newarray .int, 2) := by decide +kernel
theorem dX7_init_78 : decode cX7_init 78 = .ok (.putfield 37, 3) := by decide +kernel
theorem dX7_init_81 : decode cX7_init 81 = .ok (.aload_n 0, 1) := by decide +kernel
theorem dX7_init_82 : decode cX7_init 82 = .ok (.bipush 14, 2) := by decide +kernel
theorem dX7_init_84 : decode cX7_init 84 = .ok (.newarray .int, 2) := by decide +kernel
theorem dX7_init_86 : decode cX7_init 86 = .ok (.putfield 40, 3) := by decide +kernel
theorem dX7_init_89 : decode cX7_init 89 = .ok (.aload_n 0, 1) := by decide +kernel
theorem dX7_init_90 : decode cX7_init 90 = .ok (.bipush 14, 2) := by decide +kernel
theorem dX7_init_92 : decode cX7_init 92 = .ok (.newarray .int, 2) := by decide +kernel
theorem dX7_init_94 : decode cX7_init 94 = .ok (.putfield 43, 3) := by decide +kernel
theorem dX7_init_97 : decode cX7_init 97 = .ok (.aload_n 0, 1) := by decide +kernel
theorem dX7_init_98 : decode cX7_init 98 = .ok (.bipush 14, 2) := by decide +kernel
theorem dX7_init_100 : decode cX7_init 100 = .ok (.newarray .int, 2) := by decide +kernel
theorem dX7_init_102 : decode cX7_init 102 = .ok (.putfield 46, 3) := by decide +kernel
theorem dX7_init_105 : decode cX7_init 105 = .ok (.aload_n 0, 1) := by decide +kernel
theorem dX7_init_106 : decode cX7_init 106 = .ok (.bipush 14, 2) := by decide +kernel
theorem dX7_init_108 : decode cX7_init 108 = .ok (.newarray .int, 2) := by decide +kernel
theorem dX7_init_110 : decode cX7_init 110 = .ok (.putfield 49, 3) := by decide +kernel
theorem dX7_init_113 : decode cX7_init 113 = .ok (.aload_n 0, 1) := by decide +kernel
theorem dX7_init_114 : decode cX7_init 114 = .ok (.bipush 14, 2) := by decide +kernel
theorem dX7_init_116 : decode cX7_init 116 = .ok (.newarray .int, 2) := by decide +kernel
theorem dX7_init_118 : decode cX7_init 118 = .ok (.putfield 52, 3) := by decide +kernel
theorem dX7_init_121 : decode cX7_init 121 = .ok (.aload_n 0, 1) := by decide +kernel
theorem dX7_init_122 : decode cX7_init 122 = .ok (.bipush 14, 2) := by decide +kernel
theorem dX7_init_124 : decode cX7_init 124 = .ok (.newarray .int, 2) := by decide +kernel
theorem dX7_init_126 : decode cX7_init 126 = .ok (.putfield 55, 3) := by decide +kernel
theorem dX7_init_129 : decode cX7_init 129 = .ok (.aload_n 0, 1) := by decide +kernel
theorem dX7_init_130 : decode cX7_init 130 = .ok (.bipush 14, 2) := by decide +kernel
theorem dX7_init_132 : decode cX7_init 132 = .ok (.newarray .int, 2) := by decide +kernel
theorem dX7_init_134 : decode cX7_init 134 = .ok (.putfield 58, 3) := by decide +kernel
theorem dX7_init_137 : decode cX7_init 137 = .ok (.aload_n 0, 1) := by decide +kernel
theorem dX7_init_138 : decode cX7_init 138 = .ok (.bipush 14, 2) := by decide +kernel
theorem dX7_init_140 : decode cX7_init 140 = .ok (.newarray .int, 2) := by decide +kernel
theorem dX7_init_142 : decode cX7_init 142 = .ok (.putfield 61, 3) := by decide +kernel
theorem dX7_init_145 : decode cX7_init 145 = .ok (.aload_n 0, 1) := by decide +kernel
theorem dX7_init_146 : decode cX7_init 146 = .ok (.bipush 14, 2) := by decide +kernel
theorem dX7_init_148 : decode cX7_init 148 = .ok (.newarray .int, 2) := by decide +kernel
theorem dX7_init_150 : decode cX7_init 150 = .ok (.putfield 64, 3) := by decide +kernel
theorem dX7_init_153 : decode cX7_init 153 = .ok (.aload_n 0, 1) := by decide +kernel
theorem dX7_init_154 : decode cX7_init 154 = .ok (.iconst 3, 1) := by decide +kernel
theorem dX7_init_155 : decode cX7_init 155 = .ok (.newarray .int, 2) := by decide +kernel
theorem dX7_init_157 : decode cX7_init 157 = .ok (.putfield 67, 3) := by decide +kernel
theorem dX7_init_160 : decode cX7_init 160 = .ok (.aload_n 0, 1) := by decide +kernel
theorem dX7_init_161 : decode cX7_init 161 = .ok (.iconst 3, 1) := by decide +kernel
theorem dX7_init_162 : decode cX7_init 162 = .ok (.newarray .int, 2) := by decide +kernel
theorem dX7_init_164 : decode cX7_init 164 = .ok (.putfield 70, 3) := by decide +kernel
theorem dX7_init_167 : decode cX7_init 167 = .ok (.aload_n 0, 1) := by decide +kernel
theorem dX7_init_168 : decode cX7_init 168 = .ok (.sipush 400, 3) := by decide +kernel
theorem dX7_init_171 : decode cX7_init 171 = .ok (.newarray .int, 2) := by decide +kernel
theorem dX7_init_173 : decode cX7_init 173 = .ok (.putfield 73, 3) := by decide +kernel
theorem dX7_init_176 : decode cX7_init 176 = .ok (.aload_n 0, 1) := by decide +kernel
theorem dX7_init_177 : decode cX7_init 177 = .ok (.bipush 100, 2) := by decide +kernel
theorem dX7_init_179 : decode cX7_init 179 = .ok (.newarray .int, 2) := by decide +kernel
theorem dX7_init_181 : decode cX7_init 181 = .ok (.putfield 76, 3) := by decide +kernel
theorem dX7_init_184 : decode cX7_init 184 = .ok (.aload_n 0, 1) := by decide +kernel
theorem dX7_init_185 : decode cX7_init 185 = .ok (.sipush 6000, 3) := by decide +kernel
theorem dX7_init_188 : decode cX7_init 188 = .ok (.newarray .int, 2) := by decide +kernel
theorem dX7_init_190 : decode cX7_init 190 = .ok (.putfield 79, 3) := by decide +kernel
theorem dX7_init_193 : decode cX7_init 193 = .ok (.aload_n 0, 1) := by decide +kernel
theorem dX7_init_194 : decode cX7_init 194 = .ok (.bipush 80, 2) := by decide +kernel
theorem dX7_init_196 : decode cX7_init 196 = .ok (.newarray .int, 2) := by decide +kernel
theorem dX7_init_198 : decode cX7_init 198 = .ok (.putfield 82, 3) := by decide +kernel
theorem dX7_init_201 : decode cX7_init 201 = .ok (.aload_n 0, 1) := by decide +kernel
theorem dX7_init_202 : decode cX7_init 202 = .ok (.iconst 4, 1) := by decide +kernel
theorem dX7_init_203 : decode cX7_init 203 = .ok (.newarray .int, 2) := by decide +kernel
theorem dX7_init_205 : decode cX7_init 205 = .ok (.putfield 85, 3) := by decide +kernel
theorem dX7_init_208 : decode cX7_init 208 = .ok (.aload_n 0, 1) := by decide +kernel
theorem dX7_init_209 : decode cX7_init 209 = .ok (.iconst 4, 1) := by decide +kernel
theorem dX7_init_210 : decode cX7_init 210 = .ok (.newarray .int, 2) := by decide +kernel
theorem dX7_init_212 : decode cX7_init 212 = .ok (.putfield 88, 3) := by decide +kernel
theorem dX7_init_215 : decode cX7_init 215 = .ok (.aload_n 0, 1) := by decide +kernel
theorem dX7_init_216 : decode cX7_init 216 = .ok (.bipush 64, 2) := by decide +kernel
theorem dX7_init_218 : decode cX7_init 218 = .ok (.newarray .int, 2) := by decide +kernel
theorem dX7_init_220 : decode cX7_init 220 = .ok (.putfield 91, 3) := by decide +kernel
theorem dX7_init_223 : decode cX7_init 223 = .ok (.aload_n 0, 1) := by decide +kernel
theorem dX7_init_224 : decode cX7_init 224 = .ok (.bipush 16, 2) := by decide +kernel
theorem dX7_init_226 : decode cX7_init 226 = .ok (.newarray .int, 2) := by decide +kernel
theorem dX7_init_228 : decode cX7_init 228 = .ok (.putfield 94, 3) := by decide +kernel
theorem dX7_init_231 : decode cX7_init 231 = .ok (.iconst 0, 1) := by decide +kernel
theorem dX7_init_232 : decode cX7_init 232 = .ok (.istore_n 1, 1) := by decide +kernel
theorem dX7_init_233 : decode cX7_init 233 = .ok (.iload_n 1, 1) := by decide +kernel
theorem dX7_init_234 : decode cX7_init 234 = .ok (.iconst 4, 1) := by decide +kernel
theorem dX7_init_235 : decode cX7_init 235 = .ok (.if_icmp .ge 16, 3) := by decide +kernel
theorem dX7_init_238 : decode cX7_init 238 = .ok (.aload_n 0, 1) := by decide +kernel
theorem dX7_init_239 : decode cX7_init 239 = .ok (.getfield 85, 3) := by decide +kernel
theorem dX7_init_242 : decode cX7_init 242 = .ok (.iload_n 1, 1) := by decide +kernel
theorem dX7_init_243 : decode cX7_init 243 = .ok (.iconst (-1), 1) := by decide +kernel
theorem dX7_init_244 : decode cX7_init 244 = .ok (.iastore, 1) := by decide +kernel
theorem dX7_init_245 : decode cX7_init 245 = .ok (.iinc 1 1, 3) := by decide +kernel
theorem dX7_init_248 : decode cX7_init 248 = .ok (.goto (-15), 3) := by decide +kernel
theorem dX7_init_251 : decode cX7_init 251 = .ok (.aload_n 0, 1) := by decide +kernel
theorem dX7_init_252 : decode cX7_init 252 = .ok (.getfield 7, 3) := by decide +kernel
theorem dX7_init_255 : decode cX7_init 255 = .ok (.iconst 0, 1) := by decide +kernel
theorem dX7_init_256 : decode cX7_init 256 = .ok (.iconst 1, 1) := by decide +kernel
theorem dX7_init_257 : decode cX7_init 257 = .ok (.iastore, 1) := by decide +kernel
theorem dX7_init_258 : decode cX7_init 258 = .ok (.aload_n 0, 1) := by decide +kernel
theorem dX7_init_259 : decode cX7_init 259 = .ok (.getfield 7, 3) := by decide +kernel
theorem dX7_init_262 : decode cX7_init 262 = .ok (.iconst 1, 1) := by decide +kernel
theorem dX7_init_263 : decode cX7_init 263 = .ok (.iconst 4, 1) := by decide +kernel
theorem dX7_init_264 : decode cX7_init 264 = .ok (.iastore, 1) := by decide +kernel
theorem dX7_init_265 : decode cX7_init 265 = .ok (.aload_n 0, 1) := by decide +kernel
theorem dX7_init_266 : decode cX7_init 266 = .ok (.getfield 7, 3) := by decide +kernel
theorem dX7_init_269 : decode cX7_init 269 = .ok (.iconst 2, 1) := by decide +kernel
theorem dX7_init_270 : decode cX7_init 270 = .ok (.iconst 2, 1) := by decide +kernel
theorem dX7_init_271 : decode cX7_init 271 = .ok (.iastore, 1) := by decide +kernel
theorem dX7_init_272 : decode cX7_init 272 = .ok (.aload_n 0, 1) := by decide +kernel
theorem dX7_init_273 : decode cX7_init 273 = .ok (.getfield 7, 3) := by decide +kernel
theorem dX7_init_276 : decode cX7_init 276 = .ok (.iconst 3, 1) := by decide +kernel
theorem dX7_init_277 : decode cX7_init 277 = .ok (.bipush 12, 2) := by decide +kernel
theorem dX7_init_279 : decode cX7_init 279 = .ok (.iastore, 1) := by decide +kernel
theorem dX7_init_280 : decode cX7_init 280 = .ok (.aload_n 0, 1) := by decide +kernel
theorem dX7_init_281 : decode cX7_init 281 = .ok (.getfield 7, 3) := by decide +kernel
theorem dX7_init_284 : decode cX7_init 284 = .ok (.iconst 4, 1) := by decide +kernel
theorem dX7_init_285 : decode cX7_init 285 = .ok (.iconst 3, 1) := by decide +kernel
theorem dX7_init_286 : decode cX7_init 286 = .ok (.iastore, 1) := by decide +kernel
theorem dX7_init_287 : decode cX7_init 287 = .ok (.aload_n 0, 1) := by decide +kernel
theorem dX7_init_288 : decode cX7_init 288 = .ok (.getfield 7, 3) := by decide +kernel
theorem dX7_init_291 : decode cX7_init 291 = .ok (.iconst 5, 1) := by decide +kernel
theorem dX7_init_292 : decode cX7_init 292 = .ok (.iconst 2, 1) := by decide +kernel
theorem dX7_init_293 : decode cX7_init 293 = .ok (.iastore, 1) := by decide +kernel
theorem dX7_init_294 : decode cX7_init 294 = .ok (.aload_n 0, 1) := by decide +kernel
theorem dX7_init_295 : decode cX7_init 295 = .ok (.getfield 7, 3) := by decide +kernel
theorem dX7_init_298 : decode cX7_init 298 = .ok (.bipush 6, 2) := by decide +kernel
theorem dX7_init_300 : decode cX7_init 300 = .ok (.iconst 5, 1) := by decide +kernel
theorem dX7_init_301 : decode cX7_init 301 = .ok (.iastore, 1) := by decide +kernel
theorem dX7_init_302 : decode cX7_init 302 = .ok (.return_, 1) := by decide +kernel
theorem dX7_isStair_0 : decode cX7_isStair 0 = .ok (.iload_n 1, 1) := by decide +kernel
theorem dX7_isStair_1 : decode cX7_isStair 1 = .ok (.i2l, 1) := by decide +kernel
theorem dX7_isStair_2 : decode cX7_isStair 2 = .ok (.lconst 0, 1) := by decide +kernel
theorem dX7_isStair_3 : decode cX7_isStair 3 = .ok (.aload_n 0, 1) := by decide +kernel
theorem dX7_isStair_4 : decode cX7_isStair 4 = .ok (.getfield 97, 3) := by decide +kernel
theorem dX7_isStair_7 : decode cX7_isStair 7 = .ok (.iconst 1, 1) := by decide +kernel
theorem dX7_isStair_8 : decode cX7_isStair 8 = .ok (.isub, 1) := by decide +kernel
theorem dX7_isStair_9 : decode cX7_isStair 9 = .ok (.i2l, 1) := by decide +kernel
theorem dX7_isStair_10 : decode cX7_isStair 10 = .ok (.invokestatic 101, 3) := by decide +kernel
theorem dX7_isStair_13 : decode cX7_isStair 13 = .ok (.ireturn, 1) := by decide +kernel
theorem dX7_isOne_0 : decode cX7_isOne 0 = .ok (.iload_n 1, 1) := by decide +kernel
theorem dX7_isOne_1 : decode cX7_isOne 1 = .ok (.i2l, 1) := by decide +kernel
theorem dX7_isOne_2 : decode cX7_isOne 2 = .ok (.lconst 0, 1) := by decide +kernel
theorem dX7_isOne_3 : decode cX7_isOne 3 = .ok (.aload_n 0, 1) := by decide +kernel
theorem dX7_isOne_4 : decode cX7_isOne 4 = .ok (.getfield 105, 3) := by decide +kernel
theorem dX7_isOne_7 : decode cX7_isOne 7 = .ok (.iconst 1, 1) := by decide +kernel
theorem dX7_isOne_8 : decode cX7_isOne 8 = .ok (.isub, 1) := by decide +kernel
theorem dX7_isOne_9 : decode cX7_isOne 9 = .ok (.i2l, 1) := by decide +kernel
theorem dX7_isOne_10 : decode cX7_isOne 10 = .ok (.invokestatic 101, 3) := by decide +kernel
theorem dX7_isOne_13 : decode cX7_isOne 13 = .ok (.ireturn, 1) := by decide +kernel
theorem dX7_isOf_0 : decode cX7_isOf 0 = .ok (.iload_n 0, 1) := by decide +kernel
theorem dX7_isOf_1 : decode cX7_isOf 1 = .ok (.ifCond .ne 17, 3) := by decide +kernel
theorem dX7_isOf_4 : decode cX7_isOf 4 = .ok (.iload_n 1, 1) := by decide +kernel
theorem dX7_isOf_5 : decode cX7_isOf 5 = .ok (.i2l, 1) := by decide +kernel
theorem dX7_isOf_6 : decode cX7_isOf 6 = .ok (.ldc2_w 108, 3) := by decide +kernel
theorem dX7_isOf_9 : decode cX7_isOf 9 = .ok (.ldc2_w 110, 3) := by decide +kernel
theorem dX7_isOf_12 : decode cX7_isOf 12 = .ok (.invokestatic 101, 3) := by decide +kernel
theorem dX7_isOf_15 : decode cX7_isOf 15 = .ok (.goto 29, 3) := by decide +kernel
theorem dX7_isOf_18 : decode cX7_isOf 18 = .ok (.iload_n 0, 1) := by decide +kernel
theorem dX7_isOf_19 : decode cX7_isOf 19 = .ok (.iconst 1, 1) := by decide +kernel
theorem dX7_isOf_20 : decode cX7_isOf 20 = .ok (.if_icmp .ne 15, 3) := by decide +kernel
theorem dX7_isOf_23 : decode cX7_isOf 23 = .ok (.iload_n 1, 1) := by decide +kernel
theorem dX7_isOf_24 : decode cX7_isOf 24 = .ok (.i2l, 1) := by decide +kernel
theorem dX7_isOf_25 : decode cX7_isOf 25 = .ok (.lconst 0, 1) := by decide +kernel
theorem dX7_isOf_26 : decode cX7_isOf 26 = .ok (.ldc2_w 112, 3) := by decide +kernel
theorem dX7_isOf_29 : decode cX7_isOf 29 = .ok (.invokestatic 101, 3) := by decide +kernel
theorem dX7_isOf_32 : decode cX7_isOf 32 = .ok (.goto 12, 3) := by decide +kernel
theorem dX7_isOf_35 : decode cX7_isOf 35 = .ok (.iload_n 1, 1) := by decide +kernel
theorem dX7_isOf_36 : decode cX7_isOf 36 = .ok (.i2l, 1) := by decide +kernel
theorem dX7_isOf_37 : decode cX7_isOf 37 = .ok (.lconst 1, 1) := by decide +kernel
theorem dX7_isOf_38 : decode cX7_isOf 38 = .ok (.ldc2_w 112, 3) := by decide +kernel
theorem dX7_isOf_41 : decode cX7_isOf 41 = .ok (.invokestatic 101, 3) := by decide +kernel
theorem dX7_isOf_44 : decode cX7_isOf 44 = .ok (.ireturn, 1) := by decide +kernel
theorem dX7_stair_0 : decode cX7_stair 0 = .ok (.iconst 0, 1) := by decide +kernel
theorem dX7_stair_1 : decode cX7_stair 1 = .ok (.iload_n 1, 1) := by decide +kernel
theorem dX7_stair_2 : decode cX7_stair 2 = .ok (.invokestatic 114, 3) := by decide +kernel
theorem dX7_stair_5 : decode cX7_stair 5 = .ok (.ifCond .eq 11, 3) := by decide +kernel
theorem dX7_stair_8 : decode cX7_stair 8 = .ok (.iconst 2, 1) := by decide +kernel
theorem dX7_stair_9 : decode cX7_stair 9 = .ok (.iload_n 2, 1) := by decide +kernel
theorem dX7_stair_10 : decode cX7_stair 10 = .ok (.invokestatic 114, 3) := by decide +kernel
theorem dX7_stair_13 : decode cX7_stair 13 = .ok (.ifCond .ne 5, 3) := by decide +kernel
theorem dX7_stair_16 : decode cX7_stair 16 = .ok (.iconst (-1), 1) := by decide +kernel
theorem dX7_stair_17 : decode cX7_stair 17 = .ok (.ireturn, 1) := by decide +kernel
theorem dX7_stair_18 : decode cX7_stair 18 = .ok (.aload_n 0, 1) := by decide +kernel
theorem dX7_stair_19 : decode cX7_stair 19 = .ok (.getfield 97, 3) := by decide +kernel
theorem dX7_stair_22 : decode cX7_stair 22 = .ok (.iconst 3, 1) := by decide +kernel
theorem dX7_stair_23 : decode cX7_stair 23 = .ok (.if_icmp .ne 6, 3) := by decide +kernel
theorem dX7_stair_26 : decode cX7_stair 26 = .ok (.bipush (-3), 2) := by decide +kernel
theorem dX7_stair_28 : decode cX7_stair 28 = .ok (.ireturn, 1) := by decide +kernel
theorem dX7_stair_29 : decode cX7_stair 29 = .ok (.aload_n 0, 1) := by decide +kernel
theorem dX7_stair_30 : decode cX7_stair 30 = .ok (.getfield 13, 3) := by decide +kernel
theorem dX7_stair_33 : decode cX7_stair 33 = .ok (.iconst 3, 1) := by decide +kernel
theorem dX7_stair_34 : decode cX7_stair 34 = .ok (.aload_n 0, 1) := by decide +kernel
theorem dX7_stair_35 : decode cX7_stair 35 = .ok (.getfield 97, 3) := by decide +kernel
theorem dX7_stair_38 : decode cX7_stair 38 = .ok (.imul, 1) := by decide +kernel
theorem dX7_stair_39 : decode cX7_stair 39 = .ok (.iload_n 1, 1) := by decide +kernel
theorem dX7_stair_40 : decode cX7_stair 40 = .ok (.iastore, 1) := by decide +kernel
theorem dX7_stair_41 : decode cX7_stair 41 = .ok (.aload_n 0, 1) := by decide +kernel
theorem dX7_stair_42 : decode cX7_stair 42 = .ok (.getfield 13, 3) := by decide +kernel
theorem dX7_stair_45 : decode cX7_stair 45 = .ok (.iconst 3, 1) := by decide +kernel
theorem dX7_stair_46 : decode cX7_stair 46 = .ok (.aload_n 0, 1) := by decide +kernel
theorem dX7_stair_47 : decode cX7_stair 47 = .ok (.getfield 97, 3) := by decide +kernel
theorem dX7_stair_50 : decode cX7_stair 50 = .ok (.imul, 1) := by decide +kernel
theorem dX7_stair_51 : decode cX7_stair 51 = .ok (.iconst 1, 1) := by decide +kernel
theorem dX7_stair_52 : decode cX7_stair 52 = .ok (.iadd, 1) := by decide +kernel
theorem dX7_stair_53 : decode cX7_stair 53 = .ok (.iconst 0, 1) := by decide +kernel
theorem dX7_stair_54 : decode cX7_stair 54 = .ok (.iastore, 1) := by decide +kernel
theorem dX7_stair_55 : decode cX7_stair 55 = .ok (.aload_n 0, 1) := by decide +kernel
theorem dX7_stair_56 : decode cX7_stair 56 = .ok (.getfield 13, 3) := by decide +kernel
theorem dX7_stair_59 : decode cX7_stair 59 = .ok (.iconst 3, 1) := by decide +kernel
theorem dX7_stair_60 : decode cX7_stair 60 = .ok (.aload_n 0, 1) := by decide +kernel
theorem dX7_stair_61 : decode cX7_stair 61 = .ok (.getfield 97, 3) := by decide +kernel
theorem dX7_stair_64 : decode cX7_stair 64 = .ok (.imul, 1) := by decide +kernel
theorem dX7_stair_65 : decode cX7_stair 65 = .ok (.iconst 2, 1) := by decide +kernel
theorem dX7_stair_66 : decode cX7_stair 66 = .ok (.iadd, 1) := by decide +kernel
theorem dX7_stair_67 : decode cX7_stair 67 = .ok (.iload_n 2, 1) := by decide +kernel
theorem dX7_stair_68 : decode cX7_stair 68 = .ok (.iastore, 1) := by decide +kernel
theorem dX7_stair_69 : decode cX7_stair 69 = .ok (.aload_n 0, 1) := by decide +kernel
theorem dX7_stair_70 : decode cX7_stair 70 = .ok (.dup, 1) := by decide +kernel
theorem dX7_stair_71 : decode cX7_stair 71 = .ok (.getfield 97, 3) := by decide +kernel
theorem dX7_stair_74 : decode cX7_stair 74 = .ok (.iconst 1, 1) := by decide +kernel
theorem dX7_stair_75 : decode cX7_stair 75 = .ok (.iadd, 1) := by decide +kernel
theorem dX7_stair_76 : decode cX7_stair 76 = .ok (.putfield 97, 3) := by decide +kernel
theorem dX7_stair_79 : decode cX7_stair 79 = .ok (.aload_n 0, 1) := by decide +kernel
theorem dX7_stair_80 : decode cX7_stair 80 = .ok (.getfield 97, 3) := by decide +kernel
theorem dX7_stair_83 : decode cX7_stair 83 = .ok (.iconst 1, 1) := by decide +kernel
theorem dX7_stair_84 : decode cX7_stair 84 = .ok (.isub, 1) := by decide +kernel
theorem dX7_stair_85 : decode cX7_stair 85 = .ok (.ireturn, 1) := by decide +kernel
theorem dX7_of_0 : decode cX7_of 0 = .ok (.aload_n 0, 1) := by decide +kernel
theorem dX7_of_1 : decode cX7_of 1 = .ok (.iload_n 1, 1) := by decide +kernel
theorem dX7_of_2 : decode cX7_of 2 = .ok (.invokevirtual 118, 3) := by decide +kernel
theorem dX7_of_5 : decode cX7_of 5 = .ok (.ifCond .eq 23, 3) := by decide +kernel
theorem dX7_of_8 : decode cX7_of 8 = .ok (.iload_n 2, 1) := by decide +kernel
theorem dX7_of_9 : decode cX7_of 9 = .ok (.i2l, 1) := by decide +kernel
theorem dX7_of_10 : decode cX7_of 10 = .ok (.lconst 0, 1) := by decide +kernel
theorem dX7_of_11 : decode cX7_of 11 = .ok (.ldc2_w 112, 3) := by decide +kernel
theorem dX7_of_14 : decode cX7_of 14 = .ok (.invokestatic 101, 3) := by decide +kernel
theorem dX7_of_17 : decode cX7_of 17 = .ok (.ifCond .eq 11, 3) := by decide +kernel
theorem dX7_of_20 : decode cX7_of 20 = .ok (.iload_n 2, 1) := by decide +kernel
theorem dX7_of_21 : decode cX7_of 21 = .ok (.iload_n 3, 1) := by decide +kernel
theorem dX7_of_22 : decode cX7_of 22 = .ok (.invokestatic 114, 3) := by decide +kernel
theorem dX7_of_25 : decode cX7_of 25 = .ok (.ifCond .ne 5, 3) := by decide +kernel
theorem dX7_of_28 : decode cX7_of 28 = .ok (.iconst (-1), 1) := by decide +kernel
theorem dX7_of_29 : decode cX7_of 29 = .ok (.ireturn, 1) := by decide +kernel
theorem dX7_of_30 : decode cX7_of 30 = .ok (.aload_n 0, 1) := by decide +kernel
theorem dX7_of_31 : decode cX7_of 31 = .ok (.getfield 13, 3) := by decide +kernel
theorem dX7_of_34 : decode cX7_of 34 = .ok (.iconst 3, 1) := by decide +kernel
theorem dX7_of_35 : decode cX7_of 35 = .ok (.iload_n 1, 1) := by decide +kernel
theorem dX7_of_36 : decode cX7_of 36 = .ok (.imul, 1) := by decide +kernel
theorem dX7_of_37 : decode cX7_of 37 = .ok (.iload_n 2, 1) := by decide +kernel
theorem dX7_of_38 : decode cX7_of 38 = .ok (.iadd, 1) := by decide +kernel
theorem dX7_of_39 : decode cX7_of 39 = .ok (.iaload, 1) := by decide +kernel
theorem dX7_of_40 : decode cX7_of 40 = .ok (.istore 4, 2) := by decide +kernel
theorem dX7_of_42 : decode cX7_of 42 = .ok (.aload_n 0, 1) := by decide +kernel
theorem dX7_of_43 : decode cX7_of 43 = .ok (.getfield 13, 3) := by decide +kernel
theorem dX7_of_46 : decode cX7_of 46 = .ok (.iconst 3, 1) := by decide +kernel
theorem dX7_of_47 : decode cX7_of 47 = .ok (.iload_n 1, 1) := by decide +kernel
theorem dX7_of_48 : decode cX7_of 48 = .ok (.imul, 1) := by decide +kernel
theorem dX7_of_49 : decode cX7_of 49 = .ok (.iload_n 2, 1) := by decide +kernel
theorem dX7_of_50 : decode cX7_of 50 = .ok (.iadd, 1) := by decide +kernel
theorem dX7_of_51 : decode cX7_of 51 = .ok (.iload_n 3, 1) := by decide +kernel
theorem dX7_of_52 : decode cX7_of 52 = .ok (.iastore, 1) := by decide +kernel
theorem dX7_of_53 : decode cX7_of 53 = .ok (.iload 4, 2) := by decide +kernel
theorem dX7_of_55 : decode cX7_of 55 = .ok (.ireturn, 1) := by decide +kernel
theorem dX7_isSet_0 : decode cX7_isSet 0 = .ok (.iload_n 0, 1) := by decide +kernel
theorem dX7_isSet_1 : decode cX7_isSet 1 = .ok (.tableswitch 89 0 5 #[39, 47, 57, 67, 47, 79], 39) := by decide +kernel
theorem dX7_isSet_40 : decode cX7_isSet 40 = .ok (.iload_n 1, 1) := by decide +kernel
theorem dX7_isSet_41 : decode cX7_isSet 41 = .ok (.i2l, 1) := by decide +kernel
theorem dX7_isSet_42 : decode cX7_isSet 42 = .ok (.lconst 0, 1) := by decide +kernel
theorem dX7_isSet_43 : decode cX7_isSet 43 = .ok (.lconst 1, 1) := by decide +kernel
theorem dX7_isSet_44 : decode cX7_isSet 44 = .ok (.invokestatic 101, 3) := by decide +kernel
theorem dX7_isSet_47 : decode cX7_isSet 47 = .ok (.ireturn, 1) := by decide +kernel
theorem dX7_isSet_48 : decode cX7_isSet 48 = .ok (.iload_n 1, 1) := by decide +kernel
theorem dX7_isSet_49 : decode cX7_isSet 49 = .ok (.i2l, 1) := by decide +kernel
theorem dX7_isSet_50 : decode cX7_isSet 50 = .ok (.lconst 1, 1) := by decide +kernel
theorem dX7_isSet_51 : decode cX7_isSet 51 = .ok (.ldc2_w 122, 3) := by decide +kernel
theorem dX7_isSet_54 : decode cX7_isSet 54 = .ok (.invokestatic 101, 3) := by decide +kernel
theorem dX7_isSet_57 : decode cX7_isSet 57 = .ok (.ireturn, 1) := by decide +kernel
theorem dX7_isSet_58 : decode cX7_isSet 58 = .ok (.iload_n 1, 1) := by decide +kernel
theorem dX7_isSet_59 : decode cX7_isSet 59 = .ok (.i2l, 1) := by decide +kernel
theorem dX7_isSet_60 : decode cX7_isSet 60 = .ok (.lconst 1, 1) := by decide +kernel
theorem dX7_isSet_61 : decode cX7_isSet 61 = .ok (.ldc2_w 108, 3) := by decide +kernel
theorem dX7_isSet_64 : decode cX7_isSet 64 = .ok (.invokestatic 101, 3) := by decide +kernel
theorem dX7_isSet_67 : decode cX7_isSet 67 = .ok (.ireturn, 1) := by decide +kernel
theorem dX7_isSet_68 : decode cX7_isSet 68 = .ok (.iload_n 1, 1) := by decide +kernel
theorem dX7_isSet_69 : decode cX7_isSet 69 = .ok (.i2l, 1) := by decide +kernel
theorem dX7_isSet_70 : decode cX7_isSet 70 = .ok (.ldc2_w 112, 3) := by decide +kernel
theorem dX7_isSet_73 : decode cX7_isSet 73 = .ok (.ldc2_w 124, 3) := by decide +kernel
theorem dX7_isSet_76 : decode cX7_isSet 76 = .ok (.invokestatic 101, 3) := by decide +kernel
theorem dX7_isSet_79 : decode cX7_isSet 79 = .ok (.ireturn, 1) := by decide +kernel
theorem dX7_isSet_80 : decode cX7_isSet 80 = .ok (.iload_n 1, 1) := by decide +kernel
theorem dX7_isSet_81 : decode cX7_isSet 81 = .ok (.i2l, 1) := by decide +kernel
theorem dX7_isSet_82 : decode cX7_isSet 82 = .ok (.lconst 0, 1) := by decide +kernel
theorem dX7_isSet_83 : decode cX7_isSet 83 = .ok (.ldc2_w 122, 3) := by decide +kernel
theorem dX7_isSet_86 : decode cX7_isSet 86 = .ok (.invokestatic 101, 3) := by decide +kernel
theorem dX7_isSet_89 : decode cX7_isSet 89 = .ok (.ireturn, 1) := by decide +kernel
theorem dX7_isSet_90 : decode cX7_isSet 90 = .ok (.iload_n 0, 1) := by decide +kernel
theorem dX7_isSet_91 : decode cX7_isSet 91 = .ok (.bipush 6, 2) := by decide +kernel
theorem dX7_isSet_93 : decode cX7_isSet 93 = .ok (.if_icmp .ne 19, 3) := by decide +kernel
theorem dX7_isSet_96 : decode cX7_isSet 96 = .ok (.iload_n 1, 1) := by decide +kernel
theorem dX7_isSet_97 : decode cX7_isSet 97 = .ok (.i2l, 1) := by decide +kernel
theorem dX7_isSet_98 : decode cX7_isSet 98 = .ok (.lconst 0, 1) := by decide +kernel
theorem dX7_isSet_99 : decode cX7_isSet 99 = .ok (.ldc2_w 110, 3) := by decide +kernel
theorem dX7_isSet_102 : decode cX7_isSet 102 = .ok (.invokestatic 101, 3) := by decide +kernel
theorem dX7_isSet_105 : decode cX7_isSet 105 = .ok (.ifCond .eq 7, 3) := by decide +kernel
theorem dX7_isSet_108 : decode cX7_isSet 108 = .ok (.iconst 1, 1) := by decide +kernel
theorem dX7_isSet_109 : decode cX7_isSet 109 = .ok (.goto 4, 3) := by decide +kernel
theorem dX7_isSet_112 : decode cX7_isSet 112 = .ok (.iconst 0, 1) := by decide +kernel
theorem dX7_isSet_113 : decode cX7_isSet 113 = .ok (.ireturn, 1) := by decide +kernel
theorem dX7_set_0 : decode cX7_set 0 = .ok (.iload_n 1, 1) := by decide +kernel
theorem dX7_set_1 : decode cX7_set 1 = .ok (.iload_n 2, 1) := by decide +kernel
theorem dX7_set_2 : decode cX7_set 2 = .ok (.invokestatic 126, 3) := by decide +kernel
theorem dX7_set_5 : decode cX7_set 5 = .ok (.ifCond .ne 5, 3) := by decide +kernel
theorem dX7_set_8 : decode cX7_set 8 = .ok (.iconst (-1), 1) := by decide +kernel
theorem dX7_set_9 : decode cX7_set 9 = .ok (.ireturn, 1) := by decide +kernel
theorem dX7_set_10 : decode cX7_set 10 = .ok (.aload_n 0, 1) := by decide +kernel
theorem dX7_set_11 : decode cX7_set 11 = .ok (.getfield 7, 3) := by decide +kernel
theorem dX7_set_14 : decode cX7_set 14 = .ok (.iload_n 1, 1) := by decide +kernel
theorem dX7_set_15 : decode cX7_set 15 = .ok (.iaload, 1) := by decide +kernel
theorem dX7_set_16 : decode cX7_set 16 = .ok (.istore_n 3, 1) := by decide +kernel
theorem dX7_set_17 : decode cX7_set 17 = .ok (.aload_n 0, 1) := by decide +kernel
theorem dX7_set_18 : decode cX7_set 18 = .ok (.getfield 7, 3) := by decide +kernel
theorem dX7_set_21 : decode cX7_set 21 = .ok (.iload_n 1, 1) := by decide +kernel
theorem dX7_set_22 : decode cX7_set 22 = .ok (.iload_n 2, 1) := by decide +kernel
theorem dX7_set_23 : decode cX7_set 23 = .ok (.iastore, 1) := by decide +kernel
theorem dX7_set_24 : decode cX7_set 24 = .ok (.iload_n 3, 1) := by decide +kernel
theorem dX7_set_25 : decode cX7_set 25 = .ok (.ireturn, 1) := by decide +kernel
theorem dX7_change_0 : decode cX7_change 0 = .ok (.iload_n 1, 1) := by decide +kernel
theorem dX7_change_1 : decode cX7_change 1 = .ok (.i2l, 1) := by decide +kernel
theorem dX7_change_2 : decode cX7_change 2 = .ok (.lconst 0, 1) := by decide +kernel
theorem dX7_change_3 : decode cX7_change 3 = .ok (.ldc2_w 129, 3) := by decide +kernel
theorem dX7_change_6 : decode cX7_change 6 = .ok (.invokestatic 101, 3) := by decide +kernel
theorem dX7_change_9 : decode cX7_change 9 = .ok (.ifCond .eq 15, 3) := by decide +kernel
theorem dX7_change_12 : decode cX7_change 12 = .ok (.iload_n 2, 1) := by decide +kernel
theorem dX7_change_13 : decode cX7_change 13 = .ok (.i2l, 1) := by decide +kernel
theorem dX7_change_14 : decode cX7_change 14 = .ok (.lconst 0, 1) := by decide +kernel
theorem dX7_change_15 : decode cX7_change 15 = .ok (.ldc2_w 131, 3) := by decide +kernel
theorem dX7_change_18 : decode cX7_change 18 = .ok (.invokestatic 101, 3) := by decide +kernel
theorem dX7_change_21 : decode cX7_change 21 = .ok (.ifCond .ne 5, 3) := by decide +kernel
theorem dX7_change_24 : decode cX7_change 24 = .ok (.iconst (-1), 1) := by decide +kernel
theorem dX7_change_25 : decode cX7_change 25 = .ok (.ireturn, 1) := by decide +kernel
theorem dX7_change_26 : decode cX7_change 26 = .ok (.aload_n 0, 1) := by decide +kernel
theorem dX7_change_27 : decode cX7_change 27 = .ok (.getfield 133, 3) := by decide +kernel
theorem dX7_change_30 : decode cX7_change 30 = .ok (.istore_n 3, 1) := by decide +kernel
theorem dX7_change_31 : decode cX7_change 31 = .ok (.aload_n 0, 1) := by decide +kernel
theorem dX7_change_32 : decode cX7_change 32 = .ok (.iload_n 1, 1) := by decide +kernel
theorem dX7_change_33 : decode cX7_change 33 = .ok (.putfield 133, 3) := by decide +kernel
theorem dX7_change_36 : decode cX7_change 36 = .ok (.aload_n 0, 1) := by decide +kernel
theorem dX7_change_37 : decode cX7_change 37 = .ok (.iload_n 2, 1) := by decide +kernel
theorem dX7_change_38 : decode cX7_change 38 = .ok (.putfield 136, 3) := by decide +kernel
theorem dX7_change_41 : decode cX7_change 41 = .ok (.iload_n 3, 1) := by decide +kernel
theorem dX7_change_42 : decode cX7_change 42 = .ok (.ireturn, 1) := by decide +kernel
theorem dX7_comes_0 : decode cX7_comes 0 = .ok (.aload_n 0, 1) := by decide +kernel
theorem dX7_comes_1 : decode cX7_comes 1 = .ok (.getfield 16, 3) := by decide +kernel
theorem dX7_comes_4 : decode cX7_comes 4 = .ok (.iconst 3, 1) := by decide +kernel
theorem dX7_comes_5 : decode cX7_comes 5 = .ok (.aload_n 0, 1) := by decide +kernel
theorem dX7_comes_6 : decode cX7_comes 6 = .ok (.getfield 105, 3) := by decide +kernel
theorem dX7_comes_9 : decode cX7_comes 9 = .ok (.imul, 1) := by decide +kernel
theorem dX7_comes_10 : decode cX7_comes 10 = .ok (.iload_n 1, 1) := by decide +kernel
theorem dX7_comes_11 : decode cX7_comes 11 = .ok (.iastore, 1) := by decide +kernel
theorem dX7_comes_12 : decode cX7_comes 12 = .ok (.aload_n 0, 1) := by decide +kernel
theorem dX7_comes_13 : decode cX7_comes 13 = .ok (.getfield 16, 3) := by decide +kernel
theorem dX7_comes_16 : decode cX7_comes 16 = .ok (.iconst 3, 1) := by decide +kernel
theorem dX7_comes_17 : decode cX7_comes 17 = .ok (.aload_n 0, 1) := by decide +kernel
theorem dX7_comes_18 : decode cX7_comes 18 = .ok (.getfield 105, 3) := by decide +kernel
theorem dX7_comes_21 : decode cX7_comes 21 = .ok (.imul, 1) := by decide +kernel
theorem dX7_comes_22 : decode cX7_comes 22 = .ok (.iconst 1, 1) := by decide +kernel
theorem dX7_comes_23 : decode cX7_comes 23 = .ok (.iadd, 1) := by decide +kernel
theorem dX7_comes_24 : decode cX7_comes 24 = .ok (.iload_n 2, 1) := by decide +kernel
theorem dX7_comes_25 : decode cX7_comes 25 = .ok (.iastore, 1) := by decide +kernel
theorem dX7_comes_26 : decode cX7_comes 26 = .ok (.aload_n 0, 1) := by decide +kernel
theorem dX7_comes_27 : decode cX7_comes 27 = .ok (.getfield 16, 3) := by decide +kernel
theorem dX7_comes_30 : decode cX7_comes 30 = .ok (.iconst 3, 1) := by decide +kernel
theorem dX7_comes_31 : decode cX7_comes 31 = .ok (.aload_n 0, 1) := by decide +kernel
theorem dX7_comes_32 : decode cX7_comes 32 = .ok (.getfield 105, 3) := by decide +kernel
theorem dX7_comes_35 : decode cX7_comes 35 = .ok (.imul, 1) := by decide +kernel
theorem dX7_comes_36 : decode cX7_comes 36 = .ok (.iconst 2, 1) := by decide +kernel
theorem dX7_comes_37 : decode cX7_comes 37 = .ok (.iadd, 1) := by decide +kernel
theorem dX7_comes_38 : decode cX7_comes 38 = .ok (.iload_n 3, 1) := by decide +kernel
theorem dX7_comes_39 : decode cX7_comes 39 = .ok (.iastore, 1) := by decide +kernel
theorem dX7_comes_40 : decode cX7_comes 40 = .ok (.aload_n 0, 1) := by decide +kernel
theorem dX7_comes_41 : decode cX7_comes 41 = .ok (.dup, 1) := by decide +kernel
theorem dX7_comes_42 : decode cX7_comes 42 = .ok (.getfield 105, 3) := by decide +kernel
theorem dX7_comes_45 : decode cX7_comes 45 = .ok (.iconst 1, 1) := by decide +kernel
theorem dX7_comes_46 : decode cX7_comes 46 = .ok (.iadd, 1) := by decide +kernel
theorem dX7_comes_47 : decode cX7_comes 47 = .ok (.putfield 105, 3) := by decide +kernel
theorem dX7_comes_50 : decode cX7_comes 50 = .ok (.aload_n 0, 1) := by decide +kernel
theorem dX7_comes_51 : decode cX7_comes 51 = .ok (.getfield 105, 3) := by decide +kernel
theorem dX7_comes_54 : decode cX7_comes 54 = .ok (.iconst 1, 1) := by decide +kernel
theorem dX7_comes_55 : decode cX7_comes 55 = .ok (.isub, 1) := by decide +kernel
theorem dX7_comes_56 : decode cX7_comes 56 = .ok (.ireturn, 1) := by decide +kernel
theorem dX7_person_0 : decode cX7_person 0 = .ok (.iload_n 1, 1) := by decide +kernel
theorem dX7_person_1 : decode cX7_person 1 = .ok (.i2l, 1) := by decide +kernel
theorem dX7_person_2 : decode cX7_person 2 = .ok (.lconst 0, 1) := by decide +kernel
theorem dX7_person_3 : decode cX7_person 3 = .ok (.ldc2_w 129, 3) := by decide +kernel
theorem dX7_person_6 : decode cX7_person 6 = .ok (.invokestatic 101, 3) := by decide +kernel
theorem dX7_person_9 : decode cX7_person 9 = .ok (.ifCond .eq 25, 3) := by decide +kernel
theorem dX7_person_12 : decode cX7_person 12 = .ok (.iload_n 2, 1) := by decide +kernel
theorem dX7_person_13 : decode cX7_person 13 = .ok (.i2l, 1) := by decide +kernel
theorem dX7_person_14 : decode cX7_person 14 = .ok (.lconst 0, 1) := by decide +kernel
theorem dX7_person_15 : decode cX7_person 15 = .ok (.lconst 1, 1) := by decide +kernel
theorem dX7_person_16 : decode cX7_person 16 = .ok (.invokestatic 101, 3) := by decide +kernel
theorem dX7_person_19 : decode cX7_person 19 = .ok (.ifCond .eq 15, 3) := by decide +kernel
theorem dX7_person_22 : decode cX7_person 22 = .ok (.iload_n 3, 1) := by decide +kernel
theorem dX7_person_23 : decode cX7_person 23 = .ok (.i2l, 1) := by decide +kernel
theorem dX7_person_24 : decode cX7_person 24 = .ok (.lconst 0, 1) := by decide +kernel
theorem dX7_person_25 : decode cX7_person 25 = .ok (.ldc2_w 139, 3) := by decide +kernel
theorem dX7_person_28 : decode cX7_person 28 = .ok (.invokestatic 101, 3) := by decide +kernel
theorem dX7_person_31 : decode cX7_person 31 = .ok (.ifCond .ne 5, 3) := by decide +kernel
theorem dX7_person_34 : decode cX7_person 34 = .ok (.iconst (-1), 1) := by decide +kernel
theorem dX7_person_35 : decode cX7_person 35 = .ok (.ireturn, 1) := by decide +kernel
theorem dX7_person_36 : decode cX7_person 36 = .ok (.aload_n 0, 1) := by decide +kernel
theorem dX7_person_37 : decode cX7_person 37 = .ok (.getfield 105, 3) := by decide +kernel
theorem dX7_person_40 : decode cX7_person 40 = .ok (.bipush 14, 2) := by decide +kernel
theorem dX7_person_42 : decode cX7_person 42 = .ok (.if_icmp .ne 8, 3) := by decide +kernel
theorem dX7_person_45 : decode cX7_person 45 = .ok (.bipush (-3), 2) := by decide +kernel
theorem dX7_person_47 : decode cX7_person 47 = .ok (.goto 10, 3) := by decide +kernel
theorem dX7_person_50 : decode cX7_person 50 = .ok (.aload_n 0, 1) := by decide +kernel
theorem dX7_person_51 : decode cX7_person 51 = .ok (.iload_n 1, 1) := by decide +kernel
theorem dX7_person_52 : decode cX7_person 52 = .ok (.iload_n 2, 1) := by decide +kernel
theorem dX7_person_53 : decode cX7_person 53 = .ok (.iload_n 3, 1) := by decide +kernel
theorem dX7_person_54 : decode cX7_person 54 = .ok (.invokevirtual 141, 3) := by decide +kernel
theorem dX7_person_57 : decode cX7_person 57 = .ok (.ireturn, 1) := by decide +kernel
theorem dX7_weightOf_0 : decode cX7_weightOf 0 = .ok (.iload_n 0, 1) := by decide +kernel
theorem dX7_weightOf_1 : decode cX7_weightOf 1 = .ok (.iconst 2, 1) := by decide +kernel
theorem dX7_weightOf_2 : decode cX7_weightOf 2 = .ok (.if_icmp .ne 7, 3) := by decide +kernel
theorem dX7_weightOf_5 : decode cX7_weightOf 5 = .ok (.iconst 4, 1) := by decide +kernel
theorem dX7_weightOf_6 : decode cX7_weightOf 6 = .ok (.goto 13, 3) := by decide +kernel
theorem dX7_weightOf_9 : decode cX7_weightOf 9 = .ok (.iload_n 0, 1) := by decide +kernel
theorem dX7_weightOf_10 : decode cX7_weightOf 10 = .ok (.iconst 3, 1) := by decide +kernel
theorem dX7_weightOf_11 : decode cX7_weightOf 11 = .ok (.if_icmp .ne 7, 3) := by decide +kernel
theorem dX7_weightOf_14 : decode cX7_weightOf 14 = .ok (.iconst 1, 1) := by decide +kernel
theorem dX7_weightOf_15 : decode cX7_weightOf 15 = .ok (.goto 4, 3) := by decide +kernel
theorem dX7_weightOf_18 : decode cX7_weightOf 18 = .ok (.iconst 2, 1) := by decide +kernel
theorem dX7_weightOf_19 : decode cX7_weightOf 19 = .ok (.ireturn, 1) := by decide +kernel
theorem dX7_told_0 : decode cX7_told 0 = .ok (.aload_n 0, 1) := by decide +kernel
theorem dX7_told_1 : decode cX7_told 1 = .ok (.iload_n 1, 1) := by decide +kernel
theorem dX7_told_2 : decode cX7_told 2 = .ok (.invokevirtual 145, 3) := by decide +kernel
theorem dX7_told_5 : decode cX7_told 5 = .ok (.ifCond .eq 15, 3) := by decide +kernel
theorem dX7_told_8 : decode cX7_told 8 = .ok (.iload_n 2, 1) := by decide +kernel
theorem dX7_told_9 : decode cX7_told 9 = .ok (.i2l, 1) := by decide +kernel
theorem dX7_told_10 : decode cX7_told 10 = .ok (.lconst 0, 1) := by decide +kernel
theorem dX7_told_11 : decode cX7_told 11 = .ok (.ldc2_w 108, 3) := by decide +kernel
theorem dX7_told_14 : decode cX7_told 14 = .ok (.invokestatic 101, 3) := by decide +kernel
theorem dX7_told_17 : decode cX7_told 17 = .ok (.ifCond .ne 5, 3) := by decide +kernel
theorem dX7_told_20 : decode cX7_told 20 = .ok (.iconst (-1), 1) := by decide +kernel
theorem dX7_told_21 : decode cX7_told 21 = .ok (.ireturn, 1) := by decide +kernel
theorem dX7_told_22 : decode cX7_told 22 = .ok (.iload_n 2, 1) := by decide +kernel
theorem dX7_told_23 : decode cX7_told 23 = .ok (.iconst 3, 1) := by decide +kernel
theorem dX7_told_24 : decode cX7_told 24 = .ok (.if_icmp .ge 16, 3) := by decide +kernel
theorem dX7_told_27 : decode cX7_told 27 = .ok (.aload_n 0, 1) := by decide +kernel
theorem dX7_told_28 : decode cX7_told 28 = .ok (.getfield 16, 3) := by decide +kernel
theorem dX7_told_31 : decode cX7_told 31 = .ok (.iconst 3, 1) := by decide +kernel
theorem dX7_told_32 : decode cX7_told 32 = .ok (.iload_n 1, 1) := by decide +kernel
theorem dX7_told_33 : decode cX7_told 33 = .ok (.imul, 1) := by decide +kernel
theorem dX7_told_34 : decode cX7_told 34 = .ok (.iload_n 2, 1) := by decide +kernel
theorem dX7_told_35 : decode cX7_told 35 = .ok (.iadd, 1) := by decide +kernel
theorem dX7_told_36 : decode cX7_told 36 = .ok (.iaload, 1) := by decide +kernel
theorem dX7_told_37 : decode cX7_told 37 = .ok (.goto 16, 3) := by decide +kernel
theorem dX7_told_40 : decode cX7_told 40 = .ok (.aload_n 0, 1) := by decide +kernel
theorem dX7_told_41 : decode cX7_told 41 = .ok (.getfield 16, 3) := by decide +kernel
theorem dX7_told_44 : decode cX7_told 44 = .ok (.iconst 3, 1) := by decide +kernel
theorem dX7_told_45 : decode cX7_told 45 = .ok (.iload_n 1, 1) := by decide +kernel
theorem dX7_told_46 : decode cX7_told 46 = .ok (.imul, 1) := by decide +kernel
theorem dX7_told_47 : decode cX7_told 47 = .ok (.iconst 2, 1) := by decide +kernel
theorem dX7_told_48 : decode cX7_told 48 = .ok (.iadd, 1) := by decide +kernel
theorem dX7_told_49 : decode cX7_told 49 = .ok (.iaload, 1) := by decide +kernel
theorem dX7_told_50 : decode cX7_told 50 = .ok (.invokestatic 148, 3) := by decide +kernel
theorem dX7_told_53 : decode cX7_told 53 = .ok (.ireturn, 1) := by decide +kernel
theorem dX7_strike_0 : decode cX7_strike 0 = .ok (.aload_n 0, 1) := by decide +kernel
theorem dX7_strike_1 : decode cX7_strike 1 = .ok (.iload_n 1, 1) := by decide +kernel
theorem dX7_strike_2 : decode cX7_strike 2 = .ok (.invokevirtual 145, 3) := by decide +kernel
theorem dX7_strike_5 : decode cX7_strike 5 = .ok (.ifCond .ne 5, 3) := by decide +kernel
theorem dX7_strike_8 : decode cX7_strike 8 = .ok (.iconst (-1), 1) := by decide +kernel
theorem dX7_strike_9 : decode cX7_strike 9 = .ok (.ireturn, 1) := by decide +kernel
theorem dX7_strike_10 : decode cX7_strike 10 = .ok (.aload_n 0, 1) := by decide +kernel
theorem dX7_strike_11 : decode cX7_strike 11 = .ok (.dup, 1) := by decide +kernel
theorem dX7_strike_12 : decode cX7_strike 12 = .ok (.getfield 105, 3) := by decide +kernel
theorem dX7_strike_15 : decode cX7_strike 15 = .ok (.iconst 1, 1) := by decide +kernel
theorem dX7_strike_16 : decode cX7_strike 16 = .ok (.isub, 1) := by decide +kernel
theorem dX7_strike_17 : decode cX7_strike 17 = .ok (.putfield 105, 3) := by decide +kernel
theorem dX7_strike_20 : decode cX7_strike 20 = .ok (.iconst 3, 1) := by decide +kernel
theorem dX7_strike_21 : decode cX7_strike 21 = .ok (.iload_n 1, 1) := by decide +kernel
theorem dX7_strike_22 : decode cX7_strike 22 = .ok (.imul, 1) := by decide +kernel
theorem dX7_strike_23 : decode cX7_strike 23 = .ok (.istore_n 2, 1) := by decide +kernel
theorem dX7_strike_24 : decode cX7_strike 24 = .ok (.iload_n 2, 1) := by decide +kernel
theorem dX7_strike_25 : decode cX7_strike 25 = .ok (.iconst 3, 1) := by decide +kernel
theorem dX7_strike_26 : decode cX7_strike 26 = .ok (.aload_n 0, 1) := by decide +kernel
theorem dX7_strike_27 : decode cX7_strike 27 = .ok (.getfield 105, 3) := by decide +kernel
theorem dX7_strike_30 : decode cX7_strike 30 = .ok (.imul, 1) := by decide +kernel
theorem dX7_strike_31 : decode cX7_strike 31 = .ok (.if_icmp .ge 23, 3) := by decide +kernel
theorem dX7_strike_34 : decode cX7_strike 34 = .ok (.aload_n 0, 1) := by decide +kernel
theorem dX7_strike_35 : decode cX7_strike 35 = .ok (.getfield 16, 3) := by decide +kernel
theorem dX7_strike_38 : decode cX7_strike 38 = .ok (.iload_n 2, 1) := by decide +kernel
theorem dX7_strike_39 : decode cX7_strike 39 = .ok (.aload_n 0, 1) := by decide +kernel
theorem dX7_strike_40 : decode cX7_strike 40 = .ok (.getfield 16, 3) := by decide +kernel
theorem dX7_strike_43 : decode cX7_strike 43 = .ok (.iload_n 2, 1) := by decide +kernel
theorem dX7_strike_44 : decode cX7_strike 44 = .ok (.iconst 3, 1) := by decide +kernel
theorem dX7_strike_45 : decode cX7_strike 45 = .ok (.iadd, 1) := by decide +kernel
theorem dX7_strike_46 : decode cX7_strike 46 = .ok (.iaload, 1) := by decide +kernel
theorem dX7_strike_47 : decode cX7_strike 47 = .ok (.iastore, 1) := by decide +kernel
theorem dX7_strike_48 : decode cX7_strike 48 = .ok (.iinc 2 1, 3) := by decide +kernel
theorem dX7_strike_51 : decode cX7_strike 51 = .ok (.goto (-27), 3) := by decide +kernel
theorem dX7_strike_54 : decode cX7_strike 54 = .ok (.aload_n 0, 1) := by decide +kernel
theorem dX7_strike_55 : decode cX7_strike 55 = .ok (.getfield 105, 3) := by decide +kernel
theorem dX7_strike_58 : decode cX7_strike 58 = .ok (.ireturn, 1) := by decide +kernel
theorem dX7_type_0 : decode cX7_type 0 = .ok (.iload_n 3, 1) := by decide +kernel
theorem dX7_type_1 : decode cX7_type 1 = .ok (.i2l, 1) := by decide +kernel
theorem dX7_type_2 : decode cX7_type 2 = .ok (.lconst 1, 1) := by decide +kernel
theorem dX7_type_3 : decode cX7_type 3 = .ok (.ldc2_w 152, 3) := by decide +kernel
theorem dX7_type_6 : decode cX7_type 6 = .ok (.invokestatic 101, 3) := by decide +kernel
theorem dX7_type_9 : decode cX7_type 9 = .ok (.ifCond .ne 5, 3) := by decide +kernel
theorem dX7_type_12 : decode cX7_type 12 = .ok (.iconst (-1), 1) := by decide +kernel
theorem dX7_type_13 : decode cX7_type 13 = .ok (.ireturn, 1) := by decide +kernel
theorem dX7_type_14 : decode cX7_type 14 = .ok (.iconst 0, 1) := by decide +kernel
theorem dX7_type_15 : decode cX7_type 15 = .ok (.istore 4, 2) := by decide +kernel
theorem dX7_type_17 : decode cX7_type 17 = .ok (.iload 4, 2) := by decide +kernel
theorem dX7_type_19 : decode cX7_type 19 = .ok (.iload_n 3, 1) := by decide +kernel
theorem dX7_type_20 : decode cX7_type 20 = .ok (.if_icmp .ge 34, 3) := by decide +kernel
theorem dX7_type_23 : decode cX7_type 23 = .ok (.lload_n 1, 1) := by decide +kernel
theorem dX7_type_24 : decode cX7_type 24 = .ok (.bipush 8, 2) := by decide +kernel
theorem dX7_type_26 : decode cX7_type 26 = .ok (.iload 4, 2) := by decide +kernel
theorem dX7_type_28 : decode cX7_type 28 = .ok (.imul, 1) := by decide +kernel
theorem dX7_type_29 : decode cX7_type 29 = .ok (.lshr, 1) := by decide +kernel
theorem dX7_type_30 : decode cX7_type 30 = .ok (.ldc2_w 154, 3) := by decide +kernel
theorem dX7_type_33 : decode cX7_type 33 = .ok (.land, 1) := by decide +kernel
theorem dX7_type_34 : decode cX7_type 34 = .ok (.ldc2_w 156, 3) := by decide +kernel
theorem dX7_type_37 : decode cX7_type 37 = .ok (.ldc2_w 158, 3) := by decide +kernel
theorem dX7_type_40 : decode cX7_type 40 = .ok (.invokestatic 101, 3) := by decide +kernel
theorem dX7_type_43 : decode cX7_type 43 = .ok (.ifCond .ne 5, 3) := by decide +kernel
theorem dX7_type_46 : decode cX7_type 46 = .ok (.iconst (-1), 1) := by decide +kernel
theorem dX7_type_47 : decode cX7_type 47 = .ok (.ireturn, 1) := by decide +kernel
theorem dX7_type_48 : decode cX7_type 48 = .ok (.iinc 4 1, 3) := by decide +kernel
theorem dX7_type_51 : decode cX7_type 51 = .ok (.goto (-34), 3) := by decide +kernel
theorem dX7_type_54 : decode cX7_type 54 = .ok (.aload_n 0, 1) := by decide +kernel
theorem dX7_type_55 : decode cX7_type 55 = .ok (.getfield 160, 3) := by decide +kernel
theorem dX7_type_58 : decode cX7_type 58 = .ok (.iload_n 3, 1) := by decide +kernel
theorem dX7_type_59 : decode cX7_type 59 = .ok (.iadd, 1) := by decide +kernel
theorem dX7_type_60 : decode cX7_type 60 = .ok (.bipush 80, 2) := by decide +kernel
theorem dX7_type_62 : decode cX7_type 62 = .ok (.if_icmp .le 6, 3) := by decide +kernel
theorem dX7_type_65 : decode cX7_type 65 = .ok (.bipush (-3), 2) := by decide +kernel
theorem dX7_type_67 : decode cX7_type 67 = .ok (.ireturn, 1) := by decide +kernel
theorem dX7_type_68 : decode cX7_type 68 = .ok (.iload_n 3, 1) := by decide +kernel
theorem dX7_type_69 : decode cX7_type 69 = .ok (.iconst 1, 1) := by decide +kernel
theorem dX7_type_70 : decode cX7_type 70 = .ok (.isub, 1) := by decide +kernel
theorem dX7_type_71 : decode cX7_type 71 = .ok (.istore 4, 2) := by decide +kernel
theorem dX7_type_73 : decode cX7_type 73 = .ok (.iload 4, 2) := by decide +kernel
theorem dX7_type_75 : decode cX7_type 75 = .ok (.ifCond .lt 40, 3) := by decide +kernel
theorem dX7_type_78 : decode cX7_type 78 = .ok (.aload_n 0, 1) := by decide +kernel
theorem dX7_type_79 : decode cX7_type 79 = .ok (.getfield 19, 3) := by decide +kernel
theorem dX7_type_82 : decode cX7_type 82 = .ok (.aload_n 0, 1) := by decide +kernel
theorem dX7_type_83 : decode cX7_type 83 = .ok (.getfield 160, 3) := by decide +kernel
theorem dX7_type_86 : decode cX7_type 86 = .ok (.lload_n 1, 1) := by decide +kernel
theorem dX7_type_87 : decode cX7_type 87 = .ok (.bipush 8, 2) := by decide +kernel
theorem dX7_type_89 : decode cX7_type 89 = .ok (.iload 4, 2) := by decide +kernel
theorem dX7_type_91 : decode cX7_type 91 = .ok (.imul, 1) := by decide +kernel
theorem dX7_type_92 : decode cX7_type 92 = .ok (.lshr, 1) := by decide +kernel
theorem dX7_type_93 : decode cX7_type 93 = .ok (.ldc2_w 154, 3) := by decide +kernel
theorem dX7_type_96 : decode cX7_type 96 = .ok (.land, 1) := by decide +kernel
theorem dX7_type_97 : decode cX7_type 97 = .ok (.l2i, 1) := by decide +kernel
theorem dX7_type_98 : decode cX7_type 98 = .ok (.iastore, 1) := by decide +kernel
theorem dX7_type_99 : decode cX7_type 99 = .ok (.aload_n 0, 1) := by decide +kernel
theorem dX7_type_100 : decode cX7_type 100 = .ok (.dup, 1) := by decide +kernel
theorem dX7_type_101 : decode cX7_type 101 = .ok (.getfield 160, 3) := by decide +kernel
theorem dX7_type_104 : decode cX7_type 104 = .ok (.iconst 1, 1) := by decide +kernel
theorem dX7_type_105 : decode cX7_type 105 = .ok (.iadd, 1) := by decide +kernel
theorem dX7_type_106 : decode cX7_type 106 = .ok (.putfield 160, 3) := by decide +kernel
theorem dX7_type_109 : decode cX7_type 109 = .ok (.iinc 4 (-1), 3) := by decide +kernel
theorem dX7_type_112 : decode cX7_type 112 = .ok (.goto (-39), 3) := by decide +kernel
theorem dX7_type_115 : decode cX7_type 115 = .ok (.aload_n 0, 1) := by decide +kernel
theorem dX7_type_116 : decode cX7_type 116 = .ok (.getfield 160, 3) := by decide +kernel
theorem dX7_type_119 : decode cX7_type 119 = .ok (.ireturn, 1) := by decide +kernel
theorem dX7_here_0 : decode cX7_here 0 = .ok (.aload_n 0, 1) := by decide +kernel
theorem dX7_here_1 : decode cX7_here 1 = .ok (.getfield 163, 3) := by decide +kernel
theorem dX7_here_4 : decode cX7_here 4 = .ok (.aload_n 0, 1) := by decide +kernel
theorem dX7_here_5 : decode cX7_here 5 = .ok (.getfield 160, 3) := by decide +kernel
theorem dX7_here_8 : decode cX7_here 8 = .ok (.if_icmp .ge 30, 3) := by decide +kernel
theorem dX7_here_11 : decode cX7_here 11 = .ok (.aload_n 0, 1) := by decide +kernel
theorem dX7_here_12 : decode cX7_here 12 = .ok (.getfield 19, 3) := by decide +kernel
theorem dX7_here_15 : decode cX7_here 15 = .ok (.aload_n 0, 1) := by decide +kernel
theorem dX7_here_16 : decode cX7_here 16 = .ok (.getfield 163, 3) := by decide +kernel
theorem dX7_here_19 : decode cX7_here 19 = .ok (.iaload, 1) := by decide +kernel
theorem dX7_here_20 : decode cX7_here 20 = .ok (.bipush 32, 2) := by decide +kernel
theorem dX7_here_22 : decode cX7_here 22 = .ok (.if_icmp .ne 16, 3) := by decide +kernel
theorem dX7_here_25 : decode cX7_here 25 = .ok (.aload_n 0, 1) := by decide +kernel
theorem dX7_here_26 : decode cX7_here 26 = .ok (.dup, 1) := by decide +kernel
theorem dX7_here_27 : decode cX7_here 27 = .ok (.getfield 163, 3) := by decide +kernel
theorem dX7_here_30 : decode cX7_here 30 = .ok (.iconst 1, 1) := by decide +kernel
theorem dX7_here_31 : decode cX7_here 31 = .ok (.iadd, 1) := by decide +kernel
theorem dX7_here_32 : decode cX7_here 32 = .ok (.putfield 163, 3) := by decide +kernel
theorem dX7_here_35 : decode cX7_here 35 = .ok (.goto (-35), 3) := by decide +kernel
theorem dX7_here_38 : decode cX7_here 38 = .ok (.aload_n 0, 1) := by decide +kernel
theorem dX7_here_39 : decode cX7_here 39 = .ok (.getfield 163, 3) := by decide +kernel
theorem dX7_here_42 : decode cX7_here 42 = .ok (.aload_n 0, 1) := by decide +kernel
theorem dX7_here_43 : decode cX7_here 43 = .ok (.getfield 160, 3) := by decide +kernel
theorem dX7_here_46 : decode cX7_here 46 = .ok (.if_icmp .ge 15, 3) := by decide +kernel
theorem dX7_here_49 : decode cX7_here 49 = .ok (.aload_n 0, 1) := by decide +kernel
theorem dX7_here_50 : decode cX7_here 50 = .ok (.getfield 19, 3) := by decide +kernel
theorem dX7_here_53 : decode cX7_here 53 = .ok (.aload_n 0, 1) := by decide +kernel
theorem dX7_here_54 : decode cX7_here 54 = .ok (.getfield 163, 3) := by decide +kernel
theorem dX7_here_57 : decode cX7_here 57 = .ok (.iaload, 1) := by decide +kernel
theorem dX7_here_58 : decode cX7_here 58 = .ok (.goto 4, 3) := by decide +kernel
theorem dX7_here_61 : decode cX7_here 61 = .ok (.iconst 0, 1) := by decide +kernel
theorem dX7_here_62 : decode cX7_here 62 = .ok (.ireturn, 1) := by decide +kernel
theorem dX7_number_0 : decode cX7_number 0 = .ok (.aload_n 0, 1) := by decide +kernel
theorem dX7_number_1 : decode cX7_number 1 = .ok (.getfield 166, 3) := by decide +kernel
theorem dX7_number_4 : decode cX7_number 4 = .ok (.ifCond .ne 20, 3) := by decide +kernel
theorem dX7_number_7 : decode cX7_number 7 = .ok (.aload_n 0, 1) := by decide +kernel
theorem dX7_number_8 : decode cX7_number 8 = .ok (.invokevirtual 170, 3) := by decide +kernel
theorem dX7_number_11 : decode cX7_number 11 = .ok (.i2l, 1) := by decide +kernel
theorem dX7_number_12 : decode cX7_number 12 = .ok (.ldc2_w 174, 3) := by decide +kernel
theorem dX7_number_15 : decode cX7_number 15 = .ok (.ldc2_w 176, 3) := by decide +kernel
theorem dX7_number_18 : decode cX7_number 18 = .ok (.invokestatic 101, 3) := by decide +kernel
theorem dX7_number_21 : decode cX7_number 21 = .ok (.ifCond .ne 10, 3) := by decide +kernel
theorem dX7_number_24 : decode cX7_number 24 = .ok (.aload_n 0, 1) := by decide +kernel
theorem dX7_number_25 : decode cX7_number 25 = .ok (.iconst 1, 1) := by decide +kernel
theorem dX7_number_26 : decode cX7_number 26 = .ok (.putfield 166, 3) := by decide +kernel
theorem dX7_number_29 : decode cX7_number 29 = .ok (.iconst 0, 1) := by decide +kernel
theorem dX7_number_30 : decode cX7_number 30 = .ok (.ireturn, 1) := by decide +kernel
theorem dX7_number_31 : decode cX7_number 31 = .ok (.aload_n 0, 1) := by decide +kernel
theorem dX7_number_32 : decode cX7_number 32 = .ok (.getfield 163, 3) := by decide +kernel
theorem dX7_number_35 : decode cX7_number 35 = .ok (.istore_n 2, 1) := by decide +kernel
theorem dX7_number_36 : decode cX7_number 36 = .ok (.iconst 0, 1) := by decide +kernel
theorem dX7_number_37 : decode cX7_number 37 = .ok (.istore_n 3, 1) := by decide +kernel
theorem dX7_number_38 : decode cX7_number 38 = .ok (.aload_n 0, 1) := by decide +kernel
theorem dX7_number_39 : decode cX7_number 39 = .ok (.getfield 163, 3) := by decide +kernel
theorem dX7_number_42 : decode cX7_number 42 = .ok (.aload_n 0, 1) := by decide +kernel
theorem dX7_number_43 : decode cX7_number 43 = .ok (.getfield 160, 3) := by decide +kernel
theorem dX7_number_46 : decode cX7_number 46 = .ok (.if_icmp .ge 67, 3) := by decide +kernel
theorem dX7_number_49 : decode cX7_number 49 = .ok (.aload_n 0, 1) := by decide +kernel
theorem dX7_number_50 : decode cX7_number 50 = .ok (.getfield 19, 3) := by decide +kernel
theorem dX7_number_53 : decode cX7_number 53 = .ok (.aload_n 0, 1) := by decide +kernel
theorem dX7_number_54 : decode cX7_number 54 = .ok (.getfield 163, 3) := by decide +kernel
theorem dX7_number_57 : decode cX7_number 57 = .ok (.iaload, 1) := by decide +kernel
theorem dX7_number_58 : decode cX7_number 58 = .ok (.i2l, 1) := by decide +kernel
theorem dX7_number_59 : decode cX7_number 59 = .ok (.ldc2_w 174, 3) := by decide +kernel
theorem dX7_number_62 : decode cX7_number 62 = .ok (.ldc2_w 176, 3) := by decide +kernel
theorem dX7_number_65 : decode cX7_number 65 = .ok (.invokestatic 101, 3) := by decide +kernel
theorem dX7_number_68 : decode cX7_number 68 = .ok (.ifCond .eq 45, 3) := by decide +kernel
theorem dX7_number_71 : decode cX7_number 71 = .ok (.iload_n 3, 1) := by decide +kernel
theorem dX7_number_72 : decode cX7_number 72 = .ok (.sipush 999, 3) := by decide +kernel
theorem dX7_number_75 : decode cX7_number 75 = .ok (.if_icmp .le 7, 3) := by decide +kernel
theorem dX7_number_78 : decode cX7_number 78 = .ok (.iload_n 3, 1) := by decide +kernel
theorem dX7_number_79 : decode cX7_number 79 = .ok (.goto 20, 3) := by decide +kernel
theorem dX7_number_82 : decode cX7_number 82 = .ok (.bipush 10, 2) := by decide +kernel
theorem dX7_number_84 : decode cX7_number 84 = .ok (.iload_n 3, 1) := by decide +kernel
theorem dX7_number_85 : decode cX7_number 85 = .ok (.imul, 1) := by decide +kernel
theorem dX7_number_86 : decode cX7_number 86 = .ok (.aload_n 0, 1) := by decide +kernel
theorem dX7_number_87 : decode cX7_number 87 = .ok (.getfield 19, 3) := by decide +kernel
theorem dX7_number_90 : decode cX7_number 90 = .ok (.aload_n 0, 1) := by decide +kernel
theorem dX7_number_91 : decode cX7_number 91 = .ok (.getfield 163, 3) := by decide +kernel
theorem dX7_number_94 : decode cX7_number 94 = .ok (.iaload, 1) := by decide +kernel
theorem dX7_number_95 : decode cX7_number 95 = .ok (.iadd, 1) := by decide +kernel
theorem dX7_number_96 : decode cX7_number 96 = .ok (.bipush 48, 2) := by decide +kernel
theorem dX7_number_98 : decode cX7_number 98 = .ok (.isub, 1) := by decide +kernel
theorem dX7_number_99 : decode cX7_number 99 = .ok (.istore_n 3, 1) := by decide +kernel
theorem dX7_number_100 : decode cX7_number 100 = .ok (.aload_n 0, 1) := by decide +kernel
theorem dX7_number_101 : decode cX7_number 101 = .ok (.dup, 1) := by decide +kernel
theorem dX7_number_102 : decode cX7_number 102 = .ok (.getfield 163, 3) := by decide +kernel
theorem dX7_number_105 : decode cX7_number 105 = .ok (.iconst 1, 1) := by decide +kernel
theorem dX7_number_106 : decode cX7_number 106 = .ok (.iadd, 1) := by decide +kernel
theorem dX7_number_107 : decode cX7_number 107 = .ok (.putfield 163, 3) := by decide +kernel
theorem dX7_number_110 : decode cX7_number 110 = .ok (.goto (-72), 3) := by decide +kernel
theorem dX7_number_113 : decode cX7_number 113 = .ok (.aload_n 0, 1) := by decide +kernel
theorem dX7_number_114 : decode cX7_number 114 = .ok (.iload_n 3, 1) := by decide +kernel
theorem dX7_number_115 : decode cX7_number 115 = .ok (.iload_n 1, 1) := by decide +kernel
theorem dX7_number_116 : decode cX7_number 116 = .ok (.if_icmp .le 7, 3) := by decide +kernel
theorem dX7_number_119 : decode cX7_number 119 = .ok (.iconst 1, 1) := by decide +kernel
theorem dX7_number_120 : decode cX7_number 120 = .ok (.goto 4, 3) := by decide +kernel
theorem dX7_number_123 : decode cX7_number 123 = .ok (.iconst 0, 1) := by decide +kernel
theorem dX7_number_124 : decode cX7_number 124 = .ok (.putfield 166, 3) := by decide +kernel
theorem dX7_number_127 : decode cX7_number 127 = .ok (.aload_n 0, 1) := by decide +kernel
theorem dX7_number_128 : decode cX7_number 128 = .ok (.aload_n 0, 1) := by decide +kernel
theorem dX7_number_129 : decode cX7_number 129 = .ok (.getfield 166, 3) := by decide +kernel
theorem dX7_number_132 : decode cX7_number 132 = .ok (.ifCond .eq 7, 3) := by decide +kernel
theorem dX7_number_135 : decode cX7_number 135 = .ok (.iload_n 2, 1) := by decide +kernel
theorem dX7_number_136 : decode cX7_number 136 = .ok (.goto 7, 3) := by decide +kernel
theorem dX7_number_139 : decode cX7_number 139 = .ok (.aload_n 0, 1) := by decide +kernel
theorem dX7_number_140 : decode cX7_number 140 = .ok (.getfield 163, 3) := by decide +kernel
theorem dX7_number_143 : decode cX7_number 143 = .ok (.putfield 163, 3) := by decide +kernel
theorem dX7_number_146 : decode cX7_number 146 = .ok (.iload_n 3, 1) := by decide +kernel
theorem dX7_number_147 : decode cX7_number 147 = .ok (.ireturn, 1) := by decide +kernel
theorem dX7_letter_0 : decode cX7_letter 0 = .ok (.aload_n 0, 1) := by decide +kernel
theorem dX7_letter_1 : decode cX7_letter 1 = .ok (.getfield 166, 3) := by decide +kernel
theorem dX7_letter_4 : decode cX7_letter 4 = .ok (.ifCond .eq 7, 3) := by decide +kernel
theorem dX7_letter_7 : decode cX7_letter 7 = .ok (.iconst 0, 1) := by decide +kernel
theorem dX7_letter_8 : decode cX7_letter 8 = .ok (.goto 7, 3) := by decide +kernel
theorem dX7_letter_11 : decode cX7_letter 11 = .ok (.aload_n 0, 1) := by decide +kernel
theorem dX7_letter_12 : decode cX7_letter 12 = .ok (.invokevirtual 170, 3) := by decide +kernel
theorem dX7_letter_15 : decode cX7_letter 15 = .ok (.istore 6, 2) := by decide +kernel
theorem dX7_letter_17 : decode cX7_letter 17 = .ok (.iload 6, 2) := by decide +kernel
theorem dX7_letter_19 : decode cX7_letter 19 = .ok (.ifCond .ne 8, 3) := by decide +kernel
theorem dX7_letter_22 : decode cX7_letter 22 = .ok (.bipush (-4), 2) := by decide +kernel
theorem dX7_letter_24 : decode cX7_letter 24 = .ok (.goto 57, 3) := by decide +kernel
theorem dX7_letter_27 : decode cX7_letter 27 = .ok (.iload 6, 2) := by decide +kernel
theorem dX7_letter_29 : decode cX7_letter 29 = .ok (.iload_n 1, 1) := by decide +kernel
theorem dX7_letter_30 : decode cX7_letter 30 = .ok (.if_icmp .ne 7, 3) := by decide +kernel
theorem dX7_letter_33 : decode cX7_letter 33 = .ok (.iconst 0, 1) := by decide +kernel
theorem dX7_letter_34 : decode cX7_letter 34 = .ok (.goto 47, 3) := by decide +kernel
theorem dX7_letter_37 : decode cX7_letter 37 = .ok (.iload 6, 2) := by decide +kernel
theorem dX7_letter_39 : decode cX7_letter 39 = .ok (.iload_n 2, 1) := by decide +kernel
theorem dX7_letter_40 : decode cX7_letter 40 = .ok (.if_icmp .ne 7, 3) := by decide +kernel
theorem dX7_letter_43 : decode cX7_letter 43 = .ok (.iconst 1, 1) := by decide +kernel
theorem dX7_letter_44 : decode cX7_letter 44 = .ok (.goto 37, 3) := by decide +kernel
theorem dX7_letter_47 : decode cX7_letter 47 = .ok (.iload 6, 2) := by decide +kernel
theorem dX7_letter_49 : decode cX7_letter 49 = .ok (.iload_n 3, 1) := by decide +kernel
theorem dX7_letter_50 : decode cX7_letter 50 = .ok (.if_icmp .ne 7, 3) := by decide +kernel
theorem dX7_letter_53 : decode cX7_letter 53 = .ok (.iconst 2, 1) := by decide +kernel
theorem dX7_letter_54 : decode cX7_letter 54 = .ok (.goto 27, 3) := by decide +kernel
theorem dX7_letter_57 : decode cX7_letter 57 = .ok (.iload 6, 2) := by decide +kernel
theorem dX7_letter_59 : decode cX7_letter 59 = .ok (.iload 4, 2) := by decide +kernel
theorem dX7_letter_61 : decode cX7_letter 61 = .ok (.if_icmp .ne 7, 3) := by decide +kernel
theorem dX7_letter_64 : decode cX7_letter 64 = .ok (.iconst 3, 1) := by decide +kernel
theorem dX7_letter_65 : decode cX7_letter 65 = .ok (.goto 16, 3) := by decide +kernel
theorem dX7_letter_68 : decode cX7_letter 68 = .ok (.iload 6, 2) := by decide +kernel
theorem dX7_letter_70 : decode cX7_letter 70 = .ok (.iload 5, 2) := by decide +kernel
theorem dX7_letter_72 : decode cX7_letter 72 = .ok (.if_icmp .ne 7, 3) := by decide +kernel
theorem dX7_letter_75 : decode cX7_letter 75 = .ok (.iconst 4, 1) := by decide +kernel
theorem dX7_letter_76 : decode cX7_letter 76 = .ok (.goto 5, 3) := by decide +kernel
theorem dX7_letter_79 : decode cX7_letter 79 = .ok (.bipush (-4), 2) := by decide +kernel
theorem dX7_letter_81 : decode cX7_letter 81 = .ok (.istore 7, 2) := by decide +kernel
theorem dX7_letter_83 : decode cX7_letter 83 = .ok (.aload_n 0, 1) := by decide +kernel
theorem dX7_letter_84 : decode cX7_letter 84 = .ok (.aload_n 0, 1) := by decide +kernel
theorem dX7_letter_85 : decode cX7_letter 85 = .ok (.getfield 166, 3) := by decide +kernel
theorem dX7_letter_88 : decode cX7_letter 88 = .ok (.ifCond .ne 8, 3) := by decide +kernel
theorem dX7_letter_91 : decode cX7_letter 91 = .ok (.iload 7, 2) := by decide +kernel
theorem dX7_letter_93 : decode cX7_letter 93 = .ok (.ifCond .ge 7, 3) := by decide +kernel
theorem dX7_letter_96 : decode cX7_letter 96 = .ok (.iconst 1, 1) := by decide +kernel
theorem dX7_letter_97 : decode cX7_letter 97 = .ok (.goto 4, 3) := by decide +kernel
theorem dX7_letter_100 : decode cX7_letter 100 = .ok (.iconst 0, 1) := by decide +kernel
theorem dX7_letter_101 : decode cX7_letter 101 = .ok (.putfield 166, 3) := by decide +kernel
theorem dX7_letter_104 : decode cX7_letter 104 = .ok (.aload_n 0, 1) := by decide +kernel
theorem dX7_letter_105 : decode cX7_letter 105 = .ok (.dup, 1) := by decide +kernel
theorem dX7_letter_106 : decode cX7_letter 106 = .ok (.getfield 163, 3) := by decide +kernel
theorem dX7_letter_109 : decode cX7_letter 109 = .ok (.aload_n 0, 1) := by decide +kernel
theorem dX7_letter_110 : decode cX7_letter 110 = .ok (.getfield 166, 3) := by decide +kernel
theorem dX7_letter_113 : decode cX7_letter 113 = .ok (.ifCond .eq 7, 3) := by decide +kernel
theorem dX7_letter_116 : decode cX7_letter 116 = .ok (.iconst 0, 1) := by decide +kernel
theorem dX7_letter_117 : decode cX7_letter 117 = .ok (.goto 4, 3) := by decide +kernel
theorem dX7_letter_120 : decode cX7_letter 120 = .ok (.iconst 1, 1) := by decide +kernel
theorem dX7_letter_121 : decode cX7_letter 121 = .ok (.iadd, 1) := by decide +kernel
theorem dX7_letter_122 : decode cX7_letter 122 = .ok (.putfield 163, 3) := by decide +kernel
theorem dX7_letter_125 : decode cX7_letter 125 = .ok (.iload 7, 2) := by decide +kernel
theorem dX7_letter_127 : decode cX7_letter 127 = .ok (.ireturn, 1) := by decide +kernel
theorem dX7_people_0 : decode cX7_people 0 = .ok (.aload_n 0, 1) := by decide +kernel
theorem dX7_people_1 : decode cX7_people 1 = .ok (.iconst 0, 1) := by decide +kernel
theorem dX7_people_2 : decode cX7_people 2 = .ok (.putfield 163, 3) := by decide +kernel
theorem dX7_people_5 : decode cX7_people 5 = .ok (.aload_n 0, 1) := by decide +kernel
theorem dX7_people_6 : decode cX7_people 6 = .ok (.iconst 0, 1) := by decide +kernel
theorem dX7_people_7 : decode cX7_people 7 = .ok (.putfield 166, 3) := by decide +kernel
theorem dX7_people_10 : decode cX7_people 10 = .ok (.iconst 0, 1) := by decide +kernel
theorem dX7_people_11 : decode cX7_people 11 = .ok (.istore_n 1, 1) := by decide +kernel
theorem dX7_people_12 : decode cX7_people 12 = .ok (.iconst 1, 1) := by decide +kernel
theorem dX7_people_13 : decode cX7_people 13 = .ok (.istore_n 2, 1) := by decide +kernel
theorem dX7_people_14 : decode cX7_people 14 = .ok (.iload_n 2, 1) := by decide +kernel
theorem dX7_people_15 : decode cX7_people 15 = .ok (.ifCond .eq 114, 3) := by decide +kernel
theorem dX7_people_18 : decode cX7_people 18 = .ok (.aload_n 0, 1) := by decide +kernel
theorem dX7_people_19 : decode cX7_people 19 = .ok (.getfield 22, 3) := by decide +kernel
theorem dX7_people_22 : decode cX7_people 22 = .ok (.iconst 3, 1) := by decide +kernel
theorem dX7_people_23 : decode cX7_people 23 = .ok (.iload_n 1, 1) := by decide +kernel
theorem dX7_people_24 : decode cX7_people 24 = .ok (.imul, 1) := by decide +kernel
theorem dX7_people_25 : decode cX7_people 25 = .ok (.aload_n 0, 1) := by decide +kernel
theorem dX7_people_26 : decode cX7_people 26 = .ok (.bipush 99, 2) := by decide +kernel
theorem dX7_people_28 : decode cX7_people 28 = .ok (.invokevirtual 178, 3) := by decide +kernel
theorem dX7_people_31 : decode cX7_people 31 = .ok (.iastore, 1) := by decide +kernel
theorem dX7_people_32 : decode cX7_people 32 = .ok (.aload_n 0, 1) := by decide +kernel
theorem dX7_people_33 : decode cX7_people 33 = .ok (.getfield 22, 3) := by decide +kernel
theorem dX7_people_36 : decode cX7_people 36 = .ok (.iconst 3, 1) := by decide +kernel
theorem dX7_people_37 : decode cX7_people 37 = .ok (.iload_n 1, 1) := by decide +kernel
theorem dX7_people_38 : decode cX7_people 38 = .ok (.imul, 1) := by decide +kernel
theorem dX7_people_39 : decode cX7_people 39 = .ok (.iconst 1, 1) := by decide +kernel
theorem dX7_people_40 : decode cX7_people 40 = .ok (.iadd, 1) := by decide +kernel
theorem dX7_people_41 : decode cX7_people 41 = .ok (.aload_n 0, 1) := by decide +kernel
theorem dX7_people_42 : decode cX7_people 42 = .ok (.bipush 117, 2) := by decide +kernel
theorem dX7_people_44 : decode cX7_people 44 = .ok (.bipush 100, 2) := by decide +kernel
theorem dX7_people_46 : decode cX7_people 46 = .ok (.iconst (-1), 1) := by decide +kernel
theorem dX7_people_47 : decode cX7_people 47 = .ok (.iconst (-1), 1) := by decide +kernel
theorem dX7_people_48 : decode cX7_people 48 = .ok (.iconst (-1), 1) := by decide +kernel
theorem dX7_people_49 : decode cX7_people 49 = .ok (.invokevirtual 181, 3) := by decide +kernel
theorem dX7_people_52 : decode cX7_people 52 = .ok (.iastore, 1) := by decide +kernel
theorem dX7_people_53 : decode cX7_people 53 = .ok (.aload_n 0, 1) := by decide +kernel
theorem dX7_people_54 : decode cX7_people 54 = .ok (.getfield 22, 3) := by decide +kernel
theorem dX7_people_57 : decode cX7_people 57 = .ok (.iconst 3, 1) := by decide +kernel
theorem dX7_people_58 : decode cX7_people 58 = .ok (.iload_n 1, 1) := by decide +kernel
theorem dX7_people_59 : decode cX7_people 59 = .ok (.imul, 1) := by decide +kernel
theorem dX7_people_60 : decode cX7_people 60 = .ok (.iconst 2, 1) := by decide +kernel
theorem dX7_people_61 : decode cX7_people 61 = .ok (.iadd, 1) := by decide +kernel
theorem dX7_people_62 : decode cX7_people 62 = .ok (.aload_n 0, 1) := by decide +kernel
theorem dX7_people_63 : decode cX7_people 63 = .ok (.bipush 115, 2) := by decide +kernel
theorem dX7_people_65 : decode cX7_people 65 = .ok (.bipush 119, 2) := by decide +kernel
theorem dX7_people_67 : decode cX7_people 67 = .ok (.bipush 98, 2) := by decide +kernel
theorem dX7_people_69 : decode cX7_people 69 = .ok (.bipush 99, 2) := by decide +kernel
theorem dX7_people_71 : decode cX7_people 71 = .ok (.bipush 102, 2) := by decide +kernel
theorem dX7_people_73 : decode cX7_people 73 = .ok (.invokevirtual 181, 3) := by decide +kernel
theorem dX7_people_76 : decode cX7_people 76 = .ok (.iastore, 1) := by decide +kernel
theorem dX7_people_77 : decode cX7_people 77 = .ok (.iinc 1 1, 3) := by decide +kernel
theorem dX7_people_80 : decode cX7_people 80 = .ok (.aload_n 0, 1) := by decide +kernel
theorem dX7_people_81 : decode cX7_people 81 = .ok (.getfield 166, 3) := by decide +kernel
theorem dX7_people_84 : decode cX7_people 84 = .ok (.ifCond .ne 22, 3) := by decide +kernel
theorem dX7_people_87 : decode cX7_people 87 = .ok (.iload_n 1, 1) := by decide +kernel
theorem dX7_people_88 : decode cX7_people 88 = .ok (.bipush 8, 2) := by decide +kernel
theorem dX7_people_90 : decode cX7_people 90 = .ok (.if_icmp .ge 16, 3) := by decide +kernel
theorem dX7_people_93 : decode cX7_people 93 = .ok (.aload_n 0, 1) := by decide +kernel
theorem dX7_people_94 : decode cX7_people 94 = .ok (.invokevirtual 170, 3) := by decide +kernel
theorem dX7_people_97 : decode cX7_people 97 = .ok (.bipush 59, 2) := by decide +kernel
theorem dX7_people_99 : decode cX7_people 99 = .ok (.if_icmp .ne 7, 3) := by decide +kernel
theorem dX7_people_102 : decode cX7_people 102 = .ok (.iconst 1, 1) := by decide +kernel
theorem dX7_people_103 : decode cX7_people 103 = .ok (.goto 4, 3) := by decide +kernel
theorem dX7_people_106 : decode cX7_people 106 = .ok (.iconst 0, 1) := by decide +kernel
theorem dX7_people_107 : decode cX7_people 107 = .ok (.istore_n 2, 1) := by decide +kernel
theorem dX7_people_108 : decode cX7_people 108 = .ok (.aload_n 0, 1) := by decide +kernel
theorem dX7_people_109 : decode cX7_people 109 = .ok (.dup, 1) := by decide +kernel
theorem dX7_people_110 : decode cX7_people 110 = .ok (.getfield 163, 3) := by decide +kernel
theorem dX7_people_113 : decode cX7_people 113 = .ok (.iload_n 2, 1) := by decide +kernel
theorem dX7_people_114 : decode cX7_people 114 = .ok (.ifCond .eq 7, 3) := by decide +kernel
theorem dX7_people_117 : decode cX7_people 117 = .ok (.iconst 1, 1) := by decide +kernel
theorem dX7_people_118 : decode cX7_people 118 = .ok (.goto 4, 3) := by decide +kernel
theorem dX7_people_121 : decode cX7_people 121 = .ok (.iconst 0, 1) := by decide +kernel
theorem dX7_people_122 : decode cX7_people 122 = .ok (.iadd, 1) := by decide +kernel
theorem dX7_people_123 : decode cX7_people 123 = .ok (.putfield 163, 3) := by decide +kernel
theorem dX7_people_126 : decode cX7_people 126 = .ok (.goto (-112), 3) := by decide +kernel
theorem dX7_people_129 : decode cX7_people 129 = .ok (.aload_n 0, 1) := by decide +kernel
theorem dX7_people_130 : decode cX7_people 130 = .ok (.aload_n 0, 1) := by decide +kernel
theorem dX7_people_131 : decode cX7_people 131 = .ok (.getfield 166, 3) := by decide +kernel
theorem dX7_people_134 : decode cX7_people 134 = .ok (.ifCond .ne 10, 3) := by decide +kernel
theorem dX7_people_137 : decode cX7_people 137 = .ok (.aload_n 0, 1) := by decide +kernel
theorem dX7_people_138 : decode cX7_people 138 = .ok (.invokevirtual 170, 3) := by decide +kernel
theorem dX7_people_141 : decode cX7_people 141 = .ok (.ifCond .eq 7, 3) := by decide +kernel
theorem dX7_people_144 : decode cX7_people 144 = .ok (.iconst 1, 1) := by decide +kernel
theorem dX7_people_145 : decode cX7_people 145 = .ok (.goto 4, 3) := by decide +kernel
theorem dX7_people_148 : decode cX7_people 148 = .ok (.iconst 0, 1) := by decide +kernel
theorem dX7_people_149 : decode cX7_people 149 = .ok (.putfield 166, 3) := by decide +kernel
theorem dX7_people_152 : decode cX7_people 152 = .ok (.aload_n 0, 1) := by decide +kernel
theorem dX7_people_153 : decode cX7_people 153 = .ok (.iconst 0, 1) := by decide +kernel
theorem dX7_people_154 : decode cX7_people 154 = .ok (.putfield 160, 3) := by decide +kernel
theorem dX7_people_157 : decode cX7_people 157 = .ok (.aload_n 0, 1) := by decide +kernel
theorem dX7_people_158 : decode cX7_people 158 = .ok (.getfield 166, 3) := by decide +kernel
theorem dX7_people_161 : decode cX7_people 161 = .ok (.ifCond .eq 11, 3) := by decide +kernel
theorem dX7_people_164 : decode cX7_people 164 = .ok (.bipush (-20), 2) := by decide +kernel
theorem dX7_people_166 : decode cX7_people 166 = .ok (.aload_n 0, 1) := by decide +kernel
theorem dX7_people_167 : decode cX7_people 167 = .ok (.getfield 163, 3) := by decide +kernel
theorem dX7_people_170 : decode cX7_people 170 = .ok (.isub, 1) := by decide +kernel
theorem dX7_people_171 : decode cX7_people 171 = .ok (.ireturn, 1) := by decide +kernel
theorem dX7_people_172 : decode cX7_people 172 = .ok (.aload_n 0, 1) := by decide +kernel
theorem dX7_people_173 : decode cX7_people 173 = .ok (.getfield 105, 3) := by decide +kernel
theorem dX7_people_176 : decode cX7_people 176 = .ok (.iload_n 1, 1) := by decide +kernel
theorem dX7_people_177 : decode cX7_people 177 = .ok (.iadd, 1) := by decide +kernel
theorem dX7_people_178 : decode cX7_people 178 = .ok (.bipush 14, 2) := by decide +kernel
theorem dX7_people_180 : decode cX7_people 180 = .ok (.if_icmp .le 6, 3) := by decide +kernel
theorem dX7_people_183 : decode cX7_people 183 = .ok (.bipush (-3), 2) := by decide +kernel
theorem dX7_people_185 : decode cX7_people 185 = .ok (.ireturn, 1) := by decide +kernel
theorem dX7_people_186 : decode cX7_people 186 = .ok (.iconst 0, 1) := by decide +kernel
theorem dX7_people_187 : decode cX7_people 187 = .ok (.istore_n 3, 1) := by decide +kernel
theorem dX7_people_188 : decode cX7_people 188 = .ok (.iload_n 3, 1) := by decide +kernel
theorem dX7_people_189 : decode cX7_people 189 = .ok (.iconst 3, 1) := by decide +kernel
theorem dX7_people_190 : decode cX7_people 190 = .ok (.iload_n 1, 1) := by decide +kernel
theorem dX7_people_191 : decode cX7_people 191 = .ok (.imul, 1) := by decide +kernel
theorem dX7_people_192 : decode cX7_people 192 = .ok (.if_icmp .ge 36, 3) := by decide +kernel
theorem dX7_people_195 : decode cX7_people 195 = .ok (.aload_n 0, 1) := by decide +kernel
theorem dX7_people_196 : decode cX7_people 196 = .ok (.aload_n 0, 1) := by decide +kernel
theorem dX7_people_197 : decode cX7_people 197 = .ok (.getfield 22, 3) := by decide +kernel
theorem dX7_people_200 : decode cX7_people 200 = .ok (.iload_n 3, 1) := by decide +kernel
theorem dX7_people_201 : decode cX7_people 201 = .ok (.iaload, 1) := by decide +kernel
theorem dX7_people_202 : decode cX7_people 202 = .ok (.aload_n 0, 1) := by decide +kernel
theorem dX7_people_203 : decode cX7_people 203 = .ok (.getfield 22, 3) := by decide +kernel
theorem dX7_people_206 : decode cX7_people 206 = .ok (.iload_n 3, 1) := by decide +kernel
theorem dX7_people_207 : decode cX7_people 207 = .ok (.iconst 1, 1) := by decide +kernel
theorem dX7_people_208 : decode cX7_people 208 = .ok (.iadd, 1) := by decide +kernel
theorem dX7_people_209 : decode cX7_people 209 = .ok (.iaload, 1) := by decide +kernel
theorem dX7_people_210 : decode cX7_people 210 = .ok (.aload_n 0, 1) := by decide +kernel
theorem dX7_people_211 : decode cX7_people 211 = .ok (.getfield 22, 3) := by decide +kernel
theorem dX7_people_214 : decode cX7_people 214 = .ok (.iload_n 3, 1) := by decide +kernel
theorem dX7_people_215 : decode cX7_people 215 = .ok (.iconst 2, 1) := by decide +kernel
theorem dX7_people_216 : decode cX7_people 216 = .ok (.iadd, 1) := by decide +kernel
theorem dX7_people_217 : decode cX7_people 217 = .ok (.iaload, 1) := by decide +kernel
theorem dX7_people_218 : decode cX7_people 218 = .ok (.invokevirtual 141, 3) := by decide +kernel
theorem dX7_people_221 : decode cX7_people 221 = .ok (.pop, 1) := by decide +kernel
theorem dX7_people_222 : decode cX7_people 222 = .ok (.iinc 3 3, 3) := by decide +kernel
theorem dX7_people_225 : decode cX7_people 225 = .ok (.goto (-37), 3) := by decide +kernel
theorem dX7_people_228 : decode cX7_people 228 = .ok (.iload_n 1, 1) := by decide +kernel
theorem dX7_people_229 : decode cX7_people 229 = .ok (.ireturn, 1) := by decide +kernel
theorem dX7_count_0 : decode cX7_count 0 = .ok (.iconst 0, 1) := by decide +kernel
theorem dX7_count_1 : decode cX7_count 1 = .ok (.istore_n 2, 1) := by decide +kernel
theorem dX7_count_2 : decode cX7_count 2 = .ok (.iconst 0, 1) := by decide +kernel
theorem dX7_count_3 : decode cX7_count 3 = .ok (.istore_n 3, 1) := by decide +kernel
theorem dX7_count_4 : decode cX7_count 4 = .ok (.iload_n 3, 1) := by decide +kernel
theorem dX7_count_5 : decode cX7_count 5 = .ok (.aload_n 0, 1) := by decide +kernel
theorem dX7_count_6 : decode cX7_count 6 = .ok (.getfield 105, 3) := by decide +kernel
theorem dX7_count_9 : decode cX7_count 9 = .ok (.if_icmp .ge 30, 3) := by decide +kernel
theorem dX7_count_12 : decode cX7_count 12 = .ok (.iload_n 2, 1) := by decide +kernel
theorem dX7_count_13 : decode cX7_count 13 = .ok (.aload_n 0, 1) := by decide +kernel
theorem dX7_count_14 : decode cX7_count 14 = .ok (.getfield 16, 3) := by decide +kernel
theorem dX7_count_17 : decode cX7_count 17 = .ok (.iconst 3, 1) := by decide +kernel
theorem dX7_count_18 : decode cX7_count 18 = .ok (.iload_n 3, 1) := by decide +kernel
theorem dX7_count_19 : decode cX7_count 19 = .ok (.imul, 1) := by decide +kernel
theorem dX7_count_20 : decode cX7_count 20 = .ok (.iconst 1, 1) := by decide +kernel
theorem dX7_count_21 : decode cX7_count 21 = .ok (.iadd, 1) := by decide +kernel
theorem dX7_count_22 : decode cX7_count 22 = .ok (.iaload, 1) := by decide +kernel
theorem dX7_count_23 : decode cX7_count 23 = .ok (.ifCond .ne 7, 3) := by decide +kernel
theorem dX7_count_26 : decode cX7_count 26 = .ok (.iconst 1, 1) := by decide +kernel
theorem dX7_count_27 : decode cX7_count 27 = .ok (.goto 4, 3) := by decide +kernel
theorem dX7_count_30 : decode cX7_count 30 = .ok (.iconst 0, 1) := by decide +kernel
theorem dX7_count_31 : decode cX7_count 31 = .ok (.iadd, 1) := by decide +kernel
theorem dX7_count_32 : decode cX7_count 32 = .ok (.istore_n 2, 1) := by decide +kernel
theorem dX7_count_33 : decode cX7_count 33 = .ok (.iinc 3 1, 3) := by decide +kernel
theorem dX7_count_36 : decode cX7_count 36 = .ok (.goto (-32), 3) := by decide +kernel
theorem dX7_count_39 : decode cX7_count 39 = .ok (.iload_n 1, 1) := by decide +kernel
theorem dX7_count_40 : decode cX7_count 40 = .ok (.ifCond .ne 10, 3) := by decide +kernel
theorem dX7_count_43 : decode cX7_count 43 = .ok (.aload_n 0, 1) := by decide +kernel
theorem dX7_count_44 : decode cX7_count 44 = .ok (.getfield 97, 3) := by decide +kernel
theorem dX7_count_47 : decode cX7_count 47 = .ok (.goto 25, 3) := by decide +kernel
theorem dX7_count_50 : decode cX7_count 50 = .ok (.iload_n 1, 1) := by decide +kernel
theorem dX7_count_51 : decode cX7_count 51 = .ok (.iconst 1, 1) := by decide +kernel
theorem dX7_count_52 : decode cX7_count 52 = .ok (.if_icmp .ne 10, 3) := by decide +kernel
theorem dX7_count_55 : decode cX7_count 55 = .ok (.aload_n 0, 1) := by decide +kernel
theorem dX7_count_56 : decode cX7_count 56 = .ok (.getfield 105, 3) := by decide +kernel
theorem dX7_count_59 : decode cX7_count 59 = .ok (.goto 13, 3) := by decide +kernel
theorem dX7_count_62 : decode cX7_count 62 = .ok (.iload_n 1, 1) := by decide +kernel
theorem dX7_count_63 : decode cX7_count 63 = .ok (.iconst 2, 1) := by decide +kernel
theorem dX7_count_64 : decode cX7_count 64 = .ok (.if_icmp .ne 7, 3) := by decide +kernel
theorem dX7_count_67 : decode cX7_count 67 = .ok (.iload_n 2, 1) := by decide +kernel
theorem dX7_count_68 : decode cX7_count 68 = .ok (.goto 4, 3) := by decide +kernel
theorem dX7_count_71 : decode cX7_count 71 = .ok (.iconst (-1), 1) := by decide +kernel
theorem dX7_count_72 : decode cX7_count 72 = .ok (.ireturn, 1) := by decide +kernel
theorem dX7_asTold_0 : decode cX7_asTold 0 = .ok (.aload_n 0, 1) := by decide +kernel
theorem dX7_asTold_1 : decode cX7_asTold 1 = .ok (.getfield 136, 3) := by decide +kernel
theorem dX7_asTold_4 : decode cX7_asTold 4 = .ok (.istore_n 1, 1) := by decide +kernel
theorem dX7_asTold_5 : decode cX7_asTold 5 = .ok (.iconst 0, 1) := by decide +kernel
theorem dX7_asTold_6 : decode cX7_asTold 6 = .ok (.istore_n 2, 1) := by decide +kernel
theorem dX7_asTold_7 : decode cX7_asTold 7 = .ok (.iload_n 2, 1) := by decide +kernel
theorem dX7_asTold_8 : decode cX7_asTold 8 = .ok (.iconst 3, 1) := by decide +kernel
theorem dX7_asTold_9 : decode cX7_asTold 9 = .ok (.if_icmp .ge 70, 3) := by decide +kernel
theorem dX7_asTold_12 : decode cX7_asTold 12 = .ok (.aload_n 0, 1) := by decide +kernel
theorem dX7_asTold_13 : decode cX7_asTold 13 = .ok (.getfield 25, 3) := by decide +kernel
theorem dX7_asTold_16 : decode cX7_asTold 16 = .ok (.iload_n 2, 1) := by decide +kernel
theorem dX7_asTold_17 : decode cX7_asTold 17 = .ok (.aload_n 0, 1) := by decide +kernel
theorem dX7_asTold_18 : decode cX7_asTold 18 = .ok (.getfield 13, 3) := by decide +kernel
theorem dX7_asTold_21 : decode cX7_asTold 21 = .ok (.iconst 3, 1) := by decide +kernel
theorem dX7_asTold_22 : decode cX7_asTold 22 = .ok (.iload_n 2, 1) := by decide +kernel
theorem dX7_asTold_23 : decode cX7_asTold 23 = .ok (.imul, 1) := by decide +kernel
theorem dX7_asTold_24 : decode cX7_asTold 24 = .ok (.iconst 1, 1) := by decide +kernel
theorem dX7_asTold_25 : decode cX7_asTold 25 = .ok (.iadd, 1) := by decide +kernel
theorem dX7_asTold_26 : decode cX7_asTold 26 = .ok (.iaload, 1) := by decide +kernel
theorem dX7_asTold_27 : decode cX7_asTold 27 = .ok (.iastore, 1) := by decide +kernel
theorem dX7_asTold_28 : decode cX7_asTold 28 = .ok (.aload_n 0, 1) := by decide +kernel
theorem dX7_asTold_29 : decode cX7_asTold 29 = .ok (.getfield 31, 3) := by decide +kernel
theorem dX7_asTold_32 : decode cX7_asTold 32 = .ok (.iload_n 2, 1) := by decide +kernel
theorem dX7_asTold_33 : decode cX7_asTold 33 = .ok (.aload_n 0, 1) := by decide +kernel
theorem dX7_asTold_34 : decode cX7_asTold 34 = .ok (.getfield 13, 3) := by decide +kernel
theorem dX7_asTold_37 : decode cX7_asTold 37 = .ok (.iconst 3, 1) := by decide +kernel
theorem dX7_asTold_38 : decode cX7_asTold 38 = .ok (.iload_n 2, 1) := by decide +kernel
theorem dX7_asTold_39 : decode cX7_asTold 39 = .ok (.imul, 1) := by decide +kernel
theorem dX7_asTold_40 : decode cX7_asTold 40 = .ok (.iconst 2, 1) := by decide +kernel
theorem dX7_asTold_41 : decode cX7_asTold 41 = .ok (.iadd, 1) := by decide +kernel
theorem dX7_asTold_42 : decode cX7_asTold 42 = .ok (.iaload, 1) := by decide +kernel
theorem dX7_asTold_43 : decode cX7_asTold 43 = .ok (.iastore, 1) := by decide +kernel
theorem dX7_asTold_44 : decode cX7_asTold 44 = .ok (.aload_n 0, 1) := by decide +kernel
theorem dX7_asTold_45 : decode cX7_asTold 45 = .ok (.getfield 28, 3) := by decide +kernel
theorem dX7_asTold_48 : decode cX7_asTold 48 = .ok (.iload_n 2, 1) := by decide +kernel
theorem dX7_asTold_49 : decode cX7_asTold 49 = .ok (.aload_n 0, 1) := by decide +kernel
theorem dX7_asTold_50 : decode cX7_asTold 50 = .ok (.getfield 133, 3) := by decide +kernel
theorem dX7_asTold_53 : decode cX7_asTold 53 = .ok (.ifCond .le 9, 3) := by decide +kernel
theorem dX7_asTold_56 : decode cX7_asTold 56 = .ok (.iload_n 1, 1) := by decide +kernel
theorem dX7_asTold_57 : decode cX7_asTold 57 = .ok (.iconst 3, 1) := by decide +kernel
theorem dX7_asTold_58 : decode cX7_asTold 58 = .ok (.irem, 1) := by decide +kernel
theorem dX7_asTold_59 : decode cX7_asTold 59 = .ok (.goto 9, 3) := by decide +kernel
theorem dX7_asTold_62 : decode cX7_asTold 62 = .ok (.aload_n 0, 1) := by decide +kernel
theorem dX7_asTold_63 : decode cX7_asTold 63 = .ok (.getfield 25, 3) := by decide +kernel
theorem dX7_asTold_66 : decode cX7_asTold 66 = .ok (.iload_n 2, 1) := by decide +kernel
theorem dX7_asTold_67 : decode cX7_asTold 67 = .ok (.iaload, 1) := by decide +kernel
theorem dX7_asTold_68 : decode cX7_asTold 68 = .ok (.iastore, 1) := by decide +kernel
theorem dX7_asTold_69 : decode cX7_asTold 69 = .ok (.iload_n 1, 1) := by decide +kernel
theorem dX7_asTold_70 : decode cX7_asTold 70 = .ok (.iconst 3, 1) := by decide +kernel
theorem dX7_asTold_71 : decode cX7_asTold 71 = .ok (.idiv, 1) := by decide +kernel
theorem dX7_asTold_72 : decode cX7_asTold 72 = .ok (.istore_n 1, 1) := by decide +kernel
theorem dX7_asTold_73 : decode cX7_asTold 73 = .ok (.iinc 2 1, 3) := by decide +kernel
theorem dX7_asTold_76 : decode cX7_asTold 76 = .ok (.goto (-69), 3) := by decide +kernel
theorem dX7_asTold_79 : decode cX7_asTold 79 = .ok (.aload_n 0, 1) := by decide +kernel
theorem dX7_asTold_80 : decode cX7_asTold 80 = .ok (.aload_n 0, 1) := by decide +kernel
theorem dX7_asTold_81 : decode cX7_asTold 81 = .ok (.getfield 133, 3) := by decide +kernel
theorem dX7_asTold_84 : decode cX7_asTold 84 = .ok (.putfield 185, 3) := by decide +kernel
theorem dX7_asTold_87 : decode cX7_asTold 87 = .ok (.aload_n 0, 1) := by decide +kernel
theorem dX7_asTold_88 : decode cX7_asTold 88 = .ok (.aload_n 0, 1) := by decide +kernel
theorem dX7_asTold_89 : decode cX7_asTold 89 = .ok (.getfield 7, 3) := by decide +kernel
theorem dX7_asTold_92 : decode cX7_asTold 92 = .ok (.iconst 0, 1) := by decide +kernel
theorem dX7_asTold_93 : decode cX7_asTold 93 = .ok (.iaload, 1) := by decide +kernel
theorem dX7_asTold_94 : decode cX7_asTold 94 = .ok (.putfield 188, 3) := by decide +kernel
theorem dX7_asTold_97 : decode cX7_asTold 97 = .ok (.aload_n 0, 1) := by decide +kernel
theorem dX7_asTold_98 : decode cX7_asTold 98 = .ok (.bipush (-4), 2) := by decide +kernel
theorem dX7_asTold_100 : decode cX7_asTold 100 = .ok (.putfield 191, 3) := by decide +kernel
theorem dX7_asTold_103 : decode cX7_asTold 103 = .ok (.return_, 1) := by decide +kernel
theorem dX7_isOn_0 : decode cX7_isOn 0 = .ok (.aload_n 0, 1) := by decide +kernel
theorem dX7_isOn_1 : decode cX7_isOn 1 = .ok (.getfield 34, 3) := by decide +kernel
theorem dX7_isOn_4 : decode cX7_isOn 4 = .ok (.iload_n 1, 1) := by decide +kernel
theorem dX7_isOn_5 : decode cX7_isOn 5 = .ok (.iaload, 1) := by decide +kernel
theorem dX7_isOn_6 : decode cX7_isOn 6 = .ok (.iconst 2, 1) := by decide +kernel
theorem dX7_isOn_7 : decode cX7_isOn 7 = .ok (.if_icmp .ne 17, 3) := by decide +kernel
theorem dX7_isOn_10 : decode cX7_isOn 10 = .ok (.aload_n 0, 1) := by decide +kernel
theorem dX7_isOn_11 : decode cX7_isOn 11 = .ok (.getfield 40, 3) := by decide +kernel
theorem dX7_isOn_14 : decode cX7_isOn 14 = .ok (.iload_n 1, 1) := by decide +kernel
theorem dX7_isOn_15 : decode cX7_isOn 15 = .ok (.iaload, 1) := by decide +kernel
theorem dX7_isOn_16 : decode cX7_isOn 16 = .ok (.iload_n 2, 1) := by decide +kernel
theorem dX7_isOn_17 : decode cX7_isOn 17 = .ok (.if_icmp .ne 7, 3) := by decide +kernel
theorem dX7_isOn_20 : decode cX7_isOn 20 = .ok (.iconst 1, 1) := by decide +kernel
theorem dX7_isOn_21 : decode cX7_isOn 21 = .ok (.goto 4, 3) := by decide +kernel
theorem dX7_isOn_24 : decode cX7_isOn 24 = .ok (.iconst 0, 1) := by decide +kernel
theorem dX7_isOn_25 : decode cX7_isOn 25 = .ok (.ireturn, 1) := by decide +kernel
theorem dX7_who_0 : decode cX7_who 0 = .ok (.bipush (-4), 2) := by decide +kernel
theorem dX7_who_2 : decode cX7_who 2 = .ok (.istore 4, 2) := by decide +kernel
theorem dX7_who_4 : decode cX7_who 4 = .ok (.iconst 0, 1) := by decide +kernel
theorem dX7_who_5 : decode cX7_who 5 = .ok (.istore 5, 2) := by decide +kernel
theorem dX7_who_7 : decode cX7_who 7 = .ok (.iload 5, 2) := by decide +kernel
theorem dX7_who_9 : decode cX7_who 9 = .ok (.aload_n 0, 1) := by decide +kernel
theorem dX7_who_10 : decode cX7_who 10 = .ok (.getfield 105, 3) := by decide +kernel
theorem dX7_who_13 : decode cX7_who 13 = .ok (.if_icmp .ge 73, 3) := by decide +kernel
theorem dX7_who_16 : decode cX7_who 16 = .ok (.aload_n 0, 1) := by decide +kernel
theorem dX7_who_17 : decode cX7_who 17 = .ok (.iload 5, 2) := by decide +kernel
theorem dX7_who_19 : decode cX7_who 19 = .ok (.iload_n 1, 1) := by decide +kernel
theorem dX7_who_20 : decode cX7_who 20 = .ok (.invokevirtual 194, 3) := by decide +kernel
theorem dX7_who_23 : decode cX7_who 23 = .ok (.ifCond .eq 18, 3) := by decide +kernel
theorem dX7_who_26 : decode cX7_who 26 = .ok (.aload_n 0, 1) := by decide +kernel
theorem dX7_who_27 : decode cX7_who 27 = .ok (.getfield 43, 3) := by decide +kernel
theorem dX7_who_30 : decode cX7_who 30 = .ok (.iload 5, 2) := by decide +kernel
theorem dX7_who_32 : decode cX7_who 32 = .ok (.iaload, 1) := by decide +kernel
theorem dX7_who_33 : decode cX7_who 33 = .ok (.iload_n 2, 1) := by decide +kernel
theorem dX7_who_34 : decode cX7_who 34 = .ok (.if_icmp .ne 7, 3) := by decide +kernel
theorem dX7_who_37 : decode cX7_who 37 = .ok (.iconst 1, 1) := by decide +kernel
theorem dX7_who_38 : decode cX7_who 38 = .ok (.goto 4, 3) := by decide +kernel
theorem dX7_who_41 : decode cX7_who 41 = .ok (.iconst 0, 1) := by decide +kernel
theorem dX7_who_42 : decode cX7_who 42 = .ok (.istore 6, 2) := by decide +kernel
theorem dX7_who_44 : decode cX7_who 44 = .ok (.iload 6, 2) := by decide +kernel
theorem dX7_who_46 : decode cX7_who 46 = .ok (.ifCond .eq 30, 3) := by decide +kernel
theorem dX7_who_49 : decode cX7_who 49 = .ok (.aload_n 0, 1) := by decide +kernel
theorem dX7_who_50 : decode cX7_who 50 = .ok (.getfield 46, 3) := by decide +kernel
theorem dX7_who_53 : decode cX7_who 53 = .ok (.iload 5, 2) := by decide +kernel
theorem dX7_who_55 : decode cX7_who 55 = .ok (.iaload, 1) := by decide +kernel
theorem dX7_who_56 : decode cX7_who 56 = .ok (.iload_n 3, 1) := by decide +kernel
theorem dX7_who_57 : decode cX7_who 57 = .ok (.if_icmp .eq 14, 3) := by decide +kernel
theorem dX7_who_60 : decode cX7_who 60 = .ok (.aload_n 0, 1) := by decide +kernel
theorem dX7_who_61 : decode cX7_who 61 = .ok (.getfield 37, 3) := by decide +kernel
theorem dX7_who_64 : decode cX7_who 64 = .ok (.iload 5, 2) := by decide +kernel
theorem dX7_who_66 : decode cX7_who 66 = .ok (.iaload, 1) := by decide +kernel
theorem dX7_who_67 : decode cX7_who 67 = .ok (.iconst 2, 1) := by decide +kernel
theorem dX7_who_68 : decode cX7_who 68 = .ok (.if_icmp .ne 8, 3) := by decide +kernel
theorem dX7_who_71 : decode cX7_who 71 = .ok (.iload 5, 2) := by decide +kernel
theorem dX7_who_73 : decode cX7_who 73 = .ok (.goto 5, 3) := by decide +kernel
theorem dX7_who_76 : decode cX7_who 76 = .ok (.iload 4, 2) := by decide +kernel
theorem dX7_who_78 : decode cX7_who 78 = .ok (.istore 4, 2) := by decide +kernel
theorem dX7_who_80 : decode cX7_who 80 = .ok (.iinc 5 1, 3) := by decide +kernel
theorem dX7_who_83 : decode cX7_who 83 = .ok (.goto (-76), 3) := by decide +kernel
theorem dX7_who_86 : decode cX7_who 86 = .ok (.iload 4, 2) := by decide +kernel
theorem dX7_who_88 : decode cX7_who 88 = .ok (.ireturn, 1) := by decide +kernel
theorem dX7_weight_0 : decode cX7_weight 0 = .ok (.iconst 0, 1) := by decide +kernel
theorem dX7_weight_1 : decode cX7_weight 1 = .ok (.istore_n 2, 1) := by decide +kernel
theorem dX7_weight_2 : decode cX7_weight 2 = .ok (.iconst 0, 1) := by decide +kernel
theorem dX7_weight_3 : decode cX7_weight 3 = .ok (.istore_n 3, 1) := by decide +kernel
theorem dX7_weight_4 : decode cX7_weight 4 = .ok (.iload_n 3, 1) := by decide +kernel
theorem dX7_weight_5 : decode cX7_weight 5 = .ok (.aload_n 0, 1) := by decide +kernel
theorem dX7_weight_6 : decode cX7_weight 6 = .ok (.getfield 105, 3) := by decide +kernel
theorem dX7_weight_9 : decode cX7_weight 9 = .ok (.if_icmp .ge 34, 3) := by decide +kernel
theorem dX7_weight_12 : decode cX7_weight 12 = .ok (.iload_n 2, 1) := by decide +kernel
theorem dX7_weight_13 : decode cX7_weight 13 = .ok (.aload_n 0, 1) := by decide +kernel
theorem dX7_weight_14 : decode cX7_weight 14 = .ok (.iload_n 3, 1) := by decide +kernel
theorem dX7_weight_15 : decode cX7_weight 15 = .ok (.iload_n 1, 1) := by decide +kernel
theorem dX7_weight_16 : decode cX7_weight 16 = .ok (.invokevirtual 194, 3) := by decide +kernel
theorem dX7_weight_19 : decode cX7_weight 19 = .ok (.ifCond .eq 15, 3) := by decide +kernel
theorem dX7_weight_22 : decode cX7_weight 22 = .ok (.aload_n 0, 1) := by decide +kernel
theorem dX7_weight_23 : decode cX7_weight 23 = .ok (.getfield 37, 3) := by decide +kernel
theorem dX7_weight_26 : decode cX7_weight 26 = .ok (.iload_n 3, 1) := by decide +kernel
theorem dX7_weight_27 : decode cX7_weight 27 = .ok (.iaload, 1) := by decide +kernel
theorem dX7_weight_28 : decode cX7_weight 28 = .ok (.invokestatic 148, 3) := by decide +kernel
theorem dX7_weight_31 : decode cX7_weight 31 = .ok (.goto 4, 3) := by decide +kernel
theorem dX7_weight_34 : decode cX7_weight 34 = .ok (.iconst 0, 1) := by decide +kernel
theorem dX7_weight_35 : decode cX7_weight 35 = .ok (.iadd, 1) := by decide +kernel
theorem dX7_weight_36 : decode cX7_weight 36 = .ok (.istore_n 2, 1) := by decide +kernel
theorem dX7_weight_37 : decode cX7_weight 37 = .ok (.iinc 3 1, 3) := by decide +kernel
theorem dX7_weight_40 : decode cX7_weight 40 = .ok (.goto (-36), 3) := by decide +kernel
theorem dX7_weight_43 : decode cX7_weight 43 = .ok (.iload_n 2, 1) := by decide +kernel
theorem dX7_weight_44 : decode cX7_weight 44 = .ok (.ireturn, 1) := by decide +kernel
theorem dX7_goes_0 : decode cX7_goes 0 = .ok (.aload_n 0, 1) := by decide +kernel
theorem dX7_goes_1 : decode cX7_goes 1 = .ok (.getfield 67, 3) := by decide +kernel
theorem dX7_goes_4 : decode cX7_goes 4 = .ok (.iload_n 1, 1) := by decide +kernel
theorem dX7_goes_5 : decode cX7_goes 5 = .ok (.iaload, 1) := by decide +kernel
theorem dX7_goes_6 : decode cX7_goes 6 = .ok (.ifCond .le 16, 3) := by decide +kernel
theorem dX7_goes_9 : decode cX7_goes 9 = .ok (.aload_n 0, 1) := by decide +kernel
theorem dX7_goes_10 : decode cX7_goes 10 = .ok (.getfield 70, 3) := by decide +kernel
theorem dX7_goes_13 : decode cX7_goes 13 = .ok (.iload_n 1, 1) := by decide +kernel
theorem dX7_goes_14 : decode cX7_goes 14 = .ok (.iaload, 1) := by decide +kernel
theorem dX7_goes_15 : decode cX7_goes 15 = .ok (.ifCond .ne 7, 3) := by decide +kernel
theorem dX7_goes_18 : decode cX7_goes 18 = .ok (.iconst 1, 1) := by decide +kernel
theorem dX7_goes_19 : decode cX7_goes 19 = .ok (.goto 4, 3) := by decide +kernel
theorem dX7_goes_22 : decode cX7_goes 22 = .ok (.iconst 0, 1) := by decide +kernel
theorem dX7_goes_23 : decode cX7_goes 23 = .ok (.ireturn, 1) := by decide +kernel
theorem dX7_changes_0 : decode cX7_changes 0 = .ok (.iconst 0, 1) := by decide +kernel
theorem dX7_changes_1 : decode cX7_changes 1 = .ok (.istore_n 2, 1) := by decide +kernel
theorem dX7_changes_2 : decode cX7_changes 2 = .ok (.iload_n 2, 1) := by decide +kernel
theorem dX7_changes_3 : decode cX7_changes 3 = .ok (.aload_n 0, 1) := by decide +kernel
theorem dX7_changes_4 : decode cX7_changes 4 = .ok (.getfield 97, 3) := by decide +kernel
theorem dX7_changes_7 : decode cX7_changes 7 = .ok (.if_icmp .ge 129, 3) := by decide +kernel
theorem dX7_changes_10 : decode cX7_changes 10 = .ok (.aload_n 0, 1) := by decide +kernel
theorem dX7_changes_11 : decode cX7_changes 11 = .ok (.getfield 67, 3) := by decide +kernel
theorem dX7_changes_14 : decode cX7_changes 14 = .ok (.iload_n 2, 1) := by decide +kernel
theorem dX7_changes_15 : decode cX7_changes 15 = .ok (.iaload, 1) := by decide +kernel
theorem dX7_changes_16 : decode cX7_changes 16 = .ok (.istore_n 3, 1) := by decide +kernel
theorem dX7_changes_17 : decode cX7_changes 17 = .ok (.aload_n 0, 1) := by decide +kernel
theorem dX7_changes_18 : decode cX7_changes 18 = .ok (.getfield 67, 3) := by decide +kernel
theorem dX7_changes_21 : decode cX7_changes 21 = .ok (.iload_n 2, 1) := by decide +kernel
theorem dX7_changes_22 : decode cX7_changes 22 = .ok (.aload_n 0, 1) := by decide +kernel
theorem dX7_changes_23 : decode cX7_changes 23 = .ok (.getfield 28, 3) := by decide +kernel
theorem dX7_changes_26 : decode cX7_changes 26 = .ok (.iload_n 2, 1) := by decide +kernel
theorem dX7_changes_27 : decode cX7_changes 27 = .ok (.iaload, 1) := by decide +kernel
theorem dX7_changes_28 : decode cX7_changes 28 = .ok (.iastore, 1) := by decide +kernel
theorem dX7_changes_29 : decode cX7_changes 29 = .ok (.iconst 0, 1) := by decide +kernel
theorem dX7_changes_30 : decode cX7_changes 30 = .ok (.istore 4, 2) := by decide +kernel
theorem dX7_changes_32 : decode cX7_changes 32 = .ok (.iload 4, 2) := by decide +kernel
theorem dX7_changes_34 : decode cX7_changes 34 = .ok (.aload_n 0, 1) := by decide +kernel
theorem dX7_changes_35 : decode cX7_changes 35 = .ok (.getfield 105, 3) := by decide +kernel
theorem dX7_changes_38 : decode cX7_changes 38 = .ok (.if_icmp .ge 92, 3) := by decide +kernel
theorem dX7_changes_41 : decode cX7_changes 41 = .ok (.iload_n 3, 1) := by decide +kernel
theorem dX7_changes_42 : decode cX7_changes 42 = .ok (.aload_n 0, 1) := by decide +kernel
theorem dX7_changes_43 : decode cX7_changes 43 = .ok (.getfield 67, 3) := by decide +kernel
theorem dX7_changes_46 : decode cX7_changes 46 = .ok (.iload_n 2, 1) := by decide +kernel
theorem dX7_changes_47 : decode cX7_changes 47 = .ok (.iaload, 1) := by decide +kernel
theorem dX7_changes_48 : decode cX7_changes 48 = .ok (.if_icmp .eq 82, 3) := by decide +kernel
theorem dX7_changes_51 : decode cX7_changes 51 = .ok (.aload_n 0, 1) := by decide +kernel
theorem dX7_changes_52 : decode cX7_changes 52 = .ok (.iload 4, 2) := by decide +kernel
theorem dX7_changes_54 : decode cX7_changes 54 = .ok (.iload_n 2, 1) := by decide +kernel
theorem dX7_changes_55 : decode cX7_changes 55 = .ok (.invokevirtual 194, 3) := by decide +kernel
theorem dX7_changes_58 : decode cX7_changes 58 = .ok (.ifCond .eq 31, 3) := by decide +kernel
theorem dX7_changes_61 : decode cX7_changes 61 = .ok (.aload_n 0, 1) := by decide +kernel
theorem dX7_changes_62 : decode cX7_changes 62 = .ok (.getfield 67, 3) := by decide +kernel
theorem dX7_changes_65 : decode cX7_changes 65 = .ok (.iload_n 2, 1) := by decide +kernel
theorem dX7_changes_66 : decode cX7_changes 66 = .ok (.iaload, 1) := by decide +kernel
theorem dX7_changes_67 : decode cX7_changes 67 = .ok (.ifCond .ne 22, 3) := by decide +kernel
theorem dX7_changes_70 : decode cX7_changes 70 = .ok (.aload_n 0, 1) := by decide +kernel
theorem dX7_changes_71 : decode cX7_changes 71 = .ok (.getfield 34, 3) := by decide +kernel
theorem dX7_changes_74 : decode cX7_changes 74 = .ok (.iload 4, 2) := by decide +kernel
theorem dX7_changes_76 : decode cX7_changes 76 = .ok (.iconst 4, 1) := by decide +kernel
theorem dX7_changes_77 : decode cX7_changes 77 = .ok (.iastore, 1) := by decide +kernel
theorem dX7_changes_78 : decode cX7_changes 78 = .ok (.aload_n 0, 1) := by decide +kernel
theorem dX7_changes_79 : decode cX7_changes 79 = .ok (.getfield 61, 3) := by decide +kernel
theorem dX7_changes_82 : decode cX7_changes 82 = .ok (.iload 4, 2) := by decide +kernel
theorem dX7_changes_84 : decode cX7_changes 84 = .ok (.iload_n 1, 1) := by decide +kernel
theorem dX7_changes_85 : decode cX7_changes 85 = .ok (.iastore, 1) := by decide +kernel
theorem dX7_changes_86 : decode cX7_changes 86 = .ok (.goto 38, 3) := by decide +kernel
theorem dX7_changes_89 : decode cX7_changes 89 = .ok (.aload_n 0, 1) := by decide +kernel
theorem dX7_changes_90 : decode cX7_changes 90 = .ok (.iload 4, 2) := by decide +kernel
theorem dX7_changes_92 : decode cX7_changes 92 = .ok (.iload_n 2, 1) := by decide +kernel
theorem dX7_changes_93 : decode cX7_changes 93 = .ok (.invokevirtual 194, 3) := by decide +kernel
theorem dX7_changes_96 : decode cX7_changes 96 = .ok (.ifCond .eq 28, 3) := by decide +kernel
theorem dX7_changes_99 : decode cX7_changes 99 = .ok (.aload_n 0, 1) := by decide +kernel
theorem dX7_changes_100 : decode cX7_changes 100 = .ok (.getfield 43, 3) := by decide +kernel
theorem dX7_changes_103 : decode cX7_changes 103 = .ok (.iload 4, 2) := by decide +kernel
theorem dX7_changes_105 : decode cX7_changes 105 = .ok (.aload_n 0, 1) := by decide +kernel
theorem dX7_changes_106 : decode cX7_changes 106 = .ok (.getfield 13, 3) := by decide +kernel
theorem dX7_changes_109 : decode cX7_changes 109 = .ok (.iconst 3, 1) := by decide +kernel
theorem dX7_changes_110 : decode cX7_changes 110 = .ok (.iload_n 2, 1) := by decide +kernel
theorem dX7_changes_111 : decode cX7_changes 111 = .ok (.imul, 1) := by decide +kernel
theorem dX7_changes_112 : decode cX7_changes 112 = .ok (.iaload, 1) := by decide +kernel
theorem dX7_changes_113 : decode cX7_changes 113 = .ok (.iconst 1, 1) := by decide +kernel
theorem dX7_changes_114 : decode cX7_changes 114 = .ok (.isub, 1) := by decide +kernel
theorem dX7_changes_115 : decode cX7_changes 115 = .ok (.aload_n 0, 1) := by decide +kernel
theorem dX7_changes_116 : decode cX7_changes 116 = .ok (.getfield 43, 3) := by decide +kernel
theorem dX7_changes_119 : decode cX7_changes 119 = .ok (.iload 4, 2) := by decide +kernel
theorem dX7_changes_121 : decode cX7_changes 121 = .ok (.iaload, 1) := by decide +kernel
theorem dX7_changes_122 : decode cX7_changes 122 = .ok (.isub, 1) := by decide +kernel
theorem dX7_changes_123 : decode cX7_changes 123 = .ok (.iastore, 1) := by decide +kernel
theorem dX7_changes_124 : decode cX7_changes 124 = .ok (.iinc 4 1, 3) := by decide +kernel
theorem dX7_changes_127 : decode cX7_changes 127 = .ok (.goto (-95), 3) := by decide +kernel
theorem dX7_changes_130 : decode cX7_changes 130 = .ok (.iinc 2 1, 3) := by decide +kernel
theorem dX7_changes_133 : decode cX7_changes 133 = .ok (.goto (-131), 3) := by decide +kernel
theorem dX7_changes_136 : decode cX7_changes 136 = .ok (.return_, 1) := by decide +kernel
theorem dX7_goesOne_0 : decode cX7_goesOne 0 = .ok (.aload_n 0, 1) := by decide +kernel
theorem dX7_goesOne_1 : decode cX7_goesOne 1 = .ok (.getfield 13, 3) := by decide +kernel
theorem dX7_goesOne_4 : decode cX7_goesOne 4 = .ok (.iconst 3, 1) := by decide +kernel
theorem dX7_goesOne_5 : decode cX7_goesOne 5 = .ok (.iload_n 1, 1) := by decide +kernel
theorem dX7_goesOne_6 : decode cX7_goesOne 6 = .ok (.imul, 1) := by decide +kernel
theorem dX7_goesOne_7 : decode cX7_goesOne 7 = .ok (.iaload, 1) := by decide +kernel
theorem dX7_goesOne_8 : decode cX7_goesOne 8 = .ok (.iconst 1, 1) := by decide +kernel
theorem dX7_goesOne_9 : decode cX7_goesOne 9 = .ok (.isub, 1) := by decide +kernel
theorem dX7_goesOne_10 : decode cX7_goesOne 10 = .ok (.istore_n 3, 1) := by decide +kernel
theorem dX7_goesOne_11 : decode cX7_goesOne 11 = .ok (.aload_n 0, 1) := by decide +kernel
theorem dX7_goesOne_12 : decode cX7_goesOne 12 = .ok (.getfield 67, 3) := by decide +kernel
theorem dX7_goesOne_15 : decode cX7_goesOne 15 = .ok (.iload_n 1, 1) := by decide +kernel
theorem dX7_goesOne_16 : decode cX7_goesOne 16 = .ok (.iaload, 1) := by decide +kernel
theorem dX7_goesOne_17 : decode cX7_goesOne 17 = .ok (.iconst 1, 1) := by decide +kernel
theorem dX7_goesOne_18 : decode cX7_goesOne 18 = .ok (.if_icmp .ne 7, 3) := by decide +kernel
theorem dX7_goesOne_21 : decode cX7_goesOne 21 = .ok (.iconst 1, 1) := by decide +kernel
theorem dX7_goesOne_22 : decode cX7_goesOne 22 = .ok (.goto 4, 3) := by decide +kernel
theorem dX7_goesOne_25 : decode cX7_goesOne 25 = .ok (.iconst 0, 1) := by decide +kernel
theorem dX7_goesOne_26 : decode cX7_goesOne 26 = .ok (.istore 4, 2) := by decide +kernel
theorem dX7_goesOne_28 : decode cX7_goesOne 28 = .ok (.iconst 0, 1) := by decide +kernel
theorem dX7_goesOne_29 : decode cX7_goesOne 29 = .ok (.istore 5, 2) := by decide +kernel
theorem dX7_goesOne_31 : decode cX7_goesOne 31 = .ok (.iconst 0, 1) := by decide +kernel
theorem dX7_goesOne_32 : decode cX7_goesOne 32 = .ok (.istore 6, 2) := by decide +kernel
theorem dX7_goesOne_34 : decode cX7_goesOne 34 = .ok (.iconst 0, 1) := by decide +kernel
theorem dX7_goesOne_35 : decode cX7_goesOne 35 = .ok (.istore 7, 2) := by decide +kernel
theorem dX7_goesOne_37 : decode cX7_goesOne 37 = .ok (.iload 7, 2) := by decide +kernel
theorem dX7_goesOne_39 : decode cX7_goesOne 39 = .ok (.aload_n 0, 1) := by decide +kernel
theorem dX7_goesOne_40 : decode cX7_goesOne 40 = .ok (.getfield 105, 3) := by decide +kernel
theorem dX7_goesOne_43 : decode cX7_goesOne 43 = .ok (.if_icmp .ge 73, 3) := by decide +kernel
theorem dX7_goesOne_46 : decode cX7_goesOne 46 = .ok (.iload 5, 2) := by decide +kernel
theorem dX7_goesOne_48 : decode cX7_goesOne 48 = .ok (.aload_n 0, 1) := by decide +kernel
theorem dX7_goesOne_49 : decode cX7_goesOne 49 = .ok (.iload 7, 2) := by decide +kernel
theorem dX7_goesOne_51 : decode cX7_goesOne 51 = .ok (.iload_n 1, 1) := by decide +kernel
theorem dX7_goesOne_52 : decode cX7_goesOne 52 = .ok (.invokevirtual 194, 3) := by decide +kernel
theorem dX7_goesOne_55 : decode cX7_goesOne 55 = .ok (.ifCond .eq 18, 3) := by decide +kernel
theorem dX7_goesOne_58 : decode cX7_goesOne 58 = .ok (.aload_n 0, 1) := by decide +kernel
theorem dX7_goesOne_59 : decode cX7_goesOne 59 = .ok (.getfield 43, 3) := by decide +kernel
theorem dX7_goesOne_62 : decode cX7_goesOne 62 = .ok (.iload 7, 2) := by decide +kernel
theorem dX7_goesOne_64 : decode cX7_goesOne 64 = .ok (.iaload, 1) := by decide +kernel
theorem dX7_goesOne_65 : decode cX7_goesOne 65 = .ok (.iload_n 3, 1) := by decide +kernel
theorem dX7_goesOne_66 : decode cX7_goesOne 66 = .ok (.if_icmp .ne 7, 3) := by decide +kernel
theorem dX7_goesOne_69 : decode cX7_goesOne 69 = .ok (.iconst 1, 1) := by decide +kernel
theorem dX7_goesOne_70 : decode cX7_goesOne 70 = .ok (.goto 4, 3) := by decide +kernel
theorem dX7_goesOne_73 : decode cX7_goesOne 73 = .ok (.iconst 0, 1) := by decide +kernel
theorem dX7_goesOne_74 : decode cX7_goesOne 74 = .ok (.iadd, 1) := by decide +kernel
theorem dX7_goesOne_75 : decode cX7_goesOne 75 = .ok (.istore 5, 2) := by decide +kernel
theorem dX7_goesOne_77 : decode cX7_goesOne 77 = .ok (.iload 6, 2) := by decide +kernel
theorem dX7_goesOne_79 : decode cX7_goesOne 79 = .ok (.aload_n 0, 1) := by decide +kernel
theorem dX7_goesOne_80 : decode cX7_goesOne 80 = .ok (.getfield 34, 3) := by decide +kernel
theorem dX7_goesOne_83 : decode cX7_goesOne 83 = .ok (.iload 7, 2) := by decide +kernel
theorem dX7_goesOne_85 : decode cX7_goesOne 85 = .ok (.iaload, 1) := by decide +kernel
theorem dX7_goesOne_86 : decode cX7_goesOne 86 = .ok (.iconst 3, 1) := by decide +kernel
theorem dX7_goesOne_87 : decode cX7_goesOne 87 = .ok (.if_icmp .ne 19, 3) := by decide +kernel
theorem dX7_goesOne_90 : decode cX7_goesOne 90 = .ok (.aload_n 0, 1) := by decide +kernel
theorem dX7_goesOne_91 : decode cX7_goesOne 91 = .ok (.getfield 49, 3) := by decide +kernel
theorem dX7_goesOne_94 : decode cX7_goesOne 94 = .ok (.iload 7, 2) := by decide +kernel
theorem dX7_goesOne_96 : decode cX7_goesOne 96 = .ok (.iaload, 1) := by decide +kernel
theorem dX7_goesOne_97 : decode cX7_goesOne 97 = .ok (.iload 4, 2) := by decide +kernel
theorem dX7_goesOne_99 : decode cX7_goesOne 99 = .ok (.if_icmp .ne 7, 3) := by decide +kernel
theorem dX7_goesOne_102 : decode cX7_goesOne 102 = .ok (.iconst 1, 1) := by decide +kernel
theorem dX7_goesOne_103 : decode cX7_goesOne 103 = .ok (.goto 4, 3) := by decide +kernel
theorem dX7_goesOne_106 : decode cX7_goesOne 106 = .ok (.iconst 0, 1) := by decide +kernel
theorem dX7_goesOne_107 : decode cX7_goesOne 107 = .ok (.iadd, 1) := by decide +kernel
theorem dX7_goesOne_108 : decode cX7_goesOne 108 = .ok (.istore 6, 2) := by decide +kernel
theorem dX7_goesOne_110 : decode cX7_goesOne 110 = .ok (.iinc 7 1, 3) := by decide +kernel
theorem dX7_goesOne_113 : decode cX7_goesOne 113 = .ok (.goto (-76), 3) := by decide +kernel
theorem dX7_goesOne_116 : decode cX7_goesOne 116 = .ok (.iload 5, 2) := by decide +kernel
theorem dX7_goesOne_118 : decode cX7_goesOne 118 = .ok (.aload_n 0, 1) := by decide +kernel
theorem dX7_goesOne_119 : decode cX7_goesOne 119 = .ok (.getfield 7, 3) := by decide +kernel
theorem dX7_goesOne_122 : decode cX7_goesOne 122 = .ok (.iconst 1, 1) := by decide +kernel
theorem dX7_goesOne_123 : decode cX7_goesOne 123 = .ok (.iaload, 1) := by decide +kernel
theorem dX7_goesOne_124 : decode cX7_goesOne 124 = .ok (.iload 6, 2) := by decide +kernel
theorem dX7_goesOne_126 : decode cX7_goesOne 126 = .ok (.isub, 1) := by decide +kernel
theorem dX7_goesOne_127 : decode cX7_goesOne 127 = .ok (.if_icmp .le 15, 3) := by decide +kernel
theorem dX7_goesOne_130 : decode cX7_goesOne 130 = .ok (.aload_n 0, 1) := by decide +kernel
theorem dX7_goesOne_131 : decode cX7_goesOne 131 = .ok (.dup, 1) := by decide +kernel
theorem dX7_goesOne_132 : decode cX7_goesOne 132 = .ok (.getfield 197, 3) := by decide +kernel
theorem dX7_goesOne_135 : decode cX7_goesOne 135 = .ok (.iconst 1, 1) := by decide +kernel
theorem dX7_goesOne_136 : decode cX7_goesOne 136 = .ok (.iadd, 1) := by decide +kernel
theorem dX7_goesOne_137 : decode cX7_goesOne 137 = .ok (.putfield 197, 3) := by decide +kernel
theorem dX7_goesOne_140 : decode cX7_goesOne 140 = .ok (.iconst 0, 1) := by decide +kernel
theorem dX7_goesOne_141 : decode cX7_goesOne 141 = .ok (.ireturn, 1) := by decide +kernel
theorem dX7_goesOne_142 : decode cX7_goesOne 142 = .ok (.iconst 0, 1) := by decide +kernel
theorem dX7_goesOne_143 : decode cX7_goesOne 143 = .ok (.istore 7, 2) := by decide +kernel
theorem dX7_goesOne_145 : decode cX7_goesOne 145 = .ok (.iload 7, 2) := by decide +kernel
theorem dX7_goesOne_147 : decode cX7_goesOne 147 = .ok (.aload_n 0, 1) := by decide +kernel
theorem dX7_goesOne_148 : decode cX7_goesOne 148 = .ok (.getfield 105, 3) := by decide +kernel
theorem dX7_goesOne_151 : decode cX7_goesOne 151 = .ok (.if_icmp .ge 79, 3) := by decide +kernel
theorem dX7_goesOne_154 : decode cX7_goesOne 154 = .ok (.aload_n 0, 1) := by decide +kernel
theorem dX7_goesOne_155 : decode cX7_goesOne 155 = .ok (.iload 7, 2) := by decide +kernel
theorem dX7_goesOne_157 : decode cX7_goesOne 157 = .ok (.iload_n 1, 1) := by decide +kernel
theorem dX7_goesOne_158 : decode cX7_goesOne 158 = .ok (.invokevirtual 194, 3) := by decide +kernel
theorem dX7_goesOne_161 : decode cX7_goesOne 161 = .ok (.ifCond .eq 42, 3) := by decide +kernel
theorem dX7_goesOne_164 : decode cX7_goesOne 164 = .ok (.aload_n 0, 1) := by decide +kernel
theorem dX7_goesOne_165 : decode cX7_goesOne 165 = .ok (.getfield 43, 3) := by decide +kernel
theorem dX7_goesOne_168 : decode cX7_goesOne 168 = .ok (.iload 7, 2) := by decide +kernel
theorem dX7_goesOne_170 : decode cX7_goesOne 170 = .ok (.iaload, 1) := by decide +kernel
theorem dX7_goesOne_171 : decode cX7_goesOne 171 = .ok (.iload_n 3, 1) := by decide +kernel
theorem dX7_goesOne_172 : decode cX7_goesOne 172 = .ok (.if_icmp .ne 31, 3) := by decide +kernel
theorem dX7_goesOne_175 : decode cX7_goesOne 175 = .ok (.aload_n 0, 1) := by decide +kernel
theorem dX7_goesOne_176 : decode cX7_goesOne 176 = .ok (.getfield 34, 3) := by decide +kernel
theorem dX7_goesOne_179 : decode cX7_goesOne 179 = .ok (.iload 7, 2) := by decide +kernel
theorem dX7_goesOne_181 : decode cX7_goesOne 181 = .ok (.iconst 3, 1) := by decide +kernel
theorem dX7_goesOne_182 : decode cX7_goesOne 182 = .ok (.iastore, 1) := by decide +kernel
theorem dX7_goesOne_183 : decode cX7_goesOne 183 = .ok (.aload_n 0, 1) := by decide +kernel
theorem dX7_goesOne_184 : decode cX7_goesOne 184 = .ok (.getfield 49, 3) := by decide +kernel
theorem dX7_goesOne_187 : decode cX7_goesOne 187 = .ok (.iload 7, 2) := by decide +kernel
theorem dX7_goesOne_189 : decode cX7_goesOne 189 = .ok (.iload 4, 2) := by decide +kernel
theorem dX7_goesOne_191 : decode cX7_goesOne 191 = .ok (.iastore, 1) := by decide +kernel
theorem dX7_goesOne_192 : decode cX7_goesOne 192 = .ok (.aload_n 0, 1) := by decide +kernel
theorem dX7_goesOne_193 : decode cX7_goesOne 193 = .ok (.getfield 52, 3) := by decide +kernel
theorem dX7_goesOne_196 : decode cX7_goesOne 196 = .ok (.iload 7, 2) := by decide +kernel
theorem dX7_goesOne_198 : decode cX7_goesOne 198 = .ok (.iload_n 2, 1) := by decide +kernel
theorem dX7_goesOne_199 : decode cX7_goesOne 199 = .ok (.iastore, 1) := by decide +kernel
theorem dX7_goesOne_200 : decode cX7_goesOne 200 = .ok (.goto 24, 3) := by decide +kernel
theorem dX7_goesOne_203 : decode cX7_goesOne 203 = .ok (.aload_n 0, 1) := by decide +kernel
theorem dX7_goesOne_204 : decode cX7_goesOne 204 = .ok (.iload 7, 2) := by decide +kernel
theorem dX7_goesOne_206 : decode cX7_goesOne 206 = .ok (.iload_n 1, 1) := by decide +kernel
theorem dX7_goesOne_207 : decode cX7_goesOne 207 = .ok (.invokevirtual 194, 3) := by decide +kernel
theorem dX7_goesOne_210 : decode cX7_goesOne 210 = .ok (.ifCond .eq 14, 3) := by decide +kernel
theorem dX7_goesOne_213 : decode cX7_goesOne 213 = .ok (.aload_n 0, 1) := by decide +kernel
theorem dX7_goesOne_214 : decode cX7_goesOne 214 = .ok (.getfield 43, 3) := by decide +kernel
theorem dX7_goesOne_217 : decode cX7_goesOne 217 = .ok (.iload 7, 2) := by decide +kernel
theorem dX7_goesOne_219 : decode cX7_goesOne 219 = .ok (.dup2, 1) := by decide +kernel
theorem dX7_goesOne_220 : decode cX7_goesOne 220 = .ok (.iaload, 1) := by decide +kernel
theorem dX7_goesOne_221 : decode cX7_goesOne 221 = .ok (.iconst 1, 1) := by decide +kernel
theorem dX7_goesOne_222 : decode cX7_goesOne 222 = .ok (.iadd, 1) := by decide +kernel
theorem dX7_goesOne_223 : decode cX7_goesOne 223 = .ok (.iastore, 1) := by decide +kernel
theorem dX7_goesOne_224 : decode cX7_goesOne 224 = .ok (.iinc 7 1, 3) := by decide +kernel
theorem dX7_goesOne_227 : decode cX7_goesOne 227 = .ok (.goto (-82), 3) := by decide +kernel
theorem dX7_goesOne_230 : decode cX7_goesOne 230 = .ok (.iconst 1, 1) := by decide +kernel
theorem dX7_goesOne_231 : decode cX7_goesOne 231 = .ok (.ireturn, 1) := by decide +kernel
theorem dX7_walks_0 : decode cX7_walks 0 = .ok (.aload_n 0, 1) := by decide +kernel
theorem dX7_walks_1 : decode cX7_walks 1 = .ok (.getfield 13, 3) := by decide +kernel
theorem dX7_walks_4 : decode cX7_walks 4 = .ok (.iconst 3, 1) := by decide +kernel
theorem dX7_walks_5 : decode cX7_walks 5 = .ok (.iload_n 1, 1) := by decide +kernel
theorem dX7_walks_6 : decode cX7_walks 6 = .ok (.imul, 1) := by decide +kernel
theorem dX7_walks_7 : decode cX7_walks 7 = .ok (.iaload, 1) := by decide +kernel
theorem dX7_walks_8 : decode cX7_walks 8 = .ok (.iconst 2, 1) := by decide +kernel
theorem dX7_walks_9 : decode cX7_walks 9 = .ok (.isub, 1) := by decide +kernel
theorem dX7_walks_10 : decode cX7_walks 10 = .ok (.istore_n 2, 1) := by decide +kernel
theorem dX7_walks_11 : decode cX7_walks 11 = .ok (.iload_n 2, 1) := by decide +kernel
theorem dX7_walks_12 : decode cX7_walks 12 = .ok (.ifCond .lt 63, 3) := by decide +kernel
theorem dX7_walks_15 : decode cX7_walks 15 = .ok (.aload_n 0, 1) := by decide +kernel
theorem dX7_walks_16 : decode cX7_walks 16 = .ok (.iload_n 1, 1) := by decide +kernel
theorem dX7_walks_17 : decode cX7_walks 17 = .ok (.iload_n 2, 1) := by decide +kernel
theorem dX7_walks_18 : decode cX7_walks 18 = .ok (.iconst 1, 1) := by decide +kernel
theorem dX7_walks_19 : decode cX7_walks 19 = .ok (.invokevirtual 200, 3) := by decide +kernel
theorem dX7_walks_22 : decode cX7_walks 22 = .ok (.istore_n 3, 1) := by decide +kernel
theorem dX7_walks_23 : decode cX7_walks 23 = .ok (.iload_n 3, 1) := by decide +kernel
theorem dX7_walks_24 : decode cX7_walks 24 = .ok (.ifCond .lt 45, 3) := by decide +kernel
theorem dX7_walks_27 : decode cX7_walks 27 = .ok (.aload_n 0, 1) := by decide +kernel
theorem dX7_walks_28 : decode cX7_walks 28 = .ok (.getfield 37, 3) := by decide +kernel
theorem dX7_walks_31 : decode cX7_walks 31 = .ok (.iload_n 3, 1) := by decide +kernel
theorem dX7_walks_32 : decode cX7_walks 32 = .ok (.iaload, 1) := by decide +kernel
theorem dX7_walks_33 : decode cX7_walks 33 = .ok (.iconst 1, 1) := by decide +kernel
theorem dX7_walks_34 : decode cX7_walks 34 = .ok (.if_icmp .ne 35, 3) := by decide +kernel
theorem dX7_walks_37 : decode cX7_walks 37 = .ok (.aload_n 0, 1) := by decide +kernel
theorem dX7_walks_38 : decode cX7_walks 38 = .ok (.getfield 46, 3) := by decide +kernel
theorem dX7_walks_41 : decode cX7_walks 41 = .ok (.iload_n 3, 1) := by decide +kernel
theorem dX7_walks_42 : decode cX7_walks 42 = .ok (.iaload, 1) := by decide +kernel
theorem dX7_walks_43 : decode cX7_walks 43 = .ok (.iconst 1, 1) := by decide +kernel
theorem dX7_walks_44 : decode cX7_walks 44 = .ok (.if_icmp .ne 25, 3) := by decide +kernel
theorem dX7_walks_47 : decode cX7_walks 47 = .ok (.aload_n 0, 1) := by decide +kernel
theorem dX7_walks_48 : decode cX7_walks 48 = .ok (.iload_n 1, 1) := by decide +kernel
theorem dX7_walks_49 : decode cX7_walks 49 = .ok (.iload_n 2, 1) := by decide +kernel
theorem dX7_walks_50 : decode cX7_walks 50 = .ok (.iconst 1, 1) := by decide +kernel
theorem dX7_walks_51 : decode cX7_walks 51 = .ok (.iadd, 1) := by decide +kernel
theorem dX7_walks_52 : decode cX7_walks 52 = .ok (.iconst 1, 1) := by decide +kernel
theorem dX7_walks_53 : decode cX7_walks 53 = .ok (.invokevirtual 200, 3) := by decide +kernel
theorem dX7_walks_56 : decode cX7_walks 56 = .ok (.ifCond .ge 13, 3) := by decide +kernel
theorem dX7_walks_59 : decode cX7_walks 59 = .ok (.aload_n 0, 1) := by decide +kernel
theorem dX7_walks_60 : decode cX7_walks 60 = .ok (.getfield 43, 3) := by decide +kernel
theorem dX7_walks_63 : decode cX7_walks 63 = .ok (.iload_n 3, 1) := by decide +kernel
theorem dX7_walks_64 : decode cX7_walks 64 = .ok (.dup2, 1) := by decide +kernel
theorem dX7_walks_65 : decode cX7_walks 65 = .ok (.iaload, 1) := by decide +kernel
theorem dX7_walks_66 : decode cX7_walks 66 = .ok (.iconst 1, 1) := by decide +kernel
theorem dX7_walks_67 : decode cX7_walks 67 = .ok (.iadd, 1) := by decide +kernel
theorem dX7_walks_68 : decode cX7_walks 68 = .ok (.iastore, 1) := by decide +kernel
theorem dX7_walks_69 : decode cX7_walks 69 = .ok (.iinc 2 (-1), 3) := by decide +kernel
theorem dX7_walks_72 : decode cX7_walks 72 = .ok (.goto (-61), 3) := by decide +kernel
theorem dX7_walks_75 : decode cX7_walks 75 = .ok (.return_, 1) := by decide +kernel
theorem dX7_leaves_0 : decode cX7_leaves 0 = .ok (.iconst 0, 1) := by decide +kernel
theorem dX7_leaves_1 : decode cX7_leaves 1 = .ok (.istore_n 2, 1) := by decide +kernel
theorem dX7_leaves_2 : decode cX7_leaves 2 = .ok (.iload_n 2, 1) := by decide +kernel
theorem dX7_leaves_3 : decode cX7_leaves 3 = .ok (.iconst 2, 1) := by decide +kernel
theorem dX7_leaves_4 : decode cX7_leaves 4 = .ok (.if_icmp .ge 136, 3) := by decide +kernel
theorem dX7_leaves_7 : decode cX7_leaves 7 = .ok (.iconst 0, 1) := by decide +kernel
theorem dX7_leaves_8 : decode cX7_leaves 8 = .ok (.istore_n 3, 1) := by decide +kernel
theorem dX7_leaves_9 : decode cX7_leaves 9 = .ok (.iload_n 3, 1) := by decide +kernel
theorem dX7_leaves_10 : decode cX7_leaves 10 = .ok (.aload_n 0, 1) := by decide +kernel
theorem dX7_leaves_11 : decode cX7_leaves 11 = .ok (.getfield 7, 3) := by decide +kernel
theorem dX7_leaves_14 : decode cX7_leaves 14 = .ok (.iconst 2, 1) := by decide +kernel
theorem dX7_leaves_15 : decode cX7_leaves 15 = .ok (.iaload, 1) := by decide +kernel
theorem dX7_leaves_16 : decode cX7_leaves 16 = .ok (.if_icmp .ge 118, 3) := by decide +kernel
theorem dX7_leaves_19 : decode cX7_leaves 19 = .ok (.bipush (-4), 2) := by decide +kernel
theorem dX7_leaves_21 : decode cX7_leaves 21 = .ok (.istore 4, 2) := by decide +kernel
theorem dX7_leaves_23 : decode cX7_leaves 23 = .ok (.aload_n 0, 1) := by decide +kernel
theorem dX7_leaves_24 : decode cX7_leaves 24 = .ok (.getfield 105, 3) := by decide +kernel
theorem dX7_leaves_27 : decode cX7_leaves 27 = .ok (.iconst 1, 1) := by decide +kernel
theorem dX7_leaves_28 : decode cX7_leaves 28 = .ok (.isub, 1) := by decide +kernel
theorem dX7_leaves_29 : decode cX7_leaves 29 = .ok (.istore 5, 2) := by decide +kernel
theorem dX7_leaves_31 : decode cX7_leaves 31 = .ok (.iload 5, 2) := by decide +kernel
theorem dX7_leaves_33 : decode cX7_leaves 33 = .ok (.ifCond .lt 74, 3) := by decide +kernel
theorem dX7_leaves_36 : decode cX7_leaves 36 = .ok (.aload_n 0, 1) := by decide +kernel
theorem dX7_leaves_37 : decode cX7_leaves 37 = .ok (.getfield 34, 3) := by decide +kernel
theorem dX7_leaves_40 : decode cX7_leaves 40 = .ok (.iload 5, 2) := by decide +kernel
theorem dX7_leaves_42 : decode cX7_leaves 42 = .ok (.iaload, 1) := by decide +kernel
theorem dX7_leaves_43 : decode cX7_leaves 43 = .ok (.iconst 3, 1) := by decide +kernel
theorem dX7_leaves_44 : decode cX7_leaves 44 = .ok (.if_icmp .ne 18, 3) := by decide +kernel
theorem dX7_leaves_47 : decode cX7_leaves 47 = .ok (.aload_n 0, 1) := by decide +kernel
theorem dX7_leaves_48 : decode cX7_leaves 48 = .ok (.getfield 49, 3) := by decide +kernel
theorem dX7_leaves_51 : decode cX7_leaves 51 = .ok (.iload 5, 2) := by decide +kernel
theorem dX7_leaves_53 : decode cX7_leaves 53 = .ok (.iaload, 1) := by decide +kernel
theorem dX7_leaves_54 : decode cX7_leaves 54 = .ok (.iload_n 2, 1) := by decide +kernel
theorem dX7_leaves_55 : decode cX7_leaves 55 = .ok (.if_icmp .ne 7, 3) := by decide +kernel
theorem dX7_leaves_58 : decode cX7_leaves 58 = .ok (.iconst 1, 1) := by decide +kernel
theorem dX7_leaves_59 : decode cX7_leaves 59 = .ok (.goto 4, 3) := by decide +kernel
theorem dX7_leaves_62 : decode cX7_leaves 62 = .ok (.iconst 0, 1) := by decide +kernel
theorem dX7_leaves_63 : decode cX7_leaves 63 = .ok (.istore 6, 2) := by decide +kernel
theorem dX7_leaves_65 : decode cX7_leaves 65 = .ok (.iload 6, 2) := by decide +kernel
theorem dX7_leaves_67 : decode cX7_leaves 67 = .ok (.ifCond .eq 30, 3) := by decide +kernel
theorem dX7_leaves_70 : decode cX7_leaves 70 = .ok (.iload 4, 2) := by decide +kernel
theorem dX7_leaves_72 : decode cX7_leaves 72 = .ok (.ifCond .lt 20, 3) := by decide +kernel
theorem dX7_leaves_75 : decode cX7_leaves 75 = .ok (.aload_n 0, 1) := by decide +kernel
theorem dX7_leaves_76 : decode cX7_leaves 76 = .ok (.getfield 52, 3) := by decide +kernel
theorem dX7_leaves_79 : decode cX7_leaves 79 = .ok (.iload 5, 2) := by decide +kernel
theorem dX7_leaves_81 : decode cX7_leaves 81 = .ok (.iaload, 1) := by decide +kernel
theorem dX7_leaves_82 : decode cX7_leaves 82 = .ok (.aload_n 0, 1) := by decide +kernel
theorem dX7_leaves_83 : decode cX7_leaves 83 = .ok (.getfield 52, 3) := by decide +kernel
theorem dX7_leaves_86 : decode cX7_leaves 86 = .ok (.iload 4, 2) := by decide +kernel
theorem dX7_leaves_88 : decode cX7_leaves 88 = .ok (.iaload, 1) := by decide +kernel
theorem dX7_leaves_89 : decode cX7_leaves 89 = .ok (.if_icmp .gt 8, 3) := by decide +kernel
theorem dX7_leaves_92 : decode cX7_leaves 92 = .ok (.iload 5, 2) := by decide +kernel
theorem dX7_leaves_94 : decode cX7_leaves 94 = .ok (.goto 5, 3) := by decide +kernel
theorem dX7_leaves_97 : decode cX7_leaves 97 = .ok (.iload 4, 2) := by decide +kernel
theorem dX7_leaves_99 : decode cX7_leaves 99 = .ok (.istore 4, 2) := by decide +kernel
theorem dX7_leaves_101 : decode cX7_leaves 101 = .ok (.iinc 5 (-1), 3) := by decide +kernel
theorem dX7_leaves_104 : decode cX7_leaves 104 = .ok (.goto (-73), 3) := by decide +kernel
theorem dX7_leaves_107 : decode cX7_leaves 107 = .ok (.iload 4, 2) := by decide +kernel
theorem dX7_leaves_109 : decode cX7_leaves 109 = .ok (.ifCond .lt 19, 3) := by decide +kernel
theorem dX7_leaves_112 : decode cX7_leaves 112 = .ok (.aload_n 0, 1) := by decide +kernel
theorem dX7_leaves_113 : decode cX7_leaves 113 = .ok (.getfield 34, 3) := by decide +kernel
theorem dX7_leaves_116 : decode cX7_leaves 116 = .ok (.iload 4, 2) := by decide +kernel
theorem dX7_leaves_118 : decode cX7_leaves 118 = .ok (.iconst 4, 1) := by decide +kernel
theorem dX7_leaves_119 : decode cX7_leaves 119 = .ok (.iastore, 1) := by decide +kernel
theorem dX7_leaves_120 : decode cX7_leaves 120 = .ok (.aload_n 0, 1) := by decide +kernel
theorem dX7_leaves_121 : decode cX7_leaves 121 = .ok (.getfield 61, 3) := by decide +kernel
theorem dX7_leaves_124 : decode cX7_leaves 124 = .ok (.iload 4, 2) := by decide +kernel
theorem dX7_leaves_126 : decode cX7_leaves 126 = .ok (.iload_n 1, 1) := by decide +kernel
theorem dX7_leaves_127 : decode cX7_leaves 127 = .ok (.iastore, 1) := by decide +kernel
theorem dX7_leaves_128 : decode cX7_leaves 128 = .ok (.iinc 3 1, 3) := by decide +kernel
theorem dX7_leaves_131 : decode cX7_leaves 131 = .ok (.goto (-122), 3) := by decide +kernel
theorem dX7_leaves_134 : decode cX7_leaves 134 = .ok (.iinc 2 1, 3) := by decide +kernel
theorem dX7_leaves_137 : decode cX7_leaves 137 = .ok (.goto (-135), 3) := by decide +kernel
theorem dX7_leaves_140 : decode cX7_leaves 140 = .ok (.return_, 1) := by decide +kernel
theorem dX7_may_0 : decode cX7_may 0 = .ok (.aload_n 0, 1) := by decide +kernel
theorem dX7_may_1 : decode cX7_may 1 = .ok (.getfield 37, 3) := by decide +kernel
theorem dX7_may_4 : decode cX7_may 4 = .ok (.iload_n 1, 1) := by decide +kernel
theorem dX7_may_5 : decode cX7_may 5 = .ok (.iaload, 1) := by decide +kernel
theorem dX7_may_6 : decode cX7_may 6 = .ok (.istore 4, 2) := by decide +kernel
theorem dX7_may_8 : decode cX7_may 8 = .ok (.iconst 0, 1) := by decide +kernel
theorem dX7_may_9 : decode cX7_may 9 = .ok (.istore 5, 2) := by decide +kernel
theorem dX7_may_11 : decode cX7_may 11 = .ok (.iconst 0, 1) := by decide +kernel
theorem dX7_may_12 : decode cX7_may 12 = .ok (.istore 6, 2) := by decide +kernel
theorem dX7_may_14 : decode cX7_may 14 = .ok (.iload 6, 2) := by decide +kernel
theorem dX7_may_16 : decode cX7_may 16 = .ok (.aload_n 0, 1) := by decide +kernel
theorem dX7_may_17 : decode cX7_may 17 = .ok (.getfield 105, 3) := by decide +kernel
theorem dX7_may_20 : decode cX7_may 20 = .ok (.if_icmp .ge 53, 3) := by decide +kernel
theorem dX7_may_23 : decode cX7_may 23 = .ok (.iload 5, 2) := by decide +kernel
theorem dX7_may_25 : decode cX7_may 25 = .ok (.ifCond .ne 35, 3) := by decide +kernel
theorem dX7_may_28 : decode cX7_may 28 = .ok (.aload_n 0, 1) := by decide +kernel
theorem dX7_may_29 : decode cX7_may 29 = .ok (.iload 6, 2) := by decide +kernel
theorem dX7_may_31 : decode cX7_may 31 = .ok (.iload_n 2, 1) := by decide +kernel
theorem dX7_may_32 : decode cX7_may 32 = .ok (.invokevirtual 194, 3) := by decide +kernel
theorem dX7_may_35 : decode cX7_may 35 = .ok (.ifCond .eq 29, 3) := by decide +kernel
theorem dX7_may_38 : decode cX7_may 38 = .ok (.aload_n 0, 1) := by decide +kernel
theorem dX7_may_39 : decode cX7_may 39 = .ok (.getfield 43, 3) := by decide +kernel
theorem dX7_may_42 : decode cX7_may 42 = .ok (.iload 6, 2) := by decide +kernel
theorem dX7_may_44 : decode cX7_may 44 = .ok (.iaload, 1) := by decide +kernel
theorem dX7_may_45 : decode cX7_may 45 = .ok (.iconst 2, 1) := by decide +kernel
theorem dX7_may_46 : decode cX7_may 46 = .ok (.if_icmp .ge 18, 3) := by decide +kernel
theorem dX7_may_49 : decode cX7_may 49 = .ok (.aload_n 0, 1) := by decide +kernel
theorem dX7_may_50 : decode cX7_may 50 = .ok (.getfield 37, 3) := by decide +kernel
theorem dX7_may_53 : decode cX7_may 53 = .ok (.iload 6, 2) := by decide +kernel
theorem dX7_may_55 : decode cX7_may 55 = .ok (.iaload, 1) := by decide +kernel
theorem dX7_may_56 : decode cX7_may 56 = .ok (.iconst 3, 1) := by decide +kernel
theorem dX7_may_57 : decode cX7_may 57 = .ok (.if_icmp .eq 7, 3) := by decide +kernel
theorem dX7_may_60 : decode cX7_may 60 = .ok (.iconst 1, 1) := by decide +kernel
theorem dX7_may_61 : decode cX7_may 61 = .ok (.goto 4, 3) := by decide +kernel
theorem dX7_may_64 : decode cX7_may 64 = .ok (.iconst 0, 1) := by decide +kernel
theorem dX7_may_65 : decode cX7_may 65 = .ok (.istore 5, 2) := by decide +kernel
theorem dX7_may_67 : decode cX7_may 67 = .ok (.iinc 6 1, 3) := by decide +kernel
theorem dX7_may_70 : decode cX7_may 70 = .ok (.goto (-56), 3) := by decide +kernel
theorem dX7_may_73 : decode cX7_may 73 = .ok (.aload_n 0, 1) := by decide +kernel
theorem dX7_may_74 : decode cX7_may 74 = .ok (.getfield 188, 3) := by decide +kernel
theorem dX7_may_77 : decode cX7_may 77 = .ok (.ifCond .eq 18, 3) := by decide +kernel
theorem dX7_may_80 : decode cX7_may 80 = .ok (.iload_n 3, 1) := by decide +kernel
theorem dX7_may_81 : decode cX7_may 81 = .ok (.iload 4, 2) := by decide +kernel
theorem dX7_may_83 : decode cX7_may 83 = .ok (.iconst 1, 1) := by decide +kernel
theorem dX7_may_84 : decode cX7_may 84 = .ok (.if_icmp .ne 7, 3) := by decide +kernel
theorem dX7_may_87 : decode cX7_may 87 = .ok (.iconst 1, 1) := by decide +kernel
theorem dX7_may_88 : decode cX7_may 88 = .ok (.goto 4, 3) := by decide +kernel
theorem dX7_may_91 : decode cX7_may 91 = .ok (.iconst 0, 1) := by decide +kernel
theorem dX7_may_92 : decode cX7_may 92 = .ok (.if_icmp .ne 7, 3) := by decide +kernel
theorem dX7_may_95 : decode cX7_may 95 = .ok (.iconst 1, 1) := by decide +kernel
theorem dX7_may_96 : decode cX7_may 96 = .ok (.goto 4, 3) := by decide +kernel
theorem dX7_may_99 : decode cX7_may 99 = .ok (.iconst 0, 1) := by decide +kernel
theorem dX7_may_100 : decode cX7_may 100 = .ok (.istore 6, 2) := by decide +kernel
theorem dX7_may_102 : decode cX7_may 102 = .ok (.iload 4, 2) := by decide +kernel
theorem dX7_may_104 : decode cX7_may 104 = .ok (.iconst 2, 1) := by decide +kernel
theorem dX7_may_105 : decode cX7_may 105 = .ok (.if_icmp .ne 17, 3) := by decide +kernel
theorem dX7_may_108 : decode cX7_may 108 = .ok (.iload_n 3, 1) := by decide +kernel
theorem dX7_may_109 : decode cX7_may 109 = .ok (.ifCond .ne 17, 3) := by decide +kernel
theorem dX7_may_112 : decode cX7_may 112 = .ok (.aload_n 0, 1) := by decide +kernel
theorem dX7_may_113 : decode cX7_may 113 = .ok (.iload_n 2, 1) := by decide +kernel
theorem dX7_may_114 : decode cX7_may 114 = .ok (.iconst 0, 1) := by decide +kernel
theorem dX7_may_115 : decode cX7_may 115 = .ok (.iconst 1, 1) := by decide +kernel
theorem dX7_may_116 : decode cX7_may 116 = .ok (.invokevirtual 200, 3) := by decide +kernel
theorem dX7_may_119 : decode cX7_may 119 = .ok (.ifCond .ge 7, 3) := by decide +kernel
theorem dX7_may_122 : decode cX7_may 122 = .ok (.iconst 1, 1) := by decide +kernel
theorem dX7_may_123 : decode cX7_may 123 = .ok (.goto 4, 3) := by decide +kernel
theorem dX7_may_126 : decode cX7_may 126 = .ok (.iconst 0, 1) := by decide +kernel
theorem dX7_may_127 : decode cX7_may 127 = .ok (.istore 7, 2) := by decide +kernel
theorem dX7_may_129 : decode cX7_may 129 = .ok (.iload 6, 2) := by decide +kernel
theorem dX7_may_131 : decode cX7_may 131 = .ok (.ifCond .eq 39, 3) := by decide +kernel
theorem dX7_may_134 : decode cX7_may 134 = .ok (.iload 7, 2) := by decide +kernel
theorem dX7_may_136 : decode cX7_may 136 = .ok (.ifCond .eq 34, 3) := by decide +kernel
theorem dX7_may_139 : decode cX7_may 139 = .ok (.iload 4, 2) := by decide +kernel
theorem dX7_may_141 : decode cX7_may 141 = .ok (.iconst 4, 1) := by decide +kernel
theorem dX7_may_142 : decode cX7_may 142 = .ok (.if_icmp .ne 13, 3) := by decide +kernel
theorem dX7_may_145 : decode cX7_may 145 = .ok (.aload_n 0, 1) := by decide +kernel
theorem dX7_may_146 : decode cX7_may 146 = .ok (.getfield 31, 3) := by decide +kernel
theorem dX7_may_149 : decode cX7_may 149 = .ok (.iload_n 2, 1) := by decide +kernel
theorem dX7_may_150 : decode cX7_may 150 = .ok (.iaload, 1) := by decide +kernel
theorem dX7_may_151 : decode cX7_may 151 = .ok (.iconst 1, 1) := by decide +kernel
theorem dX7_may_152 : decode cX7_may 152 = .ok (.if_icmp .ne 18, 3) := by decide +kernel
theorem dX7_may_155 : decode cX7_may 155 = .ok (.iload 4, 2) := by decide +kernel
theorem dX7_may_157 : decode cX7_may 157 = .ok (.iconst 3, 1) := by decide +kernel
theorem dX7_may_158 : decode cX7_may 158 = .ok (.if_icmp .ne 8, 3) := by decide +kernel
theorem dX7_may_161 : decode cX7_may 161 = .ok (.iload 5, 2) := by decide +kernel
theorem dX7_may_163 : decode cX7_may 163 = .ok (.ifCond .eq 7, 3) := by decide +kernel
theorem dX7_may_166 : decode cX7_may 166 = .ok (.iconst 1, 1) := by decide +kernel
theorem dX7_may_167 : decode cX7_may 167 = .ok (.goto 4, 3) := by decide +kernel
theorem dX7_may_170 : decode cX7_may 170 = .ok (.iconst 0, 1) := by decide +kernel
theorem dX7_may_171 : decode cX7_may 171 = .ok (.ireturn, 1) := by decide +kernel
theorem dX7_stepsOn_0 : decode cX7_stepsOn 0 = .ok (.aload_n 0, 1) := by decide +kernel
theorem dX7_stepsOn_1 : decode cX7_stepsOn 1 = .ok (.getfield 67, 3) := by decide +kernel
theorem dX7_stepsOn_4 : decode cX7_stepsOn 4 = .ok (.iload_n 1, 1) := by decide +kernel
theorem dX7_stepsOn_5 : decode cX7_stepsOn 5 = .ok (.iaload, 1) := by decide +kernel
theorem dX7_stepsOn_6 : decode cX7_stepsOn 6 = .ok (.iconst 1, 1) := by decide +kernel
theorem dX7_stepsOn_7 : decode cX7_stepsOn 7 = .ok (.if_icmp .ne 7, 3) := by decide +kernel
theorem dX7_stepsOn_10 : decode cX7_stepsOn 10 = .ok (.iconst 0, 1) := by decide +kernel
theorem dX7_stepsOn_11 : decode cX7_stepsOn 11 = .ok (.goto 4, 3) := by decide +kernel
theorem dX7_stepsOn_14 : decode cX7_stepsOn 14 = .ok (.iconst 1, 1) := by decide +kernel
theorem dX7_stepsOn_15 : decode cX7_stepsOn 15 = .ok (.istore_n 3, 1) := by decide +kernel
theorem dX7_stepsOn_16 : decode cX7_stepsOn 16 = .ok (.iconst 0, 1) := by decide +kernel
theorem dX7_stepsOn_17 : decode cX7_stepsOn 17 = .ok (.istore 4, 2) := by decide +kernel
theorem dX7_stepsOn_19 : decode cX7_stepsOn 19 = .ok (.iload 4, 2) := by decide +kernel
theorem dX7_stepsOn_21 : decode cX7_stepsOn 21 = .ok (.iconst 2, 1) := by decide +kernel
theorem dX7_stepsOn_22 : decode cX7_stepsOn 22 = .ok (.if_icmp .ge 200, 3) := by decide +kernel
theorem dX7_stepsOn_25 : decode cX7_stepsOn 25 = .ok (.bipush (-4), 2) := by decide +kernel
theorem dX7_stepsOn_27 : decode cX7_stepsOn 27 = .ok (.istore 5, 2) := by decide +kernel
theorem dX7_stepsOn_29 : decode cX7_stepsOn 29 = .ok (.aload_n 0, 1) := by decide +kernel
theorem dX7_stepsOn_30 : decode cX7_stepsOn 30 = .ok (.getfield 105, 3) := by decide +kernel
theorem dX7_stepsOn_33 : decode cX7_stepsOn 33 = .ok (.iconst 1, 1) := by decide +kernel
theorem dX7_stepsOn_34 : decode cX7_stepsOn 34 = .ok (.isub, 1) := by decide +kernel
theorem dX7_stepsOn_35 : decode cX7_stepsOn 35 = .ok (.istore 6, 2) := by decide +kernel
theorem dX7_stepsOn_37 : decode cX7_stepsOn 37 = .ok (.iload 6, 2) := by decide +kernel
theorem dX7_stepsOn_39 : decode cX7_stepsOn 39 = .ok (.ifCond .lt 94, 3) := by decide +kernel
theorem dX7_stepsOn_42 : decode cX7_stepsOn 42 = .ok (.aload_n 0, 1) := by decide +kernel
theorem dX7_stepsOn_43 : decode cX7_stepsOn 43 = .ok (.getfield 34, 3) := by decide +kernel
theorem dX7_stepsOn_46 : decode cX7_stepsOn 46 = .ok (.iload 6, 2) := by decide +kernel
theorem dX7_stepsOn_48 : decode cX7_stepsOn 48 = .ok (.iaload, 1) := by decide +kernel
theorem dX7_stepsOn_49 : decode cX7_stepsOn 49 = .ok (.iconst 1, 1) := by decide +kernel
theorem dX7_stepsOn_50 : decode cX7_stepsOn 50 = .ok (.if_icmp .ne 34, 3) := by decide +kernel
theorem dX7_stepsOn_53 : decode cX7_stepsOn 53 = .ok (.aload_n 0, 1) := by decide +kernel
theorem dX7_stepsOn_54 : decode cX7_stepsOn 54 = .ok (.getfield 16, 3) := by decide +kernel
theorem dX7_stepsOn_57 : decode cX7_stepsOn 57 = .ok (.iconst 3, 1) := by decide +kernel
theorem dX7_stepsOn_58 : decode cX7_stepsOn 58 = .ok (.iload 6, 2) := by decide +kernel
theorem dX7_stepsOn_60 : decode cX7_stepsOn 60 = .ok (.imul, 1) := by decide +kernel
theorem dX7_stepsOn_61 : decode cX7_stepsOn 61 = .ok (.iconst 1, 1) := by decide +kernel
theorem dX7_stepsOn_62 : decode cX7_stepsOn 62 = .ok (.iadd, 1) := by decide +kernel
theorem dX7_stepsOn_63 : decode cX7_stepsOn 63 = .ok (.iaload, 1) := by decide +kernel
theorem dX7_stepsOn_64 : decode cX7_stepsOn 64 = .ok (.iload_n 3, 1) := by decide +kernel
theorem dX7_stepsOn_65 : decode cX7_stepsOn 65 = .ok (.if_icmp .ne 19, 3) := by decide +kernel
theorem dX7_stepsOn_68 : decode cX7_stepsOn 68 = .ok (.aload_n 0, 1) := by decide +kernel
theorem dX7_stepsOn_69 : decode cX7_stepsOn 69 = .ok (.iload 6, 2) := by decide +kernel
theorem dX7_stepsOn_71 : decode cX7_stepsOn 71 = .ok (.iload_n 1, 1) := by decide +kernel
theorem dX7_stepsOn_72 : decode cX7_stepsOn 72 = .ok (.iload 4, 2) := by decide +kernel
theorem dX7_stepsOn_74 : decode cX7_stepsOn 74 = .ok (.invokevirtual 203, 3) := by decide +kernel
theorem dX7_stepsOn_77 : decode cX7_stepsOn 77 = .ok (.ifCond .eq 7, 3) := by decide +kernel
theorem dX7_stepsOn_80 : decode cX7_stepsOn 80 = .ok (.iconst 1, 1) := by decide +kernel
theorem dX7_stepsOn_81 : decode cX7_stepsOn 81 = .ok (.goto 4, 3) := by decide +kernel
theorem dX7_stepsOn_84 : decode cX7_stepsOn 84 = .ok (.iconst 0, 1) := by decide +kernel
theorem dX7_stepsOn_85 : decode cX7_stepsOn 85 = .ok (.istore 7, 2) := by decide +kernel
theorem dX7_stepsOn_87 : decode cX7_stepsOn 87 = .ok (.iload 7, 2) := by decide +kernel
theorem dX7_stepsOn_89 : decode cX7_stepsOn 89 = .ok (.ifCond .eq 34, 3) := by decide +kernel
theorem dX7_stepsOn_92 : decode cX7_stepsOn 92 = .ok (.iload 5, 2) := by decide +kernel
theorem dX7_stepsOn_94 : decode cX7_stepsOn 94 = .ok (.ifCond .lt 24, 3) := by decide +kernel
theorem dX7_stepsOn_97 : decode cX7_stepsOn 97 = .ok (.aload_n 0, 1) := by decide +kernel
theorem dX7_stepsOn_98 : decode cX7_stepsOn 98 = .ok (.getfield 16, 3) := by decide +kernel
theorem dX7_stepsOn_101 : decode cX7_stepsOn 101 = .ok (.iconst 3, 1) := by decide +kernel
theorem dX7_stepsOn_102 : decode cX7_stepsOn 102 = .ok (.iload 6, 2) := by decide +kernel
theorem dX7_stepsOn_104 : decode cX7_stepsOn 104 = .ok (.imul, 1) := by decide +kernel
theorem dX7_stepsOn_105 : decode cX7_stepsOn 105 = .ok (.iaload, 1) := by decide +kernel
theorem dX7_stepsOn_106 : decode cX7_stepsOn 106 = .ok (.aload_n 0, 1) := by decide +kernel
theorem dX7_stepsOn_107 : decode cX7_stepsOn 107 = .ok (.getfield 16, 3) := by decide +kernel
theorem dX7_stepsOn_110 : decode cX7_stepsOn 110 = .ok (.iconst 3, 1) := by decide +kernel
theorem dX7_stepsOn_111 : decode cX7_stepsOn 111 = .ok (.iload 5, 2) := by decide +kernel
theorem dX7_stepsOn_113 : decode cX7_stepsOn 113 = .ok (.imul, 1) := by decide +kernel
theorem dX7_stepsOn_114 : decode cX7_stepsOn 114 = .ok (.iaload, 1) := by decide +kernel
theorem dX7_stepsOn_115 : decode cX7_stepsOn 115 = .ok (.if_icmp .gt 8, 3) := by decide +kernel
theorem dX7_stepsOn_118 : decode cX7_stepsOn 118 = .ok (.iload 6, 2) := by decide +kernel
theorem dX7_stepsOn_120 : decode cX7_stepsOn 120 = .ok (.goto 5, 3) := by decide +kernel
theorem dX7_stepsOn_123 : decode cX7_stepsOn 123 = .ok (.iload 5, 2) := by decide +kernel
theorem dX7_stepsOn_125 : decode cX7_stepsOn 125 = .ok (.istore 5, 2) := by decide +kernel
theorem dX7_stepsOn_127 : decode cX7_stepsOn 127 = .ok (.iinc 6 (-1), 3) := by decide +kernel
theorem dX7_stepsOn_130 : decode cX7_stepsOn 130 = .ok (.goto (-93), 3) := by decide +kernel
theorem dX7_stepsOn_133 : decode cX7_stepsOn 133 = .ok (.aload_n 0, 1) := by decide +kernel
theorem dX7_stepsOn_134 : decode cX7_stepsOn 134 = .ok (.iload_n 1, 1) := by decide +kernel
theorem dX7_stepsOn_135 : decode cX7_stepsOn 135 = .ok (.iconst 0, 1) := by decide +kernel
theorem dX7_stepsOn_136 : decode cX7_stepsOn 136 = .ok (.iload 4, 2) := by decide +kernel
theorem dX7_stepsOn_138 : decode cX7_stepsOn 138 = .ok (.invokevirtual 200, 3) := by decide +kernel
theorem dX7_stepsOn_141 : decode cX7_stepsOn 141 = .ok (.ifCond .ge 75, 3) := by decide +kernel
theorem dX7_stepsOn_144 : decode cX7_stepsOn 144 = .ok (.iload 5, 2) := by decide +kernel
theorem dX7_stepsOn_146 : decode cX7_stepsOn 146 = .ok (.ifCond .lt 70, 3) := by decide +kernel
theorem dX7_stepsOn_149 : decode cX7_stepsOn 149 = .ok (.aload_n 0, 1) := by decide +kernel
theorem dX7_stepsOn_150 : decode cX7_stepsOn 150 = .ok (.getfield 34, 3) := by decide +kernel
theorem dX7_stepsOn_153 : decode cX7_stepsOn 153 = .ok (.iload 5, 2) := by decide +kernel
theorem dX7_stepsOn_155 : decode cX7_stepsOn 155 = .ok (.iconst 2, 1) := by decide +kernel
theorem dX7_stepsOn_156 : decode cX7_stepsOn 156 = .ok (.iastore, 1) := by decide +kernel
theorem dX7_stepsOn_157 : decode cX7_stepsOn 157 = .ok (.aload_n 0, 1) := by decide +kernel
theorem dX7_stepsOn_158 : decode cX7_stepsOn 158 = .ok (.getfield 40, 3) := by decide +kernel
theorem dX7_stepsOn_161 : decode cX7_stepsOn 161 = .ok (.iload 5, 2) := by decide +kernel
theorem dX7_stepsOn_163 : decode cX7_stepsOn 163 = .ok (.iload_n 1, 1) := by decide +kernel
theorem dX7_stepsOn_164 : decode cX7_stepsOn 164 = .ok (.iastore, 1) := by decide +kernel
theorem dX7_stepsOn_165 : decode cX7_stepsOn 165 = .ok (.aload_n 0, 1) := by decide +kernel
theorem dX7_stepsOn_166 : decode cX7_stepsOn 166 = .ok (.getfield 43, 3) := by decide +kernel
theorem dX7_stepsOn_169 : decode cX7_stepsOn 169 = .ok (.iload 5, 2) := by decide +kernel
theorem dX7_stepsOn_171 : decode cX7_stepsOn 171 = .ok (.iconst 0, 1) := by decide +kernel
theorem dX7_stepsOn_172 : decode cX7_stepsOn 172 = .ok (.iastore, 1) := by decide +kernel
theorem dX7_stepsOn_173 : decode cX7_stepsOn 173 = .ok (.aload_n 0, 1) := by decide +kernel
theorem dX7_stepsOn_174 : decode cX7_stepsOn 174 = .ok (.getfield 46, 3) := by decide +kernel
theorem dX7_stepsOn_177 : decode cX7_stepsOn 177 = .ok (.iload 5, 2) := by decide +kernel
theorem dX7_stepsOn_179 : decode cX7_stepsOn 179 = .ok (.iload 4, 2) := by decide +kernel
theorem dX7_stepsOn_181 : decode cX7_stepsOn 181 = .ok (.iastore, 1) := by decide +kernel
theorem dX7_stepsOn_182 : decode cX7_stepsOn 182 = .ok (.aload_n 0, 1) := by decide +kernel
theorem dX7_stepsOn_183 : decode cX7_stepsOn 183 = .ok (.getfield 55, 3) := by decide +kernel
theorem dX7_stepsOn_186 : decode cX7_stepsOn 186 = .ok (.iload 5, 2) := by decide +kernel
theorem dX7_stepsOn_188 : decode cX7_stepsOn 188 = .ok (.iload_n 2, 1) := by decide +kernel
theorem dX7_stepsOn_189 : decode cX7_stepsOn 189 = .ok (.iastore, 1) := by decide +kernel
theorem dX7_stepsOn_190 : decode cX7_stepsOn 190 = .ok (.aload_n 0, 1) := by decide +kernel
theorem dX7_stepsOn_191 : decode cX7_stepsOn 191 = .ok (.getfield 58, 3) := by decide +kernel
theorem dX7_stepsOn_194 : decode cX7_stepsOn 194 = .ok (.iload 5, 2) := by decide +kernel
theorem dX7_stepsOn_196 : decode cX7_stepsOn 196 = .ok (.iload_n 1, 1) := by decide +kernel
theorem dX7_stepsOn_197 : decode cX7_stepsOn 197 = .ok (.iastore, 1) := by decide +kernel
theorem dX7_stepsOn_198 : decode cX7_stepsOn 198 = .ok (.aload_n 0, 1) := by decide +kernel
theorem dX7_stepsOn_199 : decode cX7_stepsOn 199 = .ok (.getfield 64, 3) := by decide +kernel
theorem dX7_stepsOn_202 : decode cX7_stepsOn 202 = .ok (.iload 5, 2) := by decide +kernel
theorem dX7_stepsOn_204 : decode cX7_stepsOn 204 = .ok (.iload_n 2, 1) := by decide +kernel
theorem dX7_stepsOn_205 : decode cX7_stepsOn 205 = .ok (.aload_n 0, 1) := by decide +kernel
theorem dX7_stepsOn_206 : decode cX7_stepsOn 206 = .ok (.getfield 16, 3) := by decide +kernel
theorem dX7_stepsOn_209 : decode cX7_stepsOn 209 = .ok (.iconst 3, 1) := by decide +kernel
theorem dX7_stepsOn_210 : decode cX7_stepsOn 210 = .ok (.iload 5, 2) := by decide +kernel
theorem dX7_stepsOn_212 : decode cX7_stepsOn 212 = .ok (.imul, 1) := by decide +kernel
theorem dX7_stepsOn_213 : decode cX7_stepsOn 213 = .ok (.iaload, 1) := by decide +kernel
theorem dX7_stepsOn_214 : decode cX7_stepsOn 214 = .ok (.isub, 1) := by decide +kernel
theorem dX7_stepsOn_215 : decode cX7_stepsOn 215 = .ok (.iastore, 1) := by decide +kernel
theorem dX7_stepsOn_216 : decode cX7_stepsOn 216 = .ok (.iinc 4 1, 3) := by decide +kernel
theorem dX7_stepsOn_219 : decode cX7_stepsOn 219 = .ok (.goto (-200), 3) := by decide +kernel
theorem dX7_stepsOn_222 : decode cX7_stepsOn 222 = .ok (.return_, 1) := by decide +kernel
theorem dX7_loads_0 : decode cX7_loads 0 = .ok (.aload_n 0, 1) := by decide +kernel
theorem dX7_loads_1 : decode cX7_loads 1 = .ok (.iload_n 1, 1) := by decide +kernel
theorem dX7_loads_2 : decode cX7_loads 2 = .ok (.invokevirtual 207, 3) := by decide +kernel
theorem dX7_loads_5 : decode cX7_loads 5 = .ok (.istore_n 2, 1) := by decide +kernel
theorem dX7_loads_6 : decode cX7_loads 6 = .ok (.aload_n 0, 1) := by decide +kernel
theorem dX7_loads_7 : decode cX7_loads 7 = .ok (.getfield 70, 3) := by decide +kernel
theorem dX7_loads_10 : decode cX7_loads 10 = .ok (.iload_n 1, 1) := by decide +kernel
theorem dX7_loads_11 : decode cX7_loads 11 = .ok (.iaload, 1) := by decide +kernel
theorem dX7_loads_12 : decode cX7_loads 12 = .ok (.ifCond .le 7, 3) := by decide +kernel
theorem dX7_loads_15 : decode cX7_loads 15 = .ok (.iconst 1, 1) := by decide +kernel
theorem dX7_loads_16 : decode cX7_loads 16 = .ok (.goto 4, 3) := by decide +kernel
theorem dX7_loads_19 : decode cX7_loads 19 = .ok (.iconst 0, 1) := by decide +kernel
theorem dX7_loads_20 : decode cX7_loads 20 = .ok (.istore_n 3, 1) := by decide +kernel
theorem dX7_loads_21 : decode cX7_loads 21 = .ok (.aload_n 0, 1) := by decide +kernel
theorem dX7_loads_22 : decode cX7_loads 22 = .ok (.getfield 67, 3) := by decide +kernel
theorem dX7_loads_25 : decode cX7_loads 25 = .ok (.iload_n 1, 1) := by decide +kernel
theorem dX7_loads_26 : decode cX7_loads 26 = .ok (.iaload, 1) := by decide +kernel
theorem dX7_loads_27 : decode cX7_loads 27 = .ok (.ifCond .le 69, 3) := by decide +kernel
theorem dX7_loads_30 : decode cX7_loads 30 = .ok (.iload_n 3, 1) := by decide +kernel
theorem dX7_loads_31 : decode cX7_loads 31 = .ok (.ifCond .ne 65, 3) := by decide +kernel
theorem dX7_loads_34 : decode cX7_loads 34 = .ok (.aload_n 0, 1) := by decide +kernel
theorem dX7_loads_35 : decode cX7_loads 35 = .ok (.getfield 7, 3) := by decide +kernel
theorem dX7_loads_38 : decode cX7_loads 38 = .ok (.iconst 5, 1) := by decide +kernel
theorem dX7_loads_39 : decode cX7_loads 39 = .ok (.iaload, 1) := by decide +kernel
theorem dX7_loads_40 : decode cX7_loads 40 = .ok (.iload_n 2, 1) := by decide +kernel
theorem dX7_loads_41 : decode cX7_loads 41 = .ok (.aload_n 0, 1) := by decide +kernel
theorem dX7_loads_42 : decode cX7_loads 42 = .ok (.getfield 7, 3) := by decide +kernel
theorem dX7_loads_45 : decode cX7_loads 45 = .ok (.bipush 6, 2) := by decide +kernel
theorem dX7_loads_47 : decode cX7_loads 47 = .ok (.iaload, 1) := by decide +kernel
theorem dX7_loads_48 : decode cX7_loads 48 = .ok (.imul, 1) := by decide +kernel
theorem dX7_loads_49 : decode cX7_loads 49 = .ok (.bipush 10, 2) := by decide +kernel
theorem dX7_loads_51 : decode cX7_loads 51 = .ok (.idiv, 1) := by decide +kernel
theorem dX7_loads_52 : decode cX7_loads 52 = .ok (.isub, 1) := by decide +kernel
theorem dX7_loads_53 : decode cX7_loads 53 = .ok (.istore 4, 2) := by decide +kernel
theorem dX7_loads_55 : decode cX7_loads 55 = .ok (.aload_n 0, 1) := by decide +kernel
theorem dX7_loads_56 : decode cX7_loads 56 = .ok (.dup, 1) := by decide +kernel
theorem dX7_loads_57 : decode cX7_loads 57 = .ok (.getfield 210, 3) := by decide +kernel
theorem dX7_loads_60 : decode cX7_loads 60 = .ok (.aload_n 0, 1) := by decide +kernel
theorem dX7_loads_61 : decode cX7_loads 61 = .ok (.getfield 67, 3) := by decide +kernel
theorem dX7_loads_64 : decode cX7_loads 64 = .ok (.iload_n 1, 1) := by decide +kernel
theorem dX7_loads_65 : decode cX7_loads 65 = .ok (.iaload, 1) := by decide +kernel
theorem dX7_loads_66 : decode cX7_loads 66 = .ok (.iconst 1, 1) := by decide +kernel
theorem dX7_loads_67 : decode cX7_loads 67 = .ok (.if_icmp .ne 14, 3) := by decide +kernel
theorem dX7_loads_70 : decode cX7_loads 70 = .ok (.aload_n 0, 1) := by decide +kernel
theorem dX7_loads_71 : decode cX7_loads 71 = .ok (.getfield 7, 3) := by decide +kernel
theorem dX7_loads_74 : decode cX7_loads 74 = .ok (.iconst 5, 1) := by decide +kernel
theorem dX7_loads_75 : decode cX7_loads 75 = .ok (.iaload, 1) := by decide +kernel
theorem dX7_loads_76 : decode cX7_loads 76 = .ok (.iload_n 2, 1) := by decide +kernel
theorem dX7_loads_77 : decode cX7_loads 77 = .ok (.iadd, 1) := by decide +kernel
theorem dX7_loads_78 : decode cX7_loads 78 = .ok (.goto 14, 3) := by decide +kernel
theorem dX7_loads_81 : decode cX7_loads 81 = .ok (.iload 4, 2) := by decide +kernel
theorem dX7_loads_83 : decode cX7_loads 83 = .ok (.ifCond .ge 7, 3) := by decide +kernel
theorem dX7_loads_86 : decode cX7_loads 86 = .ok (.iconst 0, 1) := by decide +kernel
theorem dX7_loads_87 : decode cX7_loads 87 = .ok (.goto 5, 3) := by decide +kernel
theorem dX7_loads_90 : decode cX7_loads 90 = .ok (.iload 4, 2) := by decide +kernel
theorem dX7_loads_92 : decode cX7_loads 92 = .ok (.iadd, 1) := by decide +kernel
theorem dX7_loads_93 : decode cX7_loads 93 = .ok (.putfield 210, 3) := by decide +kernel
theorem dX7_loads_96 : decode cX7_loads 96 = .ok (.aload_n 0, 1) := by decide +kernel
theorem dX7_loads_97 : decode cX7_loads 97 = .ok (.getfield 70, 3) := by decide +kernel
theorem dX7_loads_100 : decode cX7_loads 100 = .ok (.iload_n 1, 1) := by decide +kernel
theorem dX7_loads_101 : decode cX7_loads 101 = .ok (.dup2, 1) := by decide +kernel
theorem dX7_loads_102 : decode cX7_loads 102 = .ok (.iaload, 1) := by decide +kernel
theorem dX7_loads_103 : decode cX7_loads 103 = .ok (.iload_n 3, 1) := by decide +kernel
theorem dX7_loads_104 : decode cX7_loads 104 = .ok (.ifCond .eq 7, 3) := by decide +kernel
theorem dX7_loads_107 : decode cX7_loads 107 = .ok (.iconst 1, 1) := by decide +kernel
theorem dX7_loads_108 : decode cX7_loads 108 = .ok (.goto 4, 3) := by decide +kernel
theorem dX7_loads_111 : decode cX7_loads 111 = .ok (.iconst 0, 1) := by decide +kernel
theorem dX7_loads_112 : decode cX7_loads 112 = .ok (.isub, 1) := by decide +kernel
theorem dX7_loads_113 : decode cX7_loads 113 = .ok (.iastore, 1) := by decide +kernel
theorem dX7_loads_114 : decode cX7_loads 114 = .ok (.iload_n 3, 1) := by decide +kernel
theorem dX7_loads_115 : decode cX7_loads 115 = .ok (.ifCond .ne 105, 3) := by decide +kernel
theorem dX7_loads_118 : decode cX7_loads 118 = .ok (.iload_n 2, 1) := by decide +kernel
theorem dX7_loads_119 : decode cX7_loads 119 = .ok (.aload_n 0, 1) := by decide +kernel
theorem dX7_loads_120 : decode cX7_loads 120 = .ok (.getfield 7, 3) := by decide +kernel
theorem dX7_loads_123 : decode cX7_loads 123 = .ok (.iconst 3, 1) := by decide +kernel
theorem dX7_loads_124 : decode cX7_loads 124 = .ok (.iaload, 1) := by decide +kernel
theorem dX7_loads_125 : decode cX7_loads 125 = .ok (.if_icmp .le 95, 3) := by decide +kernel
theorem dX7_loads_128 : decode cX7_loads 128 = .ok (.aload_n 0, 1) := by decide +kernel
theorem dX7_loads_129 : decode cX7_loads 129 = .ok (.getfield 70, 3) := by decide +kernel
theorem dX7_loads_132 : decode cX7_loads 132 = .ok (.iload_n 1, 1) := by decide +kernel
theorem dX7_loads_133 : decode cX7_loads 133 = .ok (.aload_n 0, 1) := by decide +kernel
theorem dX7_loads_134 : decode cX7_loads 134 = .ok (.getfield 7, 3) := by decide +kernel
theorem dX7_loads_137 : decode cX7_loads 137 = .ok (.iconst 4, 1) := by decide +kernel
theorem dX7_loads_138 : decode cX7_loads 138 = .ok (.iaload, 1) := by decide +kernel
theorem dX7_loads_139 : decode cX7_loads 139 = .ok (.iastore, 1) := by decide +kernel
theorem dX7_loads_140 : decode cX7_loads 140 = .ok (.aload_n 0, 1) := by decide +kernel
theorem dX7_loads_141 : decode cX7_loads 141 = .ok (.dup, 1) := by decide +kernel
theorem dX7_loads_142 : decode cX7_loads 142 = .ok (.getfield 213, 3) := by decide +kernel
theorem dX7_loads_145 : decode cX7_loads 145 = .ok (.iconst 1, 1) := by decide +kernel
theorem dX7_loads_146 : decode cX7_loads 146 = .ok (.iadd, 1) := by decide +kernel
theorem dX7_loads_147 : decode cX7_loads 147 = .ok (.putfield 213, 3) := by decide +kernel
theorem dX7_loads_150 : decode cX7_loads 150 = .ok (.iconst 0, 1) := by decide +kernel
theorem dX7_loads_151 : decode cX7_loads 151 = .ok (.istore 4, 2) := by decide +kernel
theorem dX7_loads_153 : decode cX7_loads 153 = .ok (.iload 4, 2) := by decide +kernel
theorem dX7_loads_155 : decode cX7_loads 155 = .ok (.aload_n 0, 1) := by decide +kernel
theorem dX7_loads_156 : decode cX7_loads 156 = .ok (.getfield 105, 3) := by decide +kernel
theorem dX7_loads_159 : decode cX7_loads 159 = .ok (.if_icmp .ge 61, 3) := by decide +kernel
theorem dX7_loads_162 : decode cX7_loads 162 = .ok (.aload_n 0, 1) := by decide +kernel
theorem dX7_loads_163 : decode cX7_loads 163 = .ok (.getfield 31, 3) := by decide +kernel
theorem dX7_loads_166 : decode cX7_loads 166 = .ok (.iload_n 1, 1) := by decide +kernel
theorem dX7_loads_167 : decode cX7_loads 167 = .ok (.iaload, 1) := by decide +kernel
theorem dX7_loads_168 : decode cX7_loads 168 = .ok (.iconst 2, 1) := by decide +kernel
theorem dX7_loads_169 : decode cX7_loads 169 = .ok (.if_icmp .ne 51, 3) := by decide +kernel
theorem dX7_loads_172 : decode cX7_loads 172 = .ok (.aload_n 0, 1) := by decide +kernel
theorem dX7_loads_173 : decode cX7_loads 173 = .ok (.iload 4, 2) := by decide +kernel
theorem dX7_loads_175 : decode cX7_loads 175 = .ok (.iload_n 1, 1) := by decide +kernel
theorem dX7_loads_176 : decode cX7_loads 176 = .ok (.invokevirtual 194, 3) := by decide +kernel
theorem dX7_loads_179 : decode cX7_loads 179 = .ok (.ifCond .eq 35, 3) := by decide +kernel
theorem dX7_loads_182 : decode cX7_loads 182 = .ok (.aload_n 0, 1) := by decide +kernel
theorem dX7_loads_183 : decode cX7_loads 183 = .ok (.getfield 37, 3) := by decide +kernel
theorem dX7_loads_186 : decode cX7_loads 186 = .ok (.iload 4, 2) := by decide +kernel
theorem dX7_loads_188 : decode cX7_loads 188 = .ok (.iaload, 1) := by decide +kernel
theorem dX7_loads_189 : decode cX7_loads 189 = .ok (.iconst 1, 1) := by decide +kernel
theorem dX7_loads_190 : decode cX7_loads 190 = .ok (.if_icmp .ne 24, 3) := by decide +kernel
theorem dX7_loads_193 : decode cX7_loads 193 = .ok (.aload_n 0, 1) := by decide +kernel
theorem dX7_loads_194 : decode cX7_loads 194 = .ok (.getfield 37, 3) := by decide +kernel
theorem dX7_loads_197 : decode cX7_loads 197 = .ok (.iload 4, 2) := by decide +kernel
theorem dX7_loads_199 : decode cX7_loads 199 = .ok (.iconst 0, 1) := by decide +kernel
theorem dX7_loads_200 : decode cX7_loads 200 = .ok (.iastore, 1) := by decide +kernel
theorem dX7_loads_201 : decode cX7_loads 201 = .ok (.aload_n 0, 1) := by decide +kernel
theorem dX7_loads_202 : decode cX7_loads 202 = .ok (.dup, 1) := by decide +kernel
theorem dX7_loads_203 : decode cX7_loads 203 = .ok (.getfield 216, 3) := by decide +kernel
theorem dX7_loads_206 : decode cX7_loads 206 = .ok (.iconst 1, 1) := by decide +kernel
theorem dX7_loads_207 : decode cX7_loads 207 = .ok (.iload 4, 2) := by decide +kernel
theorem dX7_loads_209 : decode cX7_loads 209 = .ok (.ishl, 1) := by decide +kernel
theorem dX7_loads_210 : decode cX7_loads 210 = .ok (.ior, 1) := by decide +kernel
theorem dX7_loads_211 : decode cX7_loads 211 = .ok (.putfield 216, 3) := by decide +kernel
theorem dX7_loads_214 : decode cX7_loads 214 = .ok (.iinc 4 1, 3) := by decide +kernel
theorem dX7_loads_217 : decode cX7_loads 217 = .ok (.goto (-64), 3) := by decide +kernel
theorem dX7_loads_220 : decode cX7_loads 220 = .ok (.return_, 1) := by decide +kernel
theorem dX7_notes_0 : decode cX7_notes 0 = .ok (.iconst 0, 1) := by decide +kernel
theorem dX7_notes_1 : decode cX7_notes 1 = .ok (.istore_n 2, 1) := by decide +kernel
theorem dX7_notes_2 : decode cX7_notes 2 = .ok (.iload_n 2, 1) := by decide +kernel
theorem dX7_notes_3 : decode cX7_notes 3 = .ok (.iconst 4, 1) := by decide +kernel
theorem dX7_notes_4 : decode cX7_notes 4 = .ok (.if_icmp .ge 92, 3) := by decide +kernel
theorem dX7_notes_7 : decode cX7_notes 7 = .ok (.iconst 0, 1) := by decide +kernel
theorem dX7_notes_8 : decode cX7_notes 8 = .ok (.istore_n 3, 1) := by decide +kernel
theorem dX7_notes_9 : decode cX7_notes 9 = .ok (.iload_n 2, 1) := by decide +kernel
theorem dX7_notes_10 : decode cX7_notes 10 = .ok (.ifCond .ne 7, 3) := by decide +kernel
theorem dX7_notes_13 : decode cX7_notes 13 = .ok (.iconst 1, 1) := by decide +kernel
theorem dX7_notes_14 : decode cX7_notes 14 = .ok (.goto 22, 3) := by decide +kernel
theorem dX7_notes_17 : decode cX7_notes 17 = .ok (.iload_n 2, 1) := by decide +kernel
theorem dX7_notes_18 : decode cX7_notes 18 = .ok (.iconst 1, 1) := by decide +kernel
theorem dX7_notes_19 : decode cX7_notes 19 = .ok (.if_icmp .ne 7, 3) := by decide +kernel
theorem dX7_notes_22 : decode cX7_notes 22 = .ok (.iconst 3, 1) := by decide +kernel
theorem dX7_notes_23 : decode cX7_notes 23 = .ok (.goto 13, 3) := by decide +kernel
theorem dX7_notes_26 : decode cX7_notes 26 = .ok (.iload_n 2, 1) := by decide +kernel
theorem dX7_notes_27 : decode cX7_notes 27 = .ok (.iconst 2, 1) := by decide +kernel
theorem dX7_notes_28 : decode cX7_notes 28 = .ok (.if_icmp .ne 7, 3) := by decide +kernel
theorem dX7_notes_31 : decode cX7_notes 31 = .ok (.iconst 2, 1) := by decide +kernel
theorem dX7_notes_32 : decode cX7_notes 32 = .ok (.goto 4, 3) := by decide +kernel
theorem dX7_notes_35 : decode cX7_notes 35 = .ok (.iconst 4, 1) := by decide +kernel
theorem dX7_notes_36 : decode cX7_notes 36 = .ok (.istore 4, 2) := by decide +kernel
theorem dX7_notes_38 : decode cX7_notes 38 = .ok (.iconst 0, 1) := by decide +kernel
theorem dX7_notes_39 : decode cX7_notes 39 = .ok (.istore 5, 2) := by decide +kernel
theorem dX7_notes_41 : decode cX7_notes 41 = .ok (.iload 5, 2) := by decide +kernel
theorem dX7_notes_43 : decode cX7_notes 43 = .ok (.aload_n 0, 1) := by decide +kernel
theorem dX7_notes_44 : decode cX7_notes 44 = .ok (.getfield 105, 3) := by decide +kernel
theorem dX7_notes_47 : decode cX7_notes 47 = .ok (.if_icmp .ge 32, 3) := by decide +kernel
theorem dX7_notes_50 : decode cX7_notes 50 = .ok (.iload_n 3, 1) := by decide +kernel
theorem dX7_notes_51 : decode cX7_notes 51 = .ok (.aload_n 0, 1) := by decide +kernel
theorem dX7_notes_52 : decode cX7_notes 52 = .ok (.getfield 34, 3) := by decide +kernel
theorem dX7_notes_55 : decode cX7_notes 55 = .ok (.iload 5, 2) := by decide +kernel
theorem dX7_notes_57 : decode cX7_notes 57 = .ok (.iaload, 1) := by decide +kernel
theorem dX7_notes_58 : decode cX7_notes 58 = .ok (.iload 4, 2) := by decide +kernel
theorem dX7_notes_60 : decode cX7_notes 60 = .ok (.if_icmp .ne 10, 3) := by decide +kernel
theorem dX7_notes_63 : decode cX7_notes 63 = .ok (.iconst 1, 1) := by decide +kernel
theorem dX7_notes_64 : decode cX7_notes 64 = .ok (.iload 5, 2) := by decide +kernel
theorem dX7_notes_66 : decode cX7_notes 66 = .ok (.ishl, 1) := by decide +kernel
theorem dX7_notes_67 : decode cX7_notes 67 = .ok (.goto 4, 3) := by decide +kernel
theorem dX7_notes_70 : decode cX7_notes 70 = .ok (.iconst 0, 1) := by decide +kernel
theorem dX7_notes_71 : decode cX7_notes 71 = .ok (.ior, 1) := by decide +kernel
theorem dX7_notes_72 : decode cX7_notes 72 = .ok (.istore_n 3, 1) := by decide +kernel
theorem dX7_notes_73 : decode cX7_notes 73 = .ok (.iinc 5 1, 3) := by decide +kernel
theorem dX7_notes_76 : decode cX7_notes 76 = .ok (.goto (-35), 3) := by decide +kernel
theorem dX7_notes_79 : decode cX7_notes 79 = .ok (.aload_n 0, 1) := by decide +kernel
theorem dX7_notes_80 : decode cX7_notes 80 = .ok (.getfield 73, 3) := by decide +kernel
theorem dX7_notes_83 : decode cX7_notes 83 = .ok (.iconst 4, 1) := by decide +kernel
theorem dX7_notes_84 : decode cX7_notes 84 = .ok (.iload_n 1, 1) := by decide +kernel
theorem dX7_notes_85 : decode cX7_notes 85 = .ok (.imul, 1) := by decide +kernel
theorem dX7_notes_86 : decode cX7_notes 86 = .ok (.iload_n 2, 1) := by decide +kernel
theorem dX7_notes_87 : decode cX7_notes 87 = .ok (.iadd, 1) := by decide +kernel
theorem dX7_notes_88 : decode cX7_notes 88 = .ok (.iload_n 3, 1) := by decide +kernel
theorem dX7_notes_89 : decode cX7_notes 89 = .ok (.iastore, 1) := by decide +kernel
theorem dX7_notes_90 : decode cX7_notes 90 = .ok (.iinc 2 1, 3) := by decide +kernel
theorem dX7_notes_93 : decode cX7_notes 93 = .ok (.goto (-91), 3) := by decide +kernel
theorem dX7_notes_96 : decode cX7_notes 96 = .ok (.aload_n 0, 1) := by decide +kernel
theorem dX7_notes_97 : decode cX7_notes 97 = .ok (.getfield 76, 3) := by decide +kernel
theorem dX7_notes_100 : decode cX7_notes 100 = .ok (.iload_n 1, 1) := by decide +kernel
theorem dX7_notes_101 : decode cX7_notes 101 = .ok (.aload_n 0, 1) := by decide +kernel
theorem dX7_notes_102 : decode cX7_notes 102 = .ok (.getfield 70, 3) := by decide +kernel
theorem dX7_notes_105 : decode cX7_notes 105 = .ok (.iconst 0, 1) := by decide +kernel
theorem dX7_notes_106 : decode cX7_notes 106 = .ok (.iaload, 1) := by decide +kernel
theorem dX7_notes_107 : decode cX7_notes 107 = .ok (.bipush 10, 2) := by decide +kernel
theorem dX7_notes_109 : decode cX7_notes 109 = .ok (.aload_n 0, 1) := by decide +kernel
theorem dX7_notes_110 : decode cX7_notes 110 = .ok (.getfield 70, 3) := by decide +kernel
theorem dX7_notes_113 : decode cX7_notes 113 = .ok (.iconst 1, 1) := by decide +kernel
theorem dX7_notes_114 : decode cX7_notes 114 = .ok (.iaload, 1) := by decide +kernel
theorem dX7_notes_115 : decode cX7_notes 115 = .ok (.imul, 1) := by decide +kernel
theorem dX7_notes_116 : decode cX7_notes 116 = .ok (.iadd, 1) := by decide +kernel
theorem dX7_notes_117 : decode cX7_notes 117 = .ok (.bipush 100, 2) := by decide +kernel
theorem dX7_notes_119 : decode cX7_notes 119 = .ok (.aload_n 0, 1) := by decide +kernel
theorem dX7_notes_120 : decode cX7_notes 120 = .ok (.getfield 70, 3) := by decide +kernel
theorem dX7_notes_123 : decode cX7_notes 123 = .ok (.iconst 2, 1) := by decide +kernel
theorem dX7_notes_124 : decode cX7_notes 124 = .ok (.iaload, 1) := by decide +kernel
theorem dX7_notes_125 : decode cX7_notes 125 = .ok (.imul, 1) := by decide +kernel
theorem dX7_notes_126 : decode cX7_notes 126 = .ok (.iadd, 1) := by decide +kernel
theorem dX7_notes_127 : decode cX7_notes 127 = .ok (.iastore, 1) := by decide +kernel
theorem dX7_notes_128 : decode cX7_notes 128 = .ok (.bipush 60, 2) := by decide +kernel
theorem dX7_notes_130 : decode cX7_notes 130 = .ok (.iload_n 1, 1) := by decide +kernel
theorem dX7_notes_131 : decode cX7_notes 131 = .ok (.imul, 1) := by decide +kernel
theorem dX7_notes_132 : decode cX7_notes 132 = .ok (.istore_n 2, 1) := by decide +kernel
theorem dX7_notes_133 : decode cX7_notes 133 = .ok (.iload_n 2, 1) := by decide +kernel
theorem dX7_notes_134 : decode cX7_notes 134 = .ok (.bipush 60, 2) := by decide +kernel
theorem dX7_notes_136 : decode cX7_notes 136 = .ok (.iload_n 1, 1) := by decide +kernel
theorem dX7_notes_137 : decode cX7_notes 137 = .ok (.imul, 1) := by decide +kernel
theorem dX7_notes_138 : decode cX7_notes 138 = .ok (.bipush 60, 2) := by decide +kernel
theorem dX7_notes_140 : decode cX7_notes 140 = .ok (.iadd, 1) := by decide +kernel
theorem dX7_notes_141 : decode cX7_notes 141 = .ok (.if_icmp .ge 16, 3) := by decide +kernel
theorem dX7_notes_144 : decode cX7_notes 144 = .ok (.aload_n 0, 1) := by decide +kernel
theorem dX7_notes_145 : decode cX7_notes 145 = .ok (.getfield 79, 3) := by decide +kernel
theorem dX7_notes_148 : decode cX7_notes 148 = .ok (.iload_n 2, 1) := by decide +kernel
theorem dX7_notes_149 : decode cX7_notes 149 = .ok (.iconst 0, 1) := by decide +kernel
theorem dX7_notes_150 : decode cX7_notes 150 = .ok (.iastore, 1) := by decide +kernel
theorem dX7_notes_151 : decode cX7_notes 151 = .ok (.iinc 2 1, 3) := by decide +kernel
theorem dX7_notes_154 : decode cX7_notes 154 = .ok (.goto (-21), 3) := by decide +kernel
theorem dX7_notes_157 : decode cX7_notes 157 = .ok (.iconst 0, 1) := by decide +kernel
theorem dX7_notes_158 : decode cX7_notes 158 = .ok (.istore_n 2, 1) := by decide +kernel
theorem dX7_notes_159 : decode cX7_notes 159 = .ok (.iload_n 2, 1) := by decide +kernel
theorem dX7_notes_160 : decode cX7_notes 160 = .ok (.aload_n 0, 1) := by decide +kernel
theorem dX7_notes_161 : decode cX7_notes 161 = .ok (.getfield 105, 3) := by decide +kernel
theorem dX7_notes_164 : decode cX7_notes 164 = .ok (.if_icmp .ge 91, 3) := by decide +kernel
theorem dX7_notes_167 : decode cX7_notes 167 = .ok (.aload_n 0, 1) := by decide +kernel
theorem dX7_notes_168 : decode cX7_notes 168 = .ok (.getfield 34, 3) := by decide +kernel
theorem dX7_notes_171 : decode cX7_notes 171 = .ok (.iload_n 2, 1) := by decide +kernel
theorem dX7_notes_172 : decode cX7_notes 172 = .ok (.iaload, 1) := by decide +kernel
theorem dX7_notes_173 : decode cX7_notes 173 = .ok (.iconst 2, 1) := by decide +kernel
theorem dX7_notes_174 : decode cX7_notes 174 = .ok (.if_icmp .ne 75, 3) := by decide +kernel
theorem dX7_notes_177 : decode cX7_notes 177 = .ok (.bipush 60, 2) := by decide +kernel
theorem dX7_notes_179 : decode cX7_notes 179 = .ok (.iload_n 1, 1) := by decide +kernel
theorem dX7_notes_180 : decode cX7_notes 180 = .ok (.imul, 1) := by decide +kernel
theorem dX7_notes_181 : decode cX7_notes 181 = .ok (.bipush 20, 2) := by decide +kernel
theorem dX7_notes_183 : decode cX7_notes 183 = .ok (.aload_n 0, 1) := by decide +kernel
theorem dX7_notes_184 : decode cX7_notes 184 = .ok (.getfield 40, 3) := by decide +kernel
theorem dX7_notes_187 : decode cX7_notes 187 = .ok (.iload_n 2, 1) := by decide +kernel
theorem dX7_notes_188 : decode cX7_notes 188 = .ok (.iaload, 1) := by decide +kernel
theorem dX7_notes_189 : decode cX7_notes 189 = .ok (.imul, 1) := by decide +kernel
theorem dX7_notes_190 : decode cX7_notes 190 = .ok (.iadd, 1) := by decide +kernel
theorem dX7_notes_191 : decode cX7_notes 191 = .ok (.iconst 2, 1) := by decide +kernel
theorem dX7_notes_192 : decode cX7_notes 192 = .ok (.aload_n 0, 1) := by decide +kernel
theorem dX7_notes_193 : decode cX7_notes 193 = .ok (.getfield 43, 3) := by decide +kernel
theorem dX7_notes_196 : decode cX7_notes 196 = .ok (.iload_n 2, 1) := by decide +kernel
theorem dX7_notes_197 : decode cX7_notes 197 = .ok (.iaload, 1) := by decide +kernel
theorem dX7_notes_198 : decode cX7_notes 198 = .ok (.imul, 1) := by decide +kernel
theorem dX7_notes_199 : decode cX7_notes 199 = .ok (.iadd, 1) := by decide +kernel
theorem dX7_notes_200 : decode cX7_notes 200 = .ok (.istore_n 3, 1) := by decide +kernel
theorem dX7_notes_201 : decode cX7_notes 201 = .ok (.aload_n 0, 1) := by decide +kernel
theorem dX7_notes_202 : decode cX7_notes 202 = .ok (.getfield 79, 3) := by decide +kernel
theorem dX7_notes_205 : decode cX7_notes 205 = .ok (.iload_n 3, 1) := by decide +kernel
theorem dX7_notes_206 : decode cX7_notes 206 = .ok (.aload_n 0, 1) := by decide +kernel
theorem dX7_notes_207 : decode cX7_notes 207 = .ok (.getfield 46, 3) := by decide +kernel
theorem dX7_notes_210 : decode cX7_notes 210 = .ok (.iload_n 2, 1) := by decide +kernel
theorem dX7_notes_211 : decode cX7_notes 211 = .ok (.iaload, 1) := by decide +kernel
theorem dX7_notes_212 : decode cX7_notes 212 = .ok (.iadd, 1) := by decide +kernel
theorem dX7_notes_213 : decode cX7_notes 213 = .ok (.iload_n 2, 1) := by decide +kernel
theorem dX7_notes_214 : decode cX7_notes 214 = .ok (.iconst 1, 1) := by decide +kernel
theorem dX7_notes_215 : decode cX7_notes 215 = .ok (.iadd, 1) := by decide +kernel
theorem dX7_notes_216 : decode cX7_notes 216 = .ok (.iastore, 1) := by decide +kernel
theorem dX7_notes_217 : decode cX7_notes 217 = .ok (.aload_n 0, 1) := by decide +kernel
theorem dX7_notes_218 : decode cX7_notes 218 = .ok (.getfield 79, 3) := by decide +kernel
theorem dX7_notes_221 : decode cX7_notes 221 = .ok (.iload_n 3, 1) := by decide +kernel
theorem dX7_notes_222 : decode cX7_notes 222 = .ok (.iconst 1, 1) := by decide +kernel
theorem dX7_notes_223 : decode cX7_notes 223 = .ok (.iadd, 1) := by decide +kernel
theorem dX7_notes_224 : decode cX7_notes 224 = .ok (.aload_n 0, 1) := by decide +kernel
theorem dX7_notes_225 : decode cX7_notes 225 = .ok (.getfield 37, 3) := by decide +kernel
theorem dX7_notes_228 : decode cX7_notes 228 = .ok (.iload_n 2, 1) := by decide +kernel
theorem dX7_notes_229 : decode cX7_notes 229 = .ok (.iaload, 1) := by decide +kernel
theorem dX7_notes_230 : decode cX7_notes 230 = .ok (.iconst 2, 1) := by decide +kernel
theorem dX7_notes_231 : decode cX7_notes 231 = .ok (.if_icmp .ne 9, 3) := by decide +kernel
theorem dX7_notes_234 : decode cX7_notes 234 = .ok (.iload_n 2, 1) := by decide +kernel
theorem dX7_notes_235 : decode cX7_notes 235 = .ok (.iconst 1, 1) := by decide +kernel
theorem dX7_notes_236 : decode cX7_notes 236 = .ok (.iadd, 1) := by decide +kernel
theorem dX7_notes_237 : decode cX7_notes 237 = .ok (.goto 11, 3) := by decide +kernel
theorem dX7_notes_240 : decode cX7_notes 240 = .ok (.aload_n 0, 1) := by decide +kernel
theorem dX7_notes_241 : decode cX7_notes 241 = .ok (.getfield 79, 3) := by decide +kernel
theorem dX7_notes_244 : decode cX7_notes 244 = .ok (.iload_n 3, 1) := by decide +kernel
theorem dX7_notes_245 : decode cX7_notes 245 = .ok (.iconst 1, 1) := by decide +kernel
theorem dX7_notes_246 : decode cX7_notes 246 = .ok (.iadd, 1) := by decide +kernel
theorem dX7_notes_247 : decode cX7_notes 247 = .ok (.iaload, 1) := by decide +kernel
theorem dX7_notes_248 : decode cX7_notes 248 = .ok (.iastore, 1) := by decide +kernel
theorem dX7_notes_249 : decode cX7_notes 249 = .ok (.iinc 2 1, 3) := by decide +kernel
theorem dX7_notes_252 : decode cX7_notes 252 = .ok (.goto (-93), 3) := by decide +kernel
theorem dX7_notes_255 : decode cX7_notes 255 = .ok (.return_, 1) := by decide +kernel
theorem dX7_begins_0 : decode cX7_begins 0 = .ok (.iconst 0, 1) := by decide +kernel
theorem dX7_begins_1 : decode cX7_begins 1 = .ok (.istore_n 1, 1) := by decide +kernel
theorem dX7_begins_2 : decode cX7_begins 2 = .ok (.iload_n 1, 1) := by decide +kernel
theorem dX7_begins_3 : decode cX7_begins 3 = .ok (.bipush 14, 2) := by decide +kernel
theorem dX7_begins_5 : decode cX7_begins 5 = .ok (.if_icmp .ge 63, 3) := by decide +kernel
theorem dX7_begins_8 : decode cX7_begins 8 = .ok (.aload_n 0, 1) := by decide +kernel
theorem dX7_begins_9 : decode cX7_begins 9 = .ok (.getfield 34, 3) := by decide +kernel
theorem dX7_begins_12 : decode cX7_begins 12 = .ok (.iload_n 1, 1) := by decide +kernel
theorem dX7_begins_13 : decode cX7_begins 13 = .ok (.iconst 0, 1) := by decide +kernel
theorem dX7_begins_14 : decode cX7_begins 14 = .ok (.iastore, 1) := by decide +kernel
theorem dX7_begins_15 : decode cX7_begins 15 = .ok (.aload_n 0, 1) := by decide +kernel
theorem dX7_begins_16 : decode cX7_begins 16 = .ok (.getfield 37, 3) := by decide +kernel
theorem dX7_begins_19 : decode cX7_begins 19 = .ok (.iload_n 1, 1) := by decide +kernel
theorem dX7_begins_20 : decode cX7_begins 20 = .ok (.aload_n 0, 1) := by decide +kernel
theorem dX7_begins_21 : decode cX7_begins 21 = .ok (.getfield 16, 3) := by decide +kernel
theorem dX7_begins_24 : decode cX7_begins 24 = .ok (.iconst 3, 1) := by decide +kernel
theorem dX7_begins_25 : decode cX7_begins 25 = .ok (.iload_n 1, 1) := by decide +kernel
theorem dX7_begins_26 : decode cX7_begins 26 = .ok (.imul, 1) := by decide +kernel
theorem dX7_begins_27 : decode cX7_begins 27 = .ok (.iconst 2, 1) := by decide +kernel
theorem dX7_begins_28 : decode cX7_begins 28 = .ok (.iadd, 1) := by decide +kernel
theorem dX7_begins_29 : decode cX7_begins 29 = .ok (.iaload, 1) := by decide +kernel
theorem dX7_begins_30 : decode cX7_begins 30 = .ok (.iastore, 1) := by decide +kernel
theorem dX7_begins_31 : decode cX7_begins 31 = .ok (.aload_n 0, 1) := by decide +kernel
theorem dX7_begins_32 : decode cX7_begins 32 = .ok (.getfield 55, 3) := by decide +kernel
theorem dX7_begins_35 : decode cX7_begins 35 = .ok (.iload_n 1, 1) := by decide +kernel
theorem dX7_begins_36 : decode cX7_begins 36 = .ok (.bipush (-4), 2) := by decide +kernel
theorem dX7_begins_38 : decode cX7_begins 38 = .ok (.iastore, 1) := by decide +kernel
theorem dX7_begins_39 : decode cX7_begins 39 = .ok (.aload_n 0, 1) := by decide +kernel
theorem dX7_begins_40 : decode cX7_begins 40 = .ok (.getfield 58, 3) := by decide +kernel
theorem dX7_begins_43 : decode cX7_begins 43 = .ok (.iload_n 1, 1) := by decide +kernel
theorem dX7_begins_44 : decode cX7_begins 44 = .ok (.bipush (-4), 2) := by decide +kernel
theorem dX7_begins_46 : decode cX7_begins 46 = .ok (.iastore, 1) := by decide +kernel
theorem dX7_begins_47 : decode cX7_begins 47 = .ok (.aload_n 0, 1) := by decide +kernel
theorem dX7_begins_48 : decode cX7_begins 48 = .ok (.getfield 61, 3) := by decide +kernel
theorem dX7_begins_51 : decode cX7_begins 51 = .ok (.iload_n 1, 1) := by decide +kernel
theorem dX7_begins_52 : decode cX7_begins 52 = .ok (.bipush (-4), 2) := by decide +kernel
theorem dX7_begins_54 : decode cX7_begins 54 = .ok (.iastore, 1) := by decide +kernel
theorem dX7_begins_55 : decode cX7_begins 55 = .ok (.aload_n 0, 1) := by decide +kernel
theorem dX7_begins_56 : decode cX7_begins 56 = .ok (.getfield 64, 3) := by decide +kernel
theorem dX7_begins_59 : decode cX7_begins 59 = .ok (.iload_n 1, 1) := by decide +kernel
theorem dX7_begins_60 : decode cX7_begins 60 = .ok (.iconst 0, 1) := by decide +kernel
theorem dX7_begins_61 : decode cX7_begins 61 = .ok (.iastore, 1) := by decide +kernel
theorem dX7_begins_62 : decode cX7_begins 62 = .ok (.iinc 1 1, 3) := by decide +kernel
theorem dX7_begins_65 : decode cX7_begins 65 = .ok (.goto (-63), 3) := by decide +kernel
theorem dX7_begins_68 : decode cX7_begins 68 = .ok (.iconst 0, 1) := by decide +kernel
theorem dX7_begins_69 : decode cX7_begins 69 = .ok (.istore_n 1, 1) := by decide +kernel
theorem dX7_begins_70 : decode cX7_begins 70 = .ok (.iload_n 1, 1) := by decide +kernel
theorem dX7_begins_71 : decode cX7_begins 71 = .ok (.iconst 3, 1) := by decide +kernel
theorem dX7_begins_72 : decode cX7_begins 72 = .ok (.if_icmp .ge 28, 3) := by decide +kernel
theorem dX7_begins_75 : decode cX7_begins 75 = .ok (.aload_n 0, 1) := by decide +kernel
theorem dX7_begins_76 : decode cX7_begins 76 = .ok (.getfield 67, 3) := by decide +kernel
theorem dX7_begins_79 : decode cX7_begins 79 = .ok (.iload_n 1, 1) := by decide +kernel
theorem dX7_begins_80 : decode cX7_begins 80 = .ok (.aload_n 0, 1) := by decide +kernel
theorem dX7_begins_81 : decode cX7_begins 81 = .ok (.getfield 25, 3) := by decide +kernel
theorem dX7_begins_84 : decode cX7_begins 84 = .ok (.iload_n 1, 1) := by decide +kernel
theorem dX7_begins_85 : decode cX7_begins 85 = .ok (.iaload, 1) := by decide +kernel
theorem dX7_begins_86 : decode cX7_begins 86 = .ok (.iastore, 1) := by decide +kernel
theorem dX7_begins_87 : decode cX7_begins 87 = .ok (.aload_n 0, 1) := by decide +kernel
theorem dX7_begins_88 : decode cX7_begins 88 = .ok (.getfield 70, 3) := by decide +kernel
theorem dX7_begins_91 : decode cX7_begins 91 = .ok (.iload_n 1, 1) := by decide +kernel
theorem dX7_begins_92 : decode cX7_begins 92 = .ok (.iconst 0, 1) := by decide +kernel
theorem dX7_begins_93 : decode cX7_begins 93 = .ok (.iastore, 1) := by decide +kernel
theorem dX7_begins_94 : decode cX7_begins 94 = .ok (.iinc 1 1, 3) := by decide +kernel
theorem dX7_begins_97 : decode cX7_begins 97 = .ok (.goto (-27), 3) := by decide +kernel
theorem dX7_begins_100 : decode cX7_begins 100 = .ok (.aload_n 0, 1) := by decide +kernel
theorem dX7_begins_101 : decode cX7_begins 101 = .ok (.iconst 0, 1) := by decide +kernel
theorem dX7_begins_102 : decode cX7_begins 102 = .ok (.putfield 216, 3) := by decide +kernel
theorem dX7_begins_105 : decode cX7_begins 105 = .ok (.aload_n 0, 1) := by decide +kernel
theorem dX7_begins_106 : decode cX7_begins 106 = .ok (.iconst 0, 1) := by decide +kernel
theorem dX7_begins_107 : decode cX7_begins 107 = .ok (.putfield 197, 3) := by decide +kernel
theorem dX7_begins_110 : decode cX7_begins 110 = .ok (.aload_n 0, 1) := by decide +kernel
theorem dX7_begins_111 : decode cX7_begins 111 = .ok (.iconst 0, 1) := by decide +kernel
theorem dX7_begins_112 : decode cX7_begins 112 = .ok (.putfield 213, 3) := by decide +kernel
theorem dX7_begins_115 : decode cX7_begins 115 = .ok (.aload_n 0, 1) := by decide +kernel
theorem dX7_begins_116 : decode cX7_begins 116 = .ok (.iconst 0, 1) := by decide +kernel
theorem dX7_begins_117 : decode cX7_begins 117 = .ok (.putfield 210, 3) := by decide +kernel
theorem dX7_begins_120 : decode cX7_begins 120 = .ok (.return_, 1) := by decide +kernel
theorem dX7_runs_0 : decode cX7_runs 0 = .ok (.aload_n 0, 1) := by decide +kernel
theorem dX7_runs_1 : decode cX7_runs 1 = .ok (.invokevirtual 219, 3) := by decide +kernel
theorem dX7_runs_4 : decode cX7_runs 4 = .ok (.iconst 0, 1) := by decide +kernel
theorem dX7_runs_5 : decode cX7_runs 5 = .ok (.istore_n 1, 1) := by decide +kernel
theorem dX7_runs_6 : decode cX7_runs 6 = .ok (.iload_n 1, 1) := by decide +kernel
theorem dX7_runs_7 : decode cX7_runs 7 = .ok (.bipush 100, 2) := by decide +kernel
theorem dX7_runs_9 : decode cX7_runs 9 = .ok (.if_icmp .ge 201, 3) := by decide +kernel
theorem dX7_runs_12 : decode cX7_runs 12 = .ok (.iconst 0, 1) := by decide +kernel
theorem dX7_runs_13 : decode cX7_runs 13 = .ok (.istore_n 2, 1) := by decide +kernel
theorem dX7_runs_14 : decode cX7_runs 14 = .ok (.iload_n 2, 1) := by decide +kernel
theorem dX7_runs_15 : decode cX7_runs 15 = .ok (.aload_n 0, 1) := by decide +kernel
theorem dX7_runs_16 : decode cX7_runs 16 = .ok (.getfield 105, 3) := by decide +kernel
theorem dX7_runs_19 : decode cX7_runs 19 = .ok (.if_icmp .ge 45, 3) := by decide +kernel
theorem dX7_runs_22 : decode cX7_runs 22 = .ok (.aload_n 0, 1) := by decide +kernel
theorem dX7_runs_23 : decode cX7_runs 23 = .ok (.getfield 34, 3) := by decide +kernel
theorem dX7_runs_26 : decode cX7_runs 26 = .ok (.iload_n 2, 1) := by decide +kernel
theorem dX7_runs_27 : decode cX7_runs 27 = .ok (.aload_n 0, 1) := by decide +kernel
theorem dX7_runs_28 : decode cX7_runs 28 = .ok (.getfield 16, 3) := by decide +kernel
theorem dX7_runs_31 : decode cX7_runs 31 = .ok (.iconst 3, 1) := by decide +kernel
theorem dX7_runs_32 : decode cX7_runs 32 = .ok (.iload_n 2, 1) := by decide +kernel
theorem dX7_runs_33 : decode cX7_runs 33 = .ok (.imul, 1) := by decide +kernel
theorem dX7_runs_34 : decode cX7_runs 34 = .ok (.iaload, 1) := by decide +kernel
theorem dX7_runs_35 : decode cX7_runs 35 = .ok (.iload_n 1, 1) := by decide +kernel
theorem dX7_runs_36 : decode cX7_runs 36 = .ok (.if_icmp .ne 15, 3) := by decide +kernel
theorem dX7_runs_39 : decode cX7_runs 39 = .ok (.iload_n 2, 1) := by decide +kernel
theorem dX7_runs_40 : decode cX7_runs 40 = .ok (.aload_n 0, 1) := by decide +kernel
theorem dX7_runs_41 : decode cX7_runs 41 = .ok (.getfield 191, 3) := by decide +kernel
theorem dX7_runs_44 : decode cX7_runs 44 = .ok (.if_icmp .eq 7, 3) := by decide +kernel
theorem dX7_runs_47 : decode cX7_runs 47 = .ok (.iconst 1, 1) := by decide +kernel
theorem dX7_runs_48 : decode cX7_runs 48 = .ok (.goto 9, 3) := by decide +kernel
theorem dX7_runs_51 : decode cX7_runs 51 = .ok (.aload_n 0, 1) := by decide +kernel
theorem dX7_runs_52 : decode cX7_runs 52 = .ok (.getfield 34, 3) := by decide +kernel
theorem dX7_runs_55 : decode cX7_runs 55 = .ok (.iload_n 2, 1) := by decide +kernel
theorem dX7_runs_56 : decode cX7_runs 56 = .ok (.iaload, 1) := by decide +kernel
theorem dX7_runs_57 : decode cX7_runs 57 = .ok (.iastore, 1) := by decide +kernel
theorem dX7_runs_58 : decode cX7_runs 58 = .ok (.iinc 2 1, 3) := by decide +kernel
theorem dX7_runs_61 : decode cX7_runs 61 = .ok (.goto (-47), 3) := by decide +kernel
theorem dX7_runs_64 : decode cX7_runs 64 = .ok (.aload_n 0, 1) := by decide +kernel
theorem dX7_runs_65 : decode cX7_runs 65 = .ok (.getfield 185, 3) := by decide +kernel
theorem dX7_runs_68 : decode cX7_runs 68 = .ok (.iload_n 1, 1) := by decide +kernel
theorem dX7_runs_69 : decode cX7_runs 69 = .ok (.if_icmp .ne 12, 3) := by decide +kernel
theorem dX7_runs_72 : decode cX7_runs 72 = .ok (.iload_n 1, 1) := by decide +kernel
theorem dX7_runs_73 : decode cX7_runs 73 = .ok (.ifCond .le 8, 3) := by decide +kernel
theorem dX7_runs_76 : decode cX7_runs 76 = .ok (.aload_n 0, 1) := by decide +kernel
theorem dX7_runs_77 : decode cX7_runs 77 = .ok (.iload_n 1, 1) := by decide +kernel
theorem dX7_runs_78 : decode cX7_runs 78 = .ok (.invokevirtual 222, 3) := by decide +kernel
theorem dX7_runs_81 : decode cX7_runs 81 = .ok (.iconst 0, 1) := by decide +kernel
theorem dX7_runs_82 : decode cX7_runs 82 = .ok (.istore_n 2, 1) := by decide +kernel
theorem dX7_runs_83 : decode cX7_runs 83 = .ok (.iload_n 2, 1) := by decide +kernel
theorem dX7_runs_84 : decode cX7_runs 84 = .ok (.aload_n 0, 1) := by decide +kernel
theorem dX7_runs_85 : decode cX7_runs 85 = .ok (.getfield 97, 3) := by decide +kernel
theorem dX7_runs_88 : decode cX7_runs 88 = .ok (.if_icmp .ge 55, 3) := by decide +kernel
theorem dX7_runs_91 : decode cX7_runs 91 = .ok (.aload_n 0, 1) := by decide +kernel
theorem dX7_runs_92 : decode cX7_runs 92 = .ok (.iload_n 2, 1) := by decide +kernel
theorem dX7_runs_93 : decode cX7_runs 93 = .ok (.invokevirtual 226, 3) := by decide +kernel
theorem dX7_runs_96 : decode cX7_runs 96 = .ok (.ifCond .eq 41, 3) := by decide +kernel
theorem dX7_runs_99 : decode cX7_runs 99 = .ok (.iconst 1, 1) := by decide +kernel
theorem dX7_runs_100 : decode cX7_runs 100 = .ok (.istore_n 3, 1) := by decide +kernel
theorem dX7_runs_101 : decode cX7_runs 101 = .ok (.iconst 0, 1) := by decide +kernel
theorem dX7_runs_102 : decode cX7_runs 102 = .ok (.istore 4, 2) := by decide +kernel
theorem dX7_runs_104 : decode cX7_runs 104 = .ok (.iload 4, 2) := by decide +kernel
theorem dX7_runs_106 : decode cX7_runs 106 = .ok (.aload_n 0, 1) := by decide +kernel
theorem dX7_runs_107 : decode cX7_runs 107 = .ok (.getfield 31, 3) := by decide +kernel
theorem dX7_runs_110 : decode cX7_runs 110 = .ok (.iload_n 2, 1) := by decide +kernel
theorem dX7_runs_111 : decode cX7_runs 111 = .ok (.iaload, 1) := by decide +kernel
theorem dX7_runs_112 : decode cX7_runs 112 = .ok (.if_icmp .ge 20, 3) := by decide +kernel
theorem dX7_runs_115 : decode cX7_runs 115 = .ok (.iload_n 3, 1) := by decide +kernel
theorem dX7_runs_116 : decode cX7_runs 116 = .ok (.ifCond .eq 16, 3) := by decide +kernel
theorem dX7_runs_119 : decode cX7_runs 119 = .ok (.aload_n 0, 1) := by decide +kernel
theorem dX7_runs_120 : decode cX7_runs 120 = .ok (.iload_n 2, 1) := by decide +kernel
theorem dX7_runs_121 : decode cX7_runs 121 = .ok (.iload_n 1, 1) := by decide +kernel
theorem dX7_runs_122 : decode cX7_runs 122 = .ok (.invokevirtual 229, 3) := by decide +kernel
theorem dX7_runs_125 : decode cX7_runs 125 = .ok (.istore_n 3, 1) := by decide +kernel
theorem dX7_runs_126 : decode cX7_runs 126 = .ok (.iinc 4 1, 3) := by decide +kernel
theorem dX7_runs_129 : decode cX7_runs 129 = .ok (.goto (-25), 3) := by decide +kernel
theorem dX7_runs_132 : decode cX7_runs 132 = .ok (.aload_n 0, 1) := by decide +kernel
theorem dX7_runs_133 : decode cX7_runs 133 = .ok (.iload_n 2, 1) := by decide +kernel
theorem dX7_runs_134 : decode cX7_runs 134 = .ok (.invokevirtual 232, 3) := by decide +kernel
theorem dX7_runs_137 : decode cX7_runs 137 = .ok (.iinc 2 1, 3) := by decide +kernel
theorem dX7_runs_140 : decode cX7_runs 140 = .ok (.goto (-57), 3) := by decide +kernel
theorem dX7_runs_143 : decode cX7_runs 143 = .ok (.aload_n 0, 1) := by decide +kernel
theorem dX7_runs_144 : decode cX7_runs 144 = .ok (.iload_n 1, 1) := by decide +kernel
theorem dX7_runs_145 : decode cX7_runs 145 = .ok (.invokevirtual 235, 3) := by decide +kernel
theorem dX7_runs_148 : decode cX7_runs 148 = .ok (.iconst 0, 1) := by decide +kernel
theorem dX7_runs_149 : decode cX7_runs 149 = .ok (.istore_n 2, 1) := by decide +kernel
theorem dX7_runs_150 : decode cX7_runs 150 = .ok (.iload_n 2, 1) := by decide +kernel
theorem dX7_runs_151 : decode cX7_runs 151 = .ok (.aload_n 0, 1) := by decide +kernel
theorem dX7_runs_152 : decode cX7_runs 152 = .ok (.getfield 97, 3) := by decide +kernel
theorem dX7_runs_155 : decode cX7_runs 155 = .ok (.if_icmp .ge 23, 3) := by decide +kernel
theorem dX7_runs_158 : decode cX7_runs 158 = .ok (.aload_n 0, 1) := by decide +kernel
theorem dX7_runs_159 : decode cX7_runs 159 = .ok (.iload_n 2, 1) := by decide +kernel
theorem dX7_runs_160 : decode cX7_runs 160 = .ok (.invokevirtual 226, 3) := by decide +kernel
theorem dX7_runs_163 : decode cX7_runs 163 = .ok (.ifCond .eq 9, 3) := by decide +kernel
theorem dX7_runs_166 : decode cX7_runs 166 = .ok (.aload_n 0, 1) := by decide +kernel
theorem dX7_runs_167 : decode cX7_runs 167 = .ok (.iload_n 2, 1) := by decide +kernel
theorem dX7_runs_168 : decode cX7_runs 168 = .ok (.iload_n 1, 1) := by decide +kernel
theorem dX7_runs_169 : decode cX7_runs 169 = .ok (.invokevirtual 238, 3) := by decide +kernel
theorem dX7_runs_172 : decode cX7_runs 172 = .ok (.iinc 2 1, 3) := by decide +kernel
theorem dX7_runs_175 : decode cX7_runs 175 = .ok (.goto (-25), 3) := by decide +kernel
theorem dX7_runs_178 : decode cX7_runs 178 = .ok (.iconst 0, 1) := by decide +kernel
theorem dX7_runs_179 : decode cX7_runs 179 = .ok (.istore_n 2, 1) := by decide +kernel
theorem dX7_runs_180 : decode cX7_runs 180 = .ok (.iload_n 2, 1) := by decide +kernel
theorem dX7_runs_181 : decode cX7_runs 181 = .ok (.aload_n 0, 1) := by decide +kernel
theorem dX7_runs_182 : decode cX7_runs 182 = .ok (.getfield 97, 3) := by decide +kernel
theorem dX7_runs_185 : decode cX7_runs 185 = .ok (.if_icmp .ge 14, 3) := by decide +kernel
theorem dX7_runs_188 : decode cX7_runs 188 = .ok (.aload_n 0, 1) := by decide +kernel
theorem dX7_runs_189 : decode cX7_runs 189 = .ok (.iload_n 2, 1) := by decide +kernel
theorem dX7_runs_190 : decode cX7_runs 190 = .ok (.invokevirtual 242, 3) := by decide +kernel
theorem dX7_runs_193 : decode cX7_runs 193 = .ok (.iinc 2 1, 3) := by decide +kernel
theorem dX7_runs_196 : decode cX7_runs 196 = .ok (.goto (-16), 3) := by decide +kernel
theorem dX7_runs_199 : decode cX7_runs 199 = .ok (.aload_n 0, 1) := by decide +kernel
theorem dX7_runs_200 : decode cX7_runs 200 = .ok (.iload_n 1, 1) := by decide +kernel
theorem dX7_runs_201 : decode cX7_runs 201 = .ok (.invokevirtual 245, 3) := by decide +kernel
theorem dX7_runs_204 : decode cX7_runs 204 = .ok (.iinc 1 1, 3) := by decide +kernel
theorem dX7_runs_207 : decode cX7_runs 207 = .ok (.goto (-201), 3) := by decide +kernel
theorem dX7_runs_210 : decode cX7_runs 210 = .ok (.iconst 0, 1) := by decide +kernel
theorem dX7_runs_211 : decode cX7_runs 211 = .ok (.istore_n 1, 1) := by decide +kernel
theorem dX7_runs_212 : decode cX7_runs 212 = .ok (.iload_n 1, 1) := by decide +kernel
theorem dX7_runs_213 : decode cX7_runs 213 = .ok (.aload_n 0, 1) := by decide +kernel
theorem dX7_runs_214 : decode cX7_runs 214 = .ok (.getfield 105, 3) := by decide +kernel
theorem dX7_runs_217 : decode cX7_runs 217 = .ok (.if_icmp .ge 45, 3) := by decide +kernel
theorem dX7_runs_220 : decode cX7_runs 220 = .ok (.aload_n 0, 1) := by decide +kernel
theorem dX7_runs_221 : decode cX7_runs 221 = .ok (.getfield 64, 3) := by decide +kernel
theorem dX7_runs_224 : decode cX7_runs 224 = .ok (.iload_n 1, 1) := by decide +kernel
theorem dX7_runs_225 : decode cX7_runs 225 = .ok (.aload_n 0, 1) := by decide +kernel
theorem dX7_runs_226 : decode cX7_runs 226 = .ok (.getfield 34, 3) := by decide +kernel
theorem dX7_runs_229 : decode cX7_runs 229 = .ok (.iload_n 1, 1) := by decide +kernel
theorem dX7_runs_230 : decode cX7_runs 230 = .ok (.iaload, 1) := by decide +kernel
theorem dX7_runs_231 : decode cX7_runs 231 = .ok (.iconst 1, 1) := by decide +kernel
theorem dX7_runs_232 : decode cX7_runs 232 = .ok (.if_icmp .ne 17, 3) := by decide +kernel
theorem dX7_runs_235 : decode cX7_runs 235 = .ok (.bipush 100, 2) := by decide +kernel
theorem dX7_runs_237 : decode cX7_runs 237 = .ok (.aload_n 0, 1) := by decide +kernel
theorem dX7_runs_238 : decode cX7_runs 238 = .ok (.getfield 16, 3) := by decide +kernel
theorem dX7_runs_241 : decode cX7_runs 241 = .ok (.iconst 3, 1) := by decide +kernel
theorem dX7_runs_242 : decode cX7_runs 242 = .ok (.iload_n 1, 1) := by decide +kernel
theorem dX7_runs_243 : decode cX7_runs 243 = .ok (.imul, 1) := by decide +kernel
theorem dX7_runs_244 : decode cX7_runs 244 = .ok (.iaload, 1) := by decide +kernel
theorem dX7_runs_245 : decode cX7_runs 245 = .ok (.isub, 1) := by decide +kernel
theorem dX7_runs_246 : decode cX7_runs 246 = .ok (.goto 9, 3) := by decide +kernel
theorem dX7_runs_249 : decode cX7_runs 249 = .ok (.aload_n 0, 1) := by decide +kernel
theorem dX7_runs_250 : decode cX7_runs 250 = .ok (.getfield 64, 3) := by decide +kernel
theorem dX7_runs_253 : decode cX7_runs 253 = .ok (.iload_n 1, 1) := by decide +kernel
theorem dX7_runs_254 : decode cX7_runs 254 = .ok (.iaload, 1) := by decide +kernel
theorem dX7_runs_255 : decode cX7_runs 255 = .ok (.iastore, 1) := by decide +kernel
theorem dX7_runs_256 : decode cX7_runs 256 = .ok (.iinc 1 1, 3) := by decide +kernel
theorem dX7_runs_259 : decode cX7_runs 259 = .ok (.goto (-47), 3) := by decide +kernel
theorem dX7_runs_262 : decode cX7_runs 262 = .ok (.return_, 1) := by decide +kernel
theorem dX7_waits_0 : decode cX7_waits 0 = .ok (.iconst 0, 1) := by decide +kernel
theorem dX7_waits_1 : decode cX7_waits 1 = .ok (.istore_n 1, 1) := by decide +kernel
theorem dX7_waits_2 : decode cX7_waits 2 = .ok (.iconst 0, 1) := by decide +kernel
theorem dX7_waits_3 : decode cX7_waits 3 = .ok (.istore_n 2, 1) := by decide +kernel
theorem dX7_waits_4 : decode cX7_waits 4 = .ok (.iload_n 2, 1) := by decide +kernel
theorem dX7_waits_5 : decode cX7_waits 5 = .ok (.aload_n 0, 1) := by decide +kernel
theorem dX7_waits_6 : decode cX7_waits 6 = .ok (.getfield 105, 3) := by decide +kernel
theorem dX7_waits_9 : decode cX7_waits 9 = .ok (.if_icmp .ge 18, 3) := by decide +kernel
theorem dX7_waits_12 : decode cX7_waits 12 = .ok (.iload_n 1, 1) := by decide +kernel
theorem dX7_waits_13 : decode cX7_waits 13 = .ok (.aload_n 0, 1) := by decide +kernel
theorem dX7_waits_14 : decode cX7_waits 14 = .ok (.getfield 64, 3) := by decide +kernel
theorem dX7_waits_17 : decode cX7_waits 17 = .ok (.iload_n 2, 1) := by decide +kernel
theorem dX7_waits_18 : decode cX7_waits 18 = .ok (.iaload, 1) := by decide +kernel
theorem dX7_waits_19 : decode cX7_waits 19 = .ok (.iadd, 1) := by decide +kernel
theorem dX7_waits_20 : decode cX7_waits 20 = .ok (.istore_n 1, 1) := by decide +kernel
theorem dX7_waits_21 : decode cX7_waits 21 = .ok (.iinc 2 1, 3) := by decide +kernel
theorem dX7_waits_24 : decode cX7_waits 24 = .ok (.goto (-20), 3) := by decide +kernel
theorem dX7_waits_27 : decode cX7_waits 27 = .ok (.iload_n 1, 1) := by decide +kernel
theorem dX7_waits_28 : decode cX7_waits 28 = .ok (.ireturn, 1) := by decide +kernel
theorem dX7_last_0 : decode cX7_last 0 = .ok (.iconst 0, 1) := by decide +kernel
theorem dX7_last_1 : decode cX7_last 1 = .ok (.istore_n 1, 1) := by decide +kernel
theorem dX7_last_2 : decode cX7_last 2 = .ok (.iconst 0, 1) := by decide +kernel
theorem dX7_last_3 : decode cX7_last 3 = .ok (.istore_n 2, 1) := by decide +kernel
theorem dX7_last_4 : decode cX7_last 4 = .ok (.iload_n 2, 1) := by decide +kernel
theorem dX7_last_5 : decode cX7_last 5 = .ok (.aload_n 0, 1) := by decide +kernel
theorem dX7_last_6 : decode cX7_last 6 = .ok (.getfield 105, 3) := by decide +kernel
theorem dX7_last_9 : decode cX7_last 9 = .ok (.if_icmp .ge 41, 3) := by decide +kernel
theorem dX7_last_12 : decode cX7_last 12 = .ok (.aload_n 0, 1) := by decide +kernel
theorem dX7_last_13 : decode cX7_last 13 = .ok (.getfield 61, 3) := by decide +kernel
theorem dX7_last_16 : decode cX7_last 16 = .ok (.iload_n 2, 1) := by decide +kernel
theorem dX7_last_17 : decode cX7_last 17 = .ok (.iaload, 1) := by decide +kernel
theorem dX7_last_18 : decode cX7_last 18 = .ok (.ifCond .ge 8, 3) := by decide +kernel
theorem dX7_last_21 : decode cX7_last 21 = .ok (.bipush 100, 2) := by decide +kernel
theorem dX7_last_23 : decode cX7_last 23 = .ok (.goto 9, 3) := by decide +kernel
theorem dX7_last_26 : decode cX7_last 26 = .ok (.aload_n 0, 1) := by decide +kernel
theorem dX7_last_27 : decode cX7_last 27 = .ok (.getfield 61, 3) := by decide +kernel
theorem dX7_last_30 : decode cX7_last 30 = .ok (.iload_n 2, 1) := by decide +kernel
theorem dX7_last_31 : decode cX7_last 31 = .ok (.iaload, 1) := by decide +kernel
theorem dX7_last_32 : decode cX7_last 32 = .ok (.istore_n 3, 1) := by decide +kernel
theorem dX7_last_33 : decode cX7_last 33 = .ok (.iload_n 3, 1) := by decide +kernel
theorem dX7_last_34 : decode cX7_last 34 = .ok (.iload_n 1, 1) := by decide +kernel
theorem dX7_last_35 : decode cX7_last 35 = .ok (.if_icmp .le 7, 3) := by decide +kernel
theorem dX7_last_38 : decode cX7_last 38 = .ok (.iload_n 3, 1) := by decide +kernel
theorem dX7_last_39 : decode cX7_last 39 = .ok (.goto 4, 3) := by decide +kernel
theorem dX7_last_42 : decode cX7_last 42 = .ok (.iload_n 1, 1) := by decide +kernel
theorem dX7_last_43 : decode cX7_last 43 = .ok (.istore_n 1, 1) := by decide +kernel
theorem dX7_last_44 : decode cX7_last 44 = .ok (.iinc 2 1, 3) := by decide +kernel
theorem dX7_last_47 : decode cX7_last 47 = .ok (.goto (-43), 3) := by decide +kernel
theorem dX7_last_50 : decode cX7_last 50 = .ok (.iload_n 1, 1) := by decide +kernel
theorem dX7_last_51 : decode cX7_last 51 = .ok (.ireturn, 1) := by decide +kernel
theorem dX7_throughBy_0 : decode cX7_throughBy 0 = .ok (.iconst 0, 1) := by decide +kernel
theorem dX7_throughBy_1 : decode cX7_throughBy 1 = .ok (.istore_n 2, 1) := by decide +kernel
theorem dX7_throughBy_2 : decode cX7_throughBy 2 = .ok (.iconst 0, 1) := by decide +kernel
theorem dX7_throughBy_3 : decode cX7_throughBy 3 = .ok (.istore_n 3, 1) := by decide +kernel
theorem dX7_throughBy_4 : decode cX7_throughBy 4 = .ok (.iload_n 3, 1) := by decide +kernel
theorem dX7_throughBy_5 : decode cX7_throughBy 5 = .ok (.aload_n 0, 1) := by decide +kernel
theorem dX7_throughBy_6 : decode cX7_throughBy 6 = .ok (.getfield 105, 3) := by decide +kernel
theorem dX7_throughBy_9 : decode cX7_throughBy 9 = .ok (.if_icmp .ge 36, 3) := by decide +kernel
theorem dX7_throughBy_12 : decode cX7_throughBy 12 = .ok (.iload_n 2, 1) := by decide +kernel
theorem dX7_throughBy_13 : decode cX7_throughBy 13 = .ok (.aload_n 0, 1) := by decide +kernel
theorem dX7_throughBy_14 : decode cX7_throughBy 14 = .ok (.getfield 61, 3) := by decide +kernel
theorem dX7_throughBy_17 : decode cX7_throughBy 17 = .ok (.iload_n 3, 1) := by decide +kernel
theorem dX7_throughBy_18 : decode cX7_throughBy 18 = .ok (.iaload, 1) := by decide +kernel
theorem dX7_throughBy_19 : decode cX7_throughBy 19 = .ok (.ifCond .lt 17, 3) := by decide +kernel
theorem dX7_throughBy_22 : decode cX7_throughBy 22 = .ok (.aload_n 0, 1) := by decide +kernel
theorem dX7_throughBy_23 : decode cX7_throughBy 23 = .ok (.getfield 61, 3) := by decide +kernel
theorem dX7_throughBy_26 : decode cX7_throughBy 26 = .ok (.iload_n 3, 1) := by decide +kernel
theorem dX7_throughBy_27 : decode cX7_throughBy 27 = .ok (.iaload, 1) := by decide +kernel
theorem dX7_throughBy_28 : decode cX7_throughBy 28 = .ok (.iload_n 1, 1) := by decide +kernel
theorem dX7_throughBy_29 : decode cX7_throughBy 29 = .ok (.if_icmp .gt 7, 3) := by decide +kernel
theorem dX7_throughBy_32 : decode cX7_throughBy 32 = .ok (.iconst 1, 1) := by decide +kernel
theorem dX7_throughBy_33 : decode cX7_throughBy 33 = .ok (.goto 4, 3) := by decide +kernel
theorem dX7_throughBy_36 : decode cX7_throughBy 36 = .ok (.iconst 0, 1) := by decide +kernel
theorem dX7_throughBy_37 : decode cX7_throughBy 37 = .ok (.iadd, 1) := by decide +kernel
theorem dX7_throughBy_38 : decode cX7_throughBy 38 = .ok (.istore_n 2, 1) := by decide +kernel
theorem dX7_throughBy_39 : decode cX7_throughBy 39 = .ok (.iinc 3 1, 3) := by decide +kernel
theorem dX7_throughBy_42 : decode cX7_throughBy 42 = .ok (.goto (-38), 3) := by decide +kernel
theorem dX7_throughBy_45 : decode cX7_throughBy 45 = .ok (.iload_n 2, 1) := by decide +kernel
theorem dX7_throughBy_46 : decode cX7_throughBy 46 = .ok (.ireturn, 1) := by decide +kernel
theorem dX7_fate_0 : decode cX7_fate 0 = .ok (.aload_n 0, 1) := by decide +kernel
theorem dX7_fate_1 : decode cX7_fate 1 = .ok (.iload_n 1, 1) := by decide +kernel
theorem dX7_fate_2 : decode cX7_fate 2 = .ok (.invokevirtual 145, 3) := by decide +kernel
theorem dX7_fate_5 : decode cX7_fate 5 = .ok (.ifCond .eq 15, 3) := by decide +kernel
theorem dX7_fate_8 : decode cX7_fate 8 = .ok (.iload_n 2, 1) := by decide +kernel
theorem dX7_fate_9 : decode cX7_fate 9 = .ok (.i2l, 1) := by decide +kernel
theorem dX7_fate_10 : decode cX7_fate 10 = .ok (.lconst 0, 1) := by decide +kernel
theorem dX7_fate_11 : decode cX7_fate 11 = .ok (.ldc2_w 139, 3) := by decide +kernel
theorem dX7_fate_14 : decode cX7_fate 14 = .ok (.invokestatic 101, 3) := by decide +kernel
theorem dX7_fate_17 : decode cX7_fate 17 = .ok (.ifCond .ne 5, 3) := by decide +kernel
theorem dX7_fate_20 : decode cX7_fate 20 = .ok (.iconst (-1), 1) := by decide +kernel
theorem dX7_fate_21 : decode cX7_fate 21 = .ok (.ireturn, 1) := by decide +kernel
theorem dX7_fate_22 : decode cX7_fate 22 = .ok (.aload_n 0, 1) := by decide +kernel
theorem dX7_fate_23 : decode cX7_fate 23 = .ok (.invokevirtual 248, 3) := by decide +kernel
theorem dX7_fate_26 : decode cX7_fate 26 = .ok (.aload_n 0, 1) := by decide +kernel
theorem dX7_fate_27 : decode cX7_fate 27 = .ok (.invokevirtual 251, 3) := by decide +kernel
theorem dX7_fate_30 : decode cX7_fate 30 = .ok (.iload_n 2, 1) := by decide +kernel
theorem dX7_fate_31 : decode cX7_fate 31 = .ok (.ifCond .ne 12, 3) := by decide +kernel
theorem dX7_fate_34 : decode cX7_fate 34 = .ok (.aload_n 0, 1) := by decide +kernel
theorem dX7_fate_35 : decode cX7_fate 35 = .ok (.getfield 55, 3) := by decide +kernel
theorem dX7_fate_38 : decode cX7_fate 38 = .ok (.iload_n 1, 1) := by decide +kernel
theorem dX7_fate_39 : decode cX7_fate 39 = .ok (.iaload, 1) := by decide +kernel
theorem dX7_fate_40 : decode cX7_fate 40 = .ok (.goto 53, 3) := by decide +kernel
theorem dX7_fate_43 : decode cX7_fate 43 = .ok (.iload_n 2, 1) := by decide +kernel
theorem dX7_fate_44 : decode cX7_fate 44 = .ok (.iconst 1, 1) := by decide +kernel
theorem dX7_fate_45 : decode cX7_fate 45 = .ok (.if_icmp .ne 12, 3) := by decide +kernel
theorem dX7_fate_48 : decode cX7_fate 48 = .ok (.aload_n 0, 1) := by decide +kernel
theorem dX7_fate_49 : decode cX7_fate 49 = .ok (.getfield 58, 3) := by decide +kernel
theorem dX7_fate_52 : decode cX7_fate 52 = .ok (.iload_n 1, 1) := by decide +kernel
theorem dX7_fate_53 : decode cX7_fate 53 = .ok (.iaload, 1) := by decide +kernel
theorem dX7_fate_54 : decode cX7_fate 54 = .ok (.goto 39, 3) := by decide +kernel
theorem dX7_fate_57 : decode cX7_fate 57 = .ok (.iload_n 2, 1) := by decide +kernel
theorem dX7_fate_58 : decode cX7_fate 58 = .ok (.iconst 2, 1) := by decide +kernel
theorem dX7_fate_59 : decode cX7_fate 59 = .ok (.if_icmp .ne 12, 3) := by decide +kernel
theorem dX7_fate_62 : decode cX7_fate 62 = .ok (.aload_n 0, 1) := by decide +kernel
theorem dX7_fate_63 : decode cX7_fate 63 = .ok (.getfield 61, 3) := by decide +kernel
theorem dX7_fate_66 : decode cX7_fate 66 = .ok (.iload_n 1, 1) := by decide +kernel
theorem dX7_fate_67 : decode cX7_fate 67 = .ok (.iaload, 1) := by decide +kernel
theorem dX7_fate_68 : decode cX7_fate 68 = .ok (.goto 25, 3) := by decide +kernel
theorem dX7_fate_71 : decode cX7_fate 71 = .ok (.iload_n 2, 1) := by decide +kernel
theorem dX7_fate_72 : decode cX7_fate 72 = .ok (.iconst 3, 1) := by decide +kernel
theorem dX7_fate_73 : decode cX7_fate 73 = .ok (.if_icmp .ne 12, 3) := by decide +kernel
theorem dX7_fate_76 : decode cX7_fate 76 = .ok (.aload_n 0, 1) := by decide +kernel
theorem dX7_fate_77 : decode cX7_fate 77 = .ok (.getfield 64, 3) := by decide +kernel
theorem dX7_fate_80 : decode cX7_fate 80 = .ok (.iload_n 1, 1) := by decide +kernel
theorem dX7_fate_81 : decode cX7_fate 81 = .ok (.iaload, 1) := by decide +kernel
theorem dX7_fate_82 : decode cX7_fate 82 = .ok (.goto 11, 3) := by decide +kernel
theorem dX7_fate_85 : decode cX7_fate 85 = .ok (.aload_n 0, 1) := by decide +kernel
theorem dX7_fate_86 : decode cX7_fate 86 = .ok (.getfield 216, 3) := by decide +kernel
theorem dX7_fate_89 : decode cX7_fate 89 = .ok (.iload_n 1, 1) := by decide +kernel
theorem dX7_fate_90 : decode cX7_fate 90 = .ok (.ishr, 1) := by decide +kernel
theorem dX7_fate_91 : decode cX7_fate 91 = .ok (.iconst 1, 1) := by decide +kernel
theorem dX7_fate_92 : decode cX7_fate 92 = .ok (.iand, 1) := by decide +kernel
theorem dX7_fate_93 : decode cX7_fate 93 = .ok (.ireturn, 1) := by decide +kernel
theorem dX7_at_0 : decode cX7_at 0 = .ok (.iload_n 1, 1) := by decide +kernel
theorem dX7_at_1 : decode cX7_at 1 = .ok (.i2l, 1) := by decide +kernel
theorem dX7_at_2 : decode cX7_at 2 = .ok (.lconst 0, 1) := by decide +kernel
theorem dX7_at_3 : decode cX7_at 3 = .ok (.ldc2_w 129, 3) := by decide +kernel
theorem dX7_at_6 : decode cX7_at 6 = .ok (.invokestatic 101, 3) := by decide +kernel
theorem dX7_at_9 : decode cX7_at 9 = .ok (.ifCond .eq 15, 3) := by decide +kernel
theorem dX7_at_12 : decode cX7_at 12 = .ok (.iload_n 2, 1) := by decide +kernel
theorem dX7_at_13 : decode cX7_at 13 = .ok (.i2l, 1) := by decide +kernel
theorem dX7_at_14 : decode cX7_at 14 = .ok (.lconst 0, 1) := by decide +kernel
theorem dX7_at_15 : decode cX7_at 15 = .ok (.ldc2_w 139, 3) := by decide +kernel
theorem dX7_at_18 : decode cX7_at 18 = .ok (.invokestatic 101, 3) := by decide +kernel
theorem dX7_at_21 : decode cX7_at 21 = .ok (.ifCond .ne 5, 3) := by decide +kernel
theorem dX7_at_24 : decode cX7_at 24 = .ok (.iconst (-1), 1) := by decide +kernel
theorem dX7_at_25 : decode cX7_at 25 = .ok (.ireturn, 1) := by decide +kernel
theorem dX7_at_26 : decode cX7_at 26 = .ok (.aload_n 0, 1) := by decide +kernel
theorem dX7_at_27 : decode cX7_at 27 = .ok (.invokevirtual 248, 3) := by decide +kernel
theorem dX7_at_30 : decode cX7_at 30 = .ok (.aload_n 0, 1) := by decide +kernel
theorem dX7_at_31 : decode cX7_at 31 = .ok (.invokevirtual 251, 3) := by decide +kernel
theorem dX7_at_34 : decode cX7_at 34 = .ok (.iload_n 2, 1) := by decide +kernel
theorem dX7_at_35 : decode cX7_at 35 = .ok (.iconst 4, 1) := by decide +kernel
theorem dX7_at_36 : decode cX7_at 36 = .ok (.if_icmp .ge 16, 3) := by decide +kernel
theorem dX7_at_39 : decode cX7_at 39 = .ok (.aload_n 0, 1) := by decide +kernel
theorem dX7_at_40 : decode cX7_at 40 = .ok (.getfield 73, 3) := by decide +kernel
theorem dX7_at_43 : decode cX7_at 43 = .ok (.iconst 4, 1) := by decide +kernel
theorem dX7_at_44 : decode cX7_at 44 = .ok (.iload_n 1, 1) := by decide +kernel
theorem dX7_at_45 : decode cX7_at 45 = .ok (.imul, 1) := by decide +kernel
theorem dX7_at_46 : decode cX7_at 46 = .ok (.iload_n 2, 1) := by decide +kernel
theorem dX7_at_47 : decode cX7_at 47 = .ok (.iadd, 1) := by decide +kernel
theorem dX7_at_48 : decode cX7_at 48 = .ok (.iaload, 1) := by decide +kernel
theorem dX7_at_49 : decode cX7_at 49 = .ok (.goto 9, 3) := by decide +kernel
theorem dX7_at_52 : decode cX7_at 52 = .ok (.aload_n 0, 1) := by decide +kernel
theorem dX7_at_53 : decode cX7_at 53 = .ok (.getfield 76, 3) := by decide +kernel
theorem dX7_at_56 : decode cX7_at 56 = .ok (.iload_n 1, 1) := by decide +kernel
theorem dX7_at_57 : decode cX7_at 57 = .ok (.iaload, 1) := by decide +kernel
theorem dX7_at_58 : decode cX7_at 58 = .ok (.ireturn, 1) := by decide +kernel
theorem dX7_on_0 : decode cX7_on 0 = .ok (.iload_n 1, 1) := by decide +kernel
theorem dX7_on_1 : decode cX7_on 1 = .ok (.i2l, 1) := by decide +kernel
theorem dX7_on_2 : decode cX7_on 2 = .ok (.lconst 0, 1) := by decide +kernel
theorem dX7_on_3 : decode cX7_on 3 = .ok (.ldc2_w 129, 3) := by decide +kernel
theorem dX7_on_6 : decode cX7_on 6 = .ok (.invokestatic 101, 3) := by decide +kernel
theorem dX7_on_9 : decode cX7_on 9 = .ok (.ifCond .eq 42, 3) := by decide +kernel
theorem dX7_on_12 : decode cX7_on 12 = .ok (.aload_n 0, 1) := by decide +kernel
theorem dX7_on_13 : decode cX7_on 13 = .ok (.iload_n 2, 1) := by decide +kernel
theorem dX7_on_14 : decode cX7_on 14 = .ok (.invokevirtual 118, 3) := by decide +kernel
theorem dX7_on_17 : decode cX7_on 17 = .ok (.ifCond .eq 34, 3) := by decide +kernel
theorem dX7_on_20 : decode cX7_on 20 = .ok (.iload_n 3, 1) := by decide +kernel
theorem dX7_on_21 : decode cX7_on 21 = .ok (.i2l, 1) := by decide +kernel
theorem dX7_on_22 : decode cX7_on 22 = .ok (.lconst 0, 1) := by decide +kernel
theorem dX7_on_23 : decode cX7_on 23 = .ok (.aload_n 0, 1) := by decide +kernel
theorem dX7_on_24 : decode cX7_on 24 = .ok (.getfield 13, 3) := by decide +kernel
theorem dX7_on_27 : decode cX7_on 27 = .ok (.iconst 3, 1) := by decide +kernel
theorem dX7_on_28 : decode cX7_on 28 = .ok (.iload_n 2, 1) := by decide +kernel
theorem dX7_on_29 : decode cX7_on 29 = .ok (.imul, 1) := by decide +kernel
theorem dX7_on_30 : decode cX7_on 30 = .ok (.iaload, 1) := by decide +kernel
theorem dX7_on_31 : decode cX7_on 31 = .ok (.iconst 1, 1) := by decide +kernel
theorem dX7_on_32 : decode cX7_on 32 = .ok (.isub, 1) := by decide +kernel
theorem dX7_on_33 : decode cX7_on 33 = .ok (.i2l, 1) := by decide +kernel
theorem dX7_on_34 : decode cX7_on 34 = .ok (.invokestatic 101, 3) := by decide +kernel
theorem dX7_on_37 : decode cX7_on 37 = .ok (.ifCond .eq 14, 3) := by decide +kernel
theorem dX7_on_40 : decode cX7_on 40 = .ok (.iload 4, 2) := by decide +kernel
theorem dX7_on_42 : decode cX7_on 42 = .ok (.i2l, 1) := by decide +kernel
theorem dX7_on_43 : decode cX7_on 43 = .ok (.lconst 0, 1) := by decide +kernel
theorem dX7_on_44 : decode cX7_on 44 = .ok (.lconst 1, 1) := by decide +kernel
theorem dX7_on_45 : decode cX7_on 45 = .ok (.invokestatic 101, 3) := by decide +kernel
theorem dX7_on_48 : decode cX7_on 48 = .ok (.ifCond .ne 5, 3) := by decide +kernel
theorem dX7_on_51 : decode cX7_on 51 = .ok (.iconst (-1), 1) := by decide +kernel
theorem dX7_on_52 : decode cX7_on 52 = .ok (.ireturn, 1) := by decide +kernel
theorem dX7_on_53 : decode cX7_on 53 = .ok (.aload_n 0, 1) := by decide +kernel
theorem dX7_on_54 : decode cX7_on 54 = .ok (.invokevirtual 248, 3) := by decide +kernel
theorem dX7_on_57 : decode cX7_on 57 = .ok (.aload_n 0, 1) := by decide +kernel
theorem dX7_on_58 : decode cX7_on 58 = .ok (.invokevirtual 251, 3) := by decide +kernel
theorem dX7_on_61 : decode cX7_on 61 = .ok (.aload_n 0, 1) := by decide +kernel
theorem dX7_on_62 : decode cX7_on 62 = .ok (.getfield 79, 3) := by decide +kernel
theorem dX7_on_65 : decode cX7_on 65 = .ok (.bipush 60, 2) := by decide +kernel
theorem dX7_on_67 : decode cX7_on 67 = .ok (.iload_n 1, 1) := by decide +kernel
theorem dX7_on_68 : decode cX7_on 68 = .ok (.imul, 1) := by decide +kernel
theorem dX7_on_69 : decode cX7_on 69 = .ok (.bipush 20, 2) := by decide +kernel
theorem dX7_on_71 : decode cX7_on 71 = .ok (.iload_n 2, 1) := by decide +kernel
theorem dX7_on_72 : decode cX7_on 72 = .ok (.imul, 1) := by decide +kernel
theorem dX7_on_73 : decode cX7_on 73 = .ok (.iadd, 1) := by decide +kernel
theorem dX7_on_74 : decode cX7_on 74 = .ok (.iconst 2, 1) := by decide +kernel
theorem dX7_on_75 : decode cX7_on 75 = .ok (.iload_n 3, 1) := by decide +kernel
theorem dX7_on_76 : decode cX7_on 76 = .ok (.imul, 1) := by decide +kernel
theorem dX7_on_77 : decode cX7_on 77 = .ok (.iadd, 1) := by decide +kernel
theorem dX7_on_78 : decode cX7_on 78 = .ok (.iload 4, 2) := by decide +kernel
theorem dX7_on_80 : decode cX7_on 80 = .ok (.iadd, 1) := by decide +kernel
theorem dX7_on_81 : decode cX7_on 81 = .ok (.iaload, 1) := by decide +kernel
theorem dX7_on_82 : decode cX7_on 82 = .ok (.istore 5, 2) := by decide +kernel
theorem dX7_on_84 : decode cX7_on 84 = .ok (.iload 5, 2) := by decide +kernel
theorem dX7_on_86 : decode cX7_on 86 = .ok (.ifCond .ne 8, 3) := by decide +kernel
theorem dX7_on_89 : decode cX7_on 89 = .ok (.bipush (-4), 2) := by decide +kernel
theorem dX7_on_91 : decode cX7_on 91 = .ok (.goto 7, 3) := by decide +kernel
theorem dX7_on_94 : decode cX7_on 94 = .ok (.iload 5, 2) := by decide +kernel
theorem dX7_on_96 : decode cX7_on 96 = .ok (.iconst 1, 1) := by decide +kernel
theorem dX7_on_97 : decode cX7_on 97 = .ok (.isub, 1) := by decide +kernel
theorem dX7_on_98 : decode cX7_on 98 = .ok (.ireturn, 1) := by decide +kernel
theorem dX7_all_0 : decode cX7_all 0 = .ok (.iload_n 1, 1) := by decide +kernel
theorem dX7_all_1 : decode cX7_all 1 = .ok (.i2l, 1) := by decide +kernel
theorem dX7_all_2 : decode cX7_all 2 = .ok (.lconst 0, 1) := by decide +kernel
theorem dX7_all_3 : decode cX7_all 3 = .ok (.ldc2_w 254, 3) := by decide +kernel
theorem dX7_all_6 : decode cX7_all 6 = .ok (.invokestatic 101, 3) := by decide +kernel
theorem dX7_all_9 : decode cX7_all 9 = .ok (.ifCond .ne 5, 3) := by decide +kernel
theorem dX7_all_12 : decode cX7_all 12 = .ok (.iconst (-1), 1) := by decide +kernel
theorem dX7_all_13 : decode cX7_all 13 = .ok (.ireturn, 1) := by decide +kernel
theorem dX7_all_14 : decode cX7_all 14 = .ok (.aload_n 0, 1) := by decide +kernel
theorem dX7_all_15 : decode cX7_all 15 = .ok (.invokevirtual 248, 3) := by decide +kernel
theorem dX7_all_18 : decode cX7_all 18 = .ok (.aload_n 0, 1) := by decide +kernel
theorem dX7_all_19 : decode cX7_all 19 = .ok (.invokevirtual 251, 3) := by decide +kernel
theorem dX7_all_22 : decode cX7_all 22 = .ok (.iload_n 1, 1) := by decide +kernel
theorem dX7_all_23 : decode cX7_all 23 = .ok (.tableswitch 69 0 5 #[37, 42, 47, 52, 57, 62], 37) := by decide +kernel
theorem dX7_all_60 : decode cX7_all 60 = .ok (.aload_n 0, 1) := by decide +kernel
theorem dX7_all_61 : decode cX7_all 61 = .ok (.invokevirtual 256, 3) := by decide +kernel
theorem dX7_all_64 : decode cX7_all 64 = .ok (.ireturn, 1) := by decide +kernel
theorem dX7_all_65 : decode cX7_all 65 = .ok (.aload_n 0, 1) := by decide +kernel
theorem dX7_all_66 : decode cX7_all 66 = .ok (.getfield 210, 3) := by decide +kernel
theorem dX7_all_69 : decode cX7_all 69 = .ok (.ireturn, 1) := by decide +kernel
theorem dX7_all_70 : decode cX7_all 70 = .ok (.aload_n 0, 1) := by decide +kernel
theorem dX7_all_71 : decode cX7_all 71 = .ok (.getfield 197, 3) := by decide +kernel
theorem dX7_all_74 : decode cX7_all 74 = .ok (.ireturn, 1) := by decide +kernel
theorem dX7_all_75 : decode cX7_all 75 = .ok (.aload_n 0, 1) := by decide +kernel
theorem dX7_all_76 : decode cX7_all 76 = .ok (.getfield 213, 3) := by decide +kernel
theorem dX7_all_79 : decode cX7_all 79 = .ok (.ireturn, 1) := by decide +kernel
theorem dX7_all_80 : decode cX7_all 80 = .ok (.aload_n 0, 1) := by decide +kernel
theorem dX7_all_81 : decode cX7_all 81 = .ok (.getfield 216, 3) := by decide +kernel
theorem dX7_all_84 : decode cX7_all 84 = .ok (.ireturn, 1) := by decide +kernel
theorem dX7_all_85 : decode cX7_all 85 = .ok (.aload_n 0, 1) := by decide +kernel
theorem dX7_all_86 : decode cX7_all 86 = .ok (.bipush 100, 2) := by decide +kernel
theorem dX7_all_88 : decode cX7_all 88 = .ok (.invokevirtual 259, 3) := by decide +kernel
theorem dX7_all_91 : decode cX7_all 91 = .ok (.ireturn, 1) := by decide +kernel
theorem dX7_all_92 : decode cX7_all 92 = .ok (.aload_n 0, 1) := by decide +kernel
theorem dX7_all_93 : decode cX7_all 93 = .ok (.invokevirtual 262, 3) := by decide +kernel
theorem dX7_all_96 : decode cX7_all 96 = .ok (.ireturn, 1) := by decide +kernel
theorem dX7_lays_0 : decode cX7_lays 0 = .ok (.iload_n 0, 1) := by decide +kernel
theorem dX7_lays_1 : decode cX7_lays 1 = .ok (.istore_n 2, 1) := by decide +kernel
theorem dX7_lays_2 : decode cX7_lays 2 = .ok (.iconst 0, 1) := by decide +kernel
theorem dX7_lays_3 : decode cX7_lays 3 = .ok (.istore_n 3, 1) := by decide +kernel
theorem dX7_lays_4 : decode cX7_lays 4 = .ok (.iload_n 3, 1) := by decide +kernel
theorem dX7_lays_5 : decode cX7_lays 5 = .ok (.iconst 3, 1) := by decide +kernel
theorem dX7_lays_6 : decode cX7_lays 6 = .ok (.if_icmp .ge 19, 3) := by decide +kernel
theorem dX7_lays_9 : decode cX7_lays 9 = .ok (.aload_n 1, 1) := by decide +kernel
theorem dX7_lays_10 : decode cX7_lays 10 = .ok (.iload_n 3, 1) := by decide +kernel
theorem dX7_lays_11 : decode cX7_lays 11 = .ok (.iload_n 2, 1) := by decide +kernel
theorem dX7_lays_12 : decode cX7_lays 12 = .ok (.iconst 3, 1) := by decide +kernel
theorem dX7_lays_13 : decode cX7_lays 13 = .ok (.irem, 1) := by decide +kernel
theorem dX7_lays_14 : decode cX7_lays 14 = .ok (.iastore, 1) := by decide +kernel
theorem dX7_lays_15 : decode cX7_lays 15 = .ok (.iload_n 2, 1) := by decide +kernel
theorem dX7_lays_16 : decode cX7_lays 16 = .ok (.iconst 3, 1) := by decide +kernel
theorem dX7_lays_17 : decode cX7_lays 17 = .ok (.idiv, 1) := by decide +kernel
theorem dX7_lays_18 : decode cX7_lays 18 = .ok (.istore_n 2, 1) := by decide +kernel
theorem dX7_lays_19 : decode cX7_lays 19 = .ok (.iinc 3 1, 3) := by decide +kernel
theorem dX7_lays_22 : decode cX7_lays 22 = .ok (.goto (-18), 3) := by decide +kernel
theorem dX7_lays_25 : decode cX7_lays 25 = .ok (.return_, 1) := by decide +kernel
theorem dX7_waysMany_0 : decode cX7_waysMany 0 = .ok (.aload_n 0, 1) := by decide +kernel
theorem dX7_waysMany_1 : decode cX7_waysMany 1 = .ok (.getfield 97, 3) := by decide +kernel
theorem dX7_waysMany_4 : decode cX7_waysMany 4 = .ok (.ifCond .ne 7, 3) := by decide +kernel
theorem dX7_waysMany_7 : decode cX7_waysMany 7 = .ok (.iconst 1, 1) := by decide +kernel
theorem dX7_waysMany_8 : decode cX7_waysMany 8 = .ok (.goto 30, 3) := by decide +kernel
theorem dX7_waysMany_11 : decode cX7_waysMany 11 = .ok (.aload_n 0, 1) := by decide +kernel
theorem dX7_waysMany_12 : decode cX7_waysMany 12 = .ok (.getfield 97, 3) := by decide +kernel
theorem dX7_waysMany_15 : decode cX7_waysMany 15 = .ok (.iconst 1, 1) := by decide +kernel
theorem dX7_waysMany_16 : decode cX7_waysMany 16 = .ok (.if_icmp .ne 7, 3) := by decide +kernel
theorem dX7_waysMany_19 : decode cX7_waysMany 19 = .ok (.iconst 3, 1) := by decide +kernel
theorem dX7_waysMany_20 : decode cX7_waysMany 20 = .ok (.goto 18, 3) := by decide +kernel
theorem dX7_waysMany_23 : decode cX7_waysMany 23 = .ok (.aload_n 0, 1) := by decide +kernel
theorem dX7_waysMany_24 : decode cX7_waysMany 24 = .ok (.getfield 97, 3) := by decide +kernel
theorem dX7_waysMany_27 : decode cX7_waysMany 27 = .ok (.iconst 2, 1) := by decide +kernel
theorem dX7_waysMany_28 : decode cX7_waysMany 28 = .ok (.if_icmp .ne 8, 3) := by decide +kernel
theorem dX7_waysMany_31 : decode cX7_waysMany 31 = .ok (.bipush 9, 2) := by decide +kernel
theorem dX7_waysMany_33 : decode cX7_waysMany 33 = .ok (.goto 5, 3) := by decide +kernel
theorem dX7_waysMany_36 : decode cX7_waysMany 36 = .ok (.bipush 27, 2) := by decide +kernel
theorem dX7_waysMany_38 : decode cX7_waysMany 38 = .ok (.ireturn, 1) := by decide +kernel
theorem dX7_ways_0 : decode cX7_ways 0 = .ok (.iload_n 1, 1) := by decide +kernel
theorem dX7_ways_1 : decode cX7_ways 1 = .ok (.i2l, 1) := by decide +kernel
theorem dX7_ways_2 : decode cX7_ways 2 = .ok (.lconst 0, 1) := by decide +kernel
theorem dX7_ways_3 : decode cX7_ways 3 = .ok (.lconst 1, 1) := by decide +kernel
theorem dX7_ways_4 : decode cX7_ways 4 = .ok (.invokestatic 101, 3) := by decide +kernel
theorem dX7_ways_7 : decode cX7_ways 7 = .ok (.ifCond .ne 5, 3) := by decide +kernel
theorem dX7_ways_10 : decode cX7_ways 10 = .ok (.iconst (-1), 1) := by decide +kernel
theorem dX7_ways_11 : decode cX7_ways 11 = .ok (.ireturn, 1) := by decide +kernel
theorem dX7_ways_12 : decode cX7_ways 12 = .ok (.aload_n 0, 1) := by decide +kernel
theorem dX7_ways_13 : decode cX7_ways 13 = .ok (.getfield 97, 3) := by decide +kernel
theorem dX7_ways_16 : decode cX7_ways 16 = .ok (.ifCond .ne 6, 3) := by decide +kernel
theorem dX7_ways_19 : decode cX7_ways 19 = .ok (.bipush (-2), 2) := by decide +kernel
theorem dX7_ways_21 : decode cX7_ways 21 = .ok (.ireturn, 1) := by decide +kernel
theorem dX7_ways_22 : decode cX7_ways 22 = .ok (.bipush (-4), 2) := by decide +kernel
theorem dX7_ways_24 : decode cX7_ways 24 = .ok (.istore_n 2, 1) := by decide +kernel
theorem dX7_ways_25 : decode cX7_ways 25 = .ok (.iconst 0, 1) := by decide +kernel
theorem dX7_ways_26 : decode cX7_ways 26 = .ok (.istore_n 3, 1) := by decide +kernel
theorem dX7_ways_27 : decode cX7_ways 27 = .ok (.iconst 0, 1) := by decide +kernel
theorem dX7_ways_28 : decode cX7_ways 28 = .ok (.istore 4, 2) := by decide +kernel
theorem dX7_ways_30 : decode cX7_ways 30 = .ok (.iload 4, 2) := by decide +kernel
theorem dX7_ways_32 : decode cX7_ways 32 = .ok (.aload_n 0, 1) := by decide +kernel
theorem dX7_ways_33 : decode cX7_ways 33 = .ok (.invokevirtual 265, 3) := by decide +kernel
theorem dX7_ways_36 : decode cX7_ways 36 = .ok (.if_icmp .ge 78, 3) := by decide +kernel
theorem dX7_ways_39 : decode cX7_ways 39 = .ok (.aload_n 0, 1) := by decide +kernel
theorem dX7_ways_40 : decode cX7_ways 40 = .ok (.invokevirtual 248, 3) := by decide +kernel
theorem dX7_ways_43 : decode cX7_ways 43 = .ok (.aload_n 0, 1) := by decide +kernel
theorem dX7_ways_44 : decode cX7_ways 44 = .ok (.iconst 0, 1) := by decide +kernel
theorem dX7_ways_45 : decode cX7_ways 45 = .ok (.putfield 185, 3) := by decide +kernel
theorem dX7_ways_48 : decode cX7_ways 48 = .ok (.iload 4, 2) := by decide +kernel
theorem dX7_ways_50 : decode cX7_ways 50 = .ok (.aload_n 0, 1) := by decide +kernel
theorem dX7_ways_51 : decode cX7_ways 51 = .ok (.getfield 25, 3) := by decide +kernel
theorem dX7_ways_54 : decode cX7_ways 54 = .ok (.invokestatic 268, 3) := by decide +kernel
theorem dX7_ways_57 : decode cX7_ways 57 = .ok (.aload_n 0, 1) := by decide +kernel
theorem dX7_ways_58 : decode cX7_ways 58 = .ok (.invokevirtual 251, 3) := by decide +kernel
theorem dX7_ways_61 : decode cX7_ways 61 = .ok (.aload_n 0, 1) := by decide +kernel
theorem dX7_ways_62 : decode cX7_ways 62 = .ok (.invokevirtual 256, 3) := by decide +kernel
theorem dX7_ways_65 : decode cX7_ways 65 = .ok (.istore 5, 2) := by decide +kernel
theorem dX7_ways_67 : decode cX7_ways 67 = .ok (.iload_n 2, 1) := by decide +kernel
theorem dX7_ways_68 : decode cX7_ways 68 = .ok (.ifCond .lt 9, 3) := by decide +kernel
theorem dX7_ways_71 : decode cX7_ways 71 = .ok (.iload 5, 2) := by decide +kernel
theorem dX7_ways_73 : decode cX7_ways 73 = .ok (.iload_n 3, 1) := by decide +kernel
theorem dX7_ways_74 : decode cX7_ways 74 = .ok (.if_icmp .ge 7, 3) := by decide +kernel
theorem dX7_ways_77 : decode cX7_ways 77 = .ok (.iconst 1, 1) := by decide +kernel
theorem dX7_ways_78 : decode cX7_ways 78 = .ok (.goto 4, 3) := by decide +kernel
theorem dX7_ways_81 : decode cX7_ways 81 = .ok (.iconst 0, 1) := by decide +kernel
theorem dX7_ways_82 : decode cX7_ways 82 = .ok (.istore 6, 2) := by decide +kernel
theorem dX7_ways_84 : decode cX7_ways 84 = .ok (.iload 6, 2) := by decide +kernel
theorem dX7_ways_86 : decode cX7_ways 86 = .ok (.ifCond .eq 8, 3) := by decide +kernel
theorem dX7_ways_89 : decode cX7_ways 89 = .ok (.iload 4, 2) := by decide +kernel
theorem dX7_ways_91 : decode cX7_ways 91 = .ok (.goto 4, 3) := by decide +kernel
theorem dX7_ways_94 : decode cX7_ways 94 = .ok (.iload_n 2, 1) := by decide +kernel
theorem dX7_ways_95 : decode cX7_ways 95 = .ok (.istore_n 2, 1) := by decide +kernel
theorem dX7_ways_96 : decode cX7_ways 96 = .ok (.iload 6, 2) := by decide +kernel
theorem dX7_ways_98 : decode cX7_ways 98 = .ok (.ifCond .eq 8, 3) := by decide +kernel
theorem dX7_ways_101 : decode cX7_ways 101 = .ok (.iload 5, 2) := by decide +kernel
theorem dX7_ways_103 : decode cX7_ways 103 = .ok (.goto 4, 3) := by decide +kernel
theorem dX7_ways_106 : decode cX7_ways 106 = .ok (.iload_n 3, 1) := by decide +kernel
theorem dX7_ways_107 : decode cX7_ways 107 = .ok (.istore_n 3, 1) := by decide +kernel
theorem dX7_ways_108 : decode cX7_ways 108 = .ok (.iinc 4 1, 3) := by decide +kernel
theorem dX7_ways_111 : decode cX7_ways 111 = .ok (.goto (-81), 3) := by decide +kernel
theorem dX7_ways_114 : decode cX7_ways 114 = .ok (.iload_n 1, 1) := by decide +kernel
theorem dX7_ways_115 : decode cX7_ways 115 = .ok (.ifCond .ne 7, 3) := by decide +kernel
theorem dX7_ways_118 : decode cX7_ways 118 = .ok (.iload_n 2, 1) := by decide +kernel
theorem dX7_ways_119 : decode cX7_ways 119 = .ok (.goto 4, 3) := by decide +kernel
theorem dX7_ways_122 : decode cX7_ways 122 = .ok (.iload_n 3, 1) := by decide +kernel
theorem dX7_ways_123 : decode cX7_ways 123 = .ok (.ireturn, 1) := by decide +kernel
theorem dX7_best_0 : decode cX7_best 0 = .ok (.iload_n 1, 1) := by decide +kernel
theorem dX7_best_1 : decode cX7_best 1 = .ok (.i2l, 1) := by decide +kernel
theorem dX7_best_2 : decode cX7_best 2 = .ok (.lconst 1, 1) := by decide +kernel
theorem dX7_best_3 : decode cX7_best 3 = .ok (.ldc2_w 129, 3) := by decide +kernel
theorem dX7_best_6 : decode cX7_best 6 = .ok (.invokestatic 101, 3) := by decide +kernel
theorem dX7_best_9 : decode cX7_best 9 = .ok (.ifCond .eq 15, 3) := by decide +kernel
theorem dX7_best_12 : decode cX7_best 12 = .ok (.iload_n 2, 1) := by decide +kernel
theorem dX7_best_13 : decode cX7_best 13 = .ok (.i2l, 1) := by decide +kernel
theorem dX7_best_14 : decode cX7_best 14 = .ok (.lconst 0, 1) := by decide +kernel
theorem dX7_best_15 : decode cX7_best 15 = .ok (.ldc2_w 112, 3) := by decide +kernel
theorem dX7_best_18 : decode cX7_best 18 = .ok (.invokestatic 101, 3) := by decide +kernel
theorem dX7_best_21 : decode cX7_best 21 = .ok (.ifCond .ne 5, 3) := by decide +kernel
theorem dX7_best_24 : decode cX7_best 24 = .ok (.iconst (-1), 1) := by decide +kernel
theorem dX7_best_25 : decode cX7_best 25 = .ok (.ireturn, 1) := by decide +kernel
theorem dX7_best_26 : decode cX7_best 26 = .ok (.aload_n 0, 1) := by decide +kernel
theorem dX7_best_27 : decode cX7_best 27 = .ok (.getfield 97, 3) := by decide +kernel
theorem dX7_best_30 : decode cX7_best 30 = .ok (.ifCond .ne 6, 3) := by decide +kernel
theorem dX7_best_33 : decode cX7_best 33 = .ok (.bipush (-2), 2) := by decide +kernel
theorem dX7_best_35 : decode cX7_best 35 = .ok (.ireturn, 1) := by decide +kernel
theorem dX7_best_36 : decode cX7_best 36 = .ok (.aload_n 0, 1) := by decide +kernel
theorem dX7_best_37 : decode cX7_best 37 = .ok (.invokevirtual 265, 3) := by decide +kernel
theorem dX7_best_40 : decode cX7_best 40 = .ok (.istore_n 3, 1) := by decide +kernel
theorem dX7_best_41 : decode cX7_best 41 = .ok (.bipush (-4), 2) := by decide +kernel
theorem dX7_best_43 : decode cX7_best 43 = .ok (.istore 4, 2) := by decide +kernel
theorem dX7_best_45 : decode cX7_best 45 = .ok (.iconst 0, 1) := by decide +kernel
theorem dX7_best_46 : decode cX7_best 46 = .ok (.istore 5, 2) := by decide +kernel
theorem dX7_best_48 : decode cX7_best 48 = .ok (.iconst 0, 1) := by decide +kernel
theorem dX7_best_49 : decode cX7_best 49 = .ok (.istore 6, 2) := by decide +kernel
theorem dX7_best_51 : decode cX7_best 51 = .ok (.iload 6, 2) := by decide +kernel
theorem dX7_best_53 : decode cX7_best 53 = .ok (.iload_n 3, 1) := by decide +kernel
theorem dX7_best_54 : decode cX7_best 54 = .ok (.iload_n 3, 1) := by decide +kernel
theorem dX7_best_55 : decode cX7_best 55 = .ok (.imul, 1) := by decide +kernel
theorem dX7_best_56 : decode cX7_best 56 = .ok (.if_icmp .ge 97, 3) := by decide +kernel
theorem dX7_best_59 : decode cX7_best 59 = .ok (.aload_n 0, 1) := by decide +kernel
theorem dX7_best_60 : decode cX7_best 60 = .ok (.invokevirtual 248, 3) := by decide +kernel
theorem dX7_best_63 : decode cX7_best 63 = .ok (.aload_n 0, 1) := by decide +kernel
theorem dX7_best_64 : decode cX7_best 64 = .ok (.iload_n 1, 1) := by decide +kernel
theorem dX7_best_65 : decode cX7_best 65 = .ok (.putfield 185, 3) := by decide +kernel
theorem dX7_best_68 : decode cX7_best 68 = .ok (.iload 6, 2) := by decide +kernel
theorem dX7_best_70 : decode cX7_best 70 = .ok (.iload_n 3, 1) := by decide +kernel
theorem dX7_best_71 : decode cX7_best 71 = .ok (.idiv, 1) := by decide +kernel
theorem dX7_best_72 : decode cX7_best 72 = .ok (.aload_n 0, 1) := by decide +kernel
theorem dX7_best_73 : decode cX7_best 73 = .ok (.getfield 25, 3) := by decide +kernel
theorem dX7_best_76 : decode cX7_best 76 = .ok (.invokestatic 268, 3) := by decide +kernel
theorem dX7_best_79 : decode cX7_best 79 = .ok (.iload 6, 2) := by decide +kernel
theorem dX7_best_81 : decode cX7_best 81 = .ok (.iload_n 3, 1) := by decide +kernel
theorem dX7_best_82 : decode cX7_best 82 = .ok (.irem, 1) := by decide +kernel
theorem dX7_best_83 : decode cX7_best 83 = .ok (.aload_n 0, 1) := by decide +kernel
theorem dX7_best_84 : decode cX7_best 84 = .ok (.getfield 28, 3) := by decide +kernel
theorem dX7_best_87 : decode cX7_best 87 = .ok (.invokestatic 268, 3) := by decide +kernel
theorem dX7_best_90 : decode cX7_best 90 = .ok (.aload_n 0, 1) := by decide +kernel
theorem dX7_best_91 : decode cX7_best 91 = .ok (.invokevirtual 251, 3) := by decide +kernel
theorem dX7_best_94 : decode cX7_best 94 = .ok (.aload_n 0, 1) := by decide +kernel
theorem dX7_best_95 : decode cX7_best 95 = .ok (.invokevirtual 256, 3) := by decide +kernel
theorem dX7_best_98 : decode cX7_best 98 = .ok (.istore 7, 2) := by decide +kernel
theorem dX7_best_100 : decode cX7_best 100 = .ok (.iload 4, 2) := by decide +kernel
theorem dX7_best_102 : decode cX7_best 102 = .ok (.ifCond .lt 10, 3) := by decide +kernel
theorem dX7_best_105 : decode cX7_best 105 = .ok (.iload 7, 2) := by decide +kernel
theorem dX7_best_107 : decode cX7_best 107 = .ok (.iload 5, 2) := by decide +kernel
theorem dX7_best_109 : decode cX7_best 109 = .ok (.if_icmp .ge 7, 3) := by decide +kernel
theorem dX7_best_112 : decode cX7_best 112 = .ok (.iconst 1, 1) := by decide +kernel
theorem dX7_best_113 : decode cX7_best 113 = .ok (.goto 4, 3) := by decide +kernel
theorem dX7_best_116 : decode cX7_best 116 = .ok (.iconst 0, 1) := by decide +kernel
theorem dX7_best_117 : decode cX7_best 117 = .ok (.istore 8, 2) := by decide +kernel
theorem dX7_best_119 : decode cX7_best 119 = .ok (.iload 8, 2) := by decide +kernel
theorem dX7_best_121 : decode cX7_best 121 = .ok (.ifCond .eq 8, 3) := by decide +kernel
theorem dX7_best_124 : decode cX7_best 124 = .ok (.iload 6, 2) := by decide +kernel
theorem dX7_best_126 : decode cX7_best 126 = .ok (.goto 5, 3) := by decide +kernel
theorem dX7_best_129 : decode cX7_best 129 = .ok (.iload 4, 2) := by decide +kernel
theorem dX7_best_131 : decode cX7_best 131 = .ok (.istore 4, 2) := by decide +kernel
theorem dX7_best_133 : decode cX7_best 133 = .ok (.iload 8, 2) := by decide +kernel
theorem dX7_best_135 : decode cX7_best 135 = .ok (.ifCond .eq 8, 3) := by decide +kernel
theorem dX7_best_138 : decode cX7_best 138 = .ok (.iload 7, 2) := by decide +kernel
theorem dX7_best_140 : decode cX7_best 140 = .ok (.goto 5, 3) := by decide +kernel
theorem dX7_best_143 : decode cX7_best 143 = .ok (.iload 5, 2) := by decide +kernel
theorem dX7_best_145 : decode cX7_best 145 = .ok (.istore 5, 2) := by decide +kernel
theorem dX7_best_147 : decode cX7_best 147 = .ok (.iinc 6 1, 3) := by decide +kernel
theorem dX7_best_150 : decode cX7_best 150 = .ok (.goto (-99), 3) := by decide +kernel
theorem dX7_best_153 : decode cX7_best 153 = .ok (.iload_n 2, 1) := by decide +kernel
theorem dX7_best_154 : decode cX7_best 154 = .ok (.ifCond .ne 10, 3) := by decide +kernel
theorem dX7_best_157 : decode cX7_best 157 = .ok (.iload 4, 2) := by decide +kernel
theorem dX7_best_159 : decode cX7_best 159 = .ok (.iload_n 3, 1) := by decide +kernel
theorem dX7_best_160 : decode cX7_best 160 = .ok (.idiv, 1) := by decide +kernel
theorem dX7_best_161 : decode cX7_best 161 = .ok (.goto 17, 3) := by decide +kernel
theorem dX7_best_164 : decode cX7_best 164 = .ok (.iload_n 2, 1) := by decide +kernel
theorem dX7_best_165 : decode cX7_best 165 = .ok (.iconst 1, 1) := by decide +kernel
theorem dX7_best_166 : decode cX7_best 166 = .ok (.if_icmp .ne 10, 3) := by decide +kernel
theorem dX7_best_169 : decode cX7_best 169 = .ok (.iload 4, 2) := by decide +kernel
theorem dX7_best_171 : decode cX7_best 171 = .ok (.iload_n 3, 1) := by decide +kernel
theorem dX7_best_172 : decode cX7_best 172 = .ok (.irem, 1) := by decide +kernel
theorem dX7_best_173 : decode cX7_best 173 = .ok (.goto 5, 3) := by decide +kernel
theorem dX7_best_176 : decode cX7_best 176 = .ok (.iload 5, 2) := by decide +kernel
theorem dX7_best_178 : decode cX7_best 178 = .ok (.ireturn, 1) := by decide +kernel
theorem dX7_thrift_0 : decode cX7_thrift 0 = .ok (.iload_n 1, 1) := by decide +kernel
theorem dX7_thrift_1 : decode cX7_thrift 1 = .ok (.i2l, 1) := by decide +kernel
theorem dX7_thrift_2 : decode cX7_thrift 2 = .ok (.lconst 0, 1) := by decide +kernel
theorem dX7_thrift_3 : decode cX7_thrift 3 = .ok (.ldc2_w 129, 3) := by decide +kernel
theorem dX7_thrift_6 : decode cX7_thrift 6 = .ok (.invokestatic 101, 3) := by decide +kernel
theorem dX7_thrift_9 : decode cX7_thrift 9 = .ok (.ifCond .eq 13, 3) := by decide +kernel
theorem dX7_thrift_12 : decode cX7_thrift 12 = .ok (.iload_n 2, 1) := by decide +kernel
theorem dX7_thrift_13 : decode cX7_thrift 13 = .ok (.i2l, 1) := by decide +kernel
theorem dX7_thrift_14 : decode cX7_thrift 14 = .ok (.lconst 0, 1) := by decide +kernel
theorem dX7_thrift_15 : decode cX7_thrift 15 = .ok (.lconst 1, 1) := by decide +kernel
theorem dX7_thrift_16 : decode cX7_thrift 16 = .ok (.invokestatic 101, 3) := by decide +kernel
theorem dX7_thrift_19 : decode cX7_thrift 19 = .ok (.ifCond .ne 5, 3) := by decide +kernel
theorem dX7_thrift_22 : decode cX7_thrift 22 = .ok (.iconst (-1), 1) := by decide +kernel
theorem dX7_thrift_23 : decode cX7_thrift 23 = .ok (.ireturn, 1) := by decide +kernel
theorem dX7_thrift_24 : decode cX7_thrift 24 = .ok (.aload_n 0, 1) := by decide +kernel
theorem dX7_thrift_25 : decode cX7_thrift 25 = .ok (.getfield 97, 3) := by decide +kernel
theorem dX7_thrift_28 : decode cX7_thrift 28 = .ok (.ifCond .ne 6, 3) := by decide +kernel
theorem dX7_thrift_31 : decode cX7_thrift 31 = .ok (.bipush (-2), 2) := by decide +kernel
theorem dX7_thrift_33 : decode cX7_thrift 33 = .ok (.ireturn, 1) := by decide +kernel
theorem dX7_thrift_34 : decode cX7_thrift 34 = .ok (.bipush (-4), 2) := by decide +kernel
theorem dX7_thrift_36 : decode cX7_thrift 36 = .ok (.istore_n 3, 1) := by decide +kernel
theorem dX7_thrift_37 : decode cX7_thrift 37 = .ok (.iconst 0, 1) := by decide +kernel
theorem dX7_thrift_38 : decode cX7_thrift 38 = .ok (.istore 4, 2) := by decide +kernel
theorem dX7_thrift_40 : decode cX7_thrift 40 = .ok (.iconst 0, 1) := by decide +kernel
theorem dX7_thrift_41 : decode cX7_thrift 41 = .ok (.istore 5, 2) := by decide +kernel
theorem dX7_thrift_43 : decode cX7_thrift 43 = .ok (.iload 5, 2) := by decide +kernel
theorem dX7_thrift_45 : decode cX7_thrift 45 = .ok (.iconst 1, 1) := by decide +kernel
theorem dX7_thrift_46 : decode cX7_thrift 46 = .ok (.aload_n 0, 1) := by decide +kernel
theorem dX7_thrift_47 : decode cX7_thrift 47 = .ok (.getfield 97, 3) := by decide +kernel
theorem dX7_thrift_50 : decode cX7_thrift 50 = .ok (.ishl, 1) := by decide +kernel
theorem dX7_thrift_51 : decode cX7_thrift 51 = .ok (.if_icmp .ge 104, 3) := by decide +kernel
theorem dX7_thrift_54 : decode cX7_thrift 54 = .ok (.aload_n 0, 1) := by decide +kernel
theorem dX7_thrift_55 : decode cX7_thrift 55 = .ok (.invokevirtual 248, 3) := by decide +kernel
theorem dX7_thrift_58 : decode cX7_thrift 58 = .ok (.iconst 0, 1) := by decide +kernel
theorem dX7_thrift_59 : decode cX7_thrift 59 = .ok (.istore 6, 2) := by decide +kernel
theorem dX7_thrift_61 : decode cX7_thrift 61 = .ok (.iload 6, 2) := by decide +kernel
theorem dX7_thrift_63 : decode cX7_thrift 63 = .ok (.iconst 3, 1) := by decide +kernel
theorem dX7_thrift_64 : decode cX7_thrift 64 = .ok (.if_icmp .ge 25, 3) := by decide +kernel
theorem dX7_thrift_67 : decode cX7_thrift 67 = .ok (.aload_n 0, 1) := by decide +kernel
theorem dX7_thrift_68 : decode cX7_thrift 68 = .ok (.getfield 31, 3) := by decide +kernel
theorem dX7_thrift_71 : decode cX7_thrift 71 = .ok (.iload 6, 2) := by decide +kernel
theorem dX7_thrift_73 : decode cX7_thrift 73 = .ok (.iload 5, 2) := by decide +kernel
theorem dX7_thrift_75 : decode cX7_thrift 75 = .ok (.iload 6, 2) := by decide +kernel
theorem dX7_thrift_77 : decode cX7_thrift 77 = .ok (.ishr, 1) := by decide +kernel
theorem dX7_thrift_78 : decode cX7_thrift 78 = .ok (.iconst 1, 1) := by decide +kernel
theorem dX7_thrift_79 : decode cX7_thrift 79 = .ok (.iand, 1) := by decide +kernel
theorem dX7_thrift_80 : decode cX7_thrift 80 = .ok (.iconst 1, 1) := by decide +kernel
theorem dX7_thrift_81 : decode cX7_thrift 81 = .ok (.iadd, 1) := by decide +kernel
theorem dX7_thrift_82 : decode cX7_thrift 82 = .ok (.iastore, 1) := by decide +kernel
theorem dX7_thrift_83 : decode cX7_thrift 83 = .ok (.iinc 6 1, 3) := by decide +kernel
theorem dX7_thrift_86 : decode cX7_thrift 86 = .ok (.goto (-25), 3) := by decide +kernel
theorem dX7_thrift_89 : decode cX7_thrift 89 = .ok (.aload_n 0, 1) := by decide +kernel
theorem dX7_thrift_90 : decode cX7_thrift 90 = .ok (.invokevirtual 251, 3) := by decide +kernel
theorem dX7_thrift_93 : decode cX7_thrift 93 = .ok (.aload_n 0, 1) := by decide +kernel
theorem dX7_thrift_94 : decode cX7_thrift 94 = .ok (.invokevirtual 262, 3) := by decide +kernel
theorem dX7_thrift_97 : decode cX7_thrift 97 = .ok (.iload_n 1, 1) := by decide +kernel
theorem dX7_thrift_98 : decode cX7_thrift 98 = .ok (.if_icmp .gt 20, 3) := by decide +kernel
theorem dX7_thrift_101 : decode cX7_thrift 101 = .ok (.iload_n 3, 1) := by decide +kernel
theorem dX7_thrift_102 : decode cX7_thrift 102 = .ok (.ifCond .lt 12, 3) := by decide +kernel
theorem dX7_thrift_105 : decode cX7_thrift 105 = .ok (.aload_n 0, 1) := by decide +kernel
theorem dX7_thrift_106 : decode cX7_thrift 106 = .ok (.getfield 210, 3) := by decide +kernel
theorem dX7_thrift_109 : decode cX7_thrift 109 = .ok (.iload 4, 2) := by decide +kernel
theorem dX7_thrift_111 : decode cX7_thrift 111 = .ok (.if_icmp .ge 7, 3) := by decide +kernel
theorem dX7_thrift_114 : decode cX7_thrift 114 = .ok (.iconst 1, 1) := by decide +kernel
theorem dX7_thrift_115 : decode cX7_thrift 115 = .ok (.goto 4, 3) := by decide +kernel
theorem dX7_thrift_118 : decode cX7_thrift 118 = .ok (.iconst 0, 1) := by decide +kernel
theorem dX7_thrift_119 : decode cX7_thrift 119 = .ok (.istore 6, 2) := by decide +kernel
theorem dX7_thrift_121 : decode cX7_thrift 121 = .ok (.iload 6, 2) := by decide +kernel
theorem dX7_thrift_123 : decode cX7_thrift 123 = .ok (.ifCond .eq 8, 3) := by decide +kernel
theorem dX7_thrift_126 : decode cX7_thrift 126 = .ok (.iload 5, 2) := by decide +kernel
theorem dX7_thrift_128 : decode cX7_thrift 128 = .ok (.goto 4, 3) := by decide +kernel
theorem dX7_thrift_131 : decode cX7_thrift 131 = .ok (.iload_n 3, 1) := by decide +kernel
theorem dX7_thrift_132 : decode cX7_thrift 132 = .ok (.istore_n 3, 1) := by decide +kernel
theorem dX7_thrift_133 : decode cX7_thrift 133 = .ok (.iload 6, 2) := by decide +kernel
theorem dX7_thrift_135 : decode cX7_thrift 135 = .ok (.ifCond .eq 10, 3) := by decide +kernel
theorem dX7_thrift_138 : decode cX7_thrift 138 = .ok (.aload_n 0, 1) := by decide +kernel
theorem dX7_thrift_139 : decode cX7_thrift 139 = .ok (.getfield 210, 3) := by decide +kernel
theorem dX7_thrift_142 : decode cX7_thrift 142 = .ok (.goto 5, 3) := by decide +kernel
theorem dX7_thrift_145 : decode cX7_thrift 145 = .ok (.iload 4, 2) := by decide +kernel
theorem dX7_thrift_147 : decode cX7_thrift 147 = .ok (.istore 4, 2) := by decide +kernel
theorem dX7_thrift_149 : decode cX7_thrift 149 = .ok (.iinc 5 1, 3) := by decide +kernel
theorem dX7_thrift_152 : decode cX7_thrift 152 = .ok (.goto (-109), 3) := by decide +kernel
theorem dX7_thrift_155 : decode cX7_thrift 155 = .ok (.iload_n 3, 1) := by decide +kernel
theorem dX7_thrift_156 : decode cX7_thrift 156 = .ok (.ifCond .lt 7, 3) := by decide +kernel
theorem dX7_thrift_159 : decode cX7_thrift 159 = .ok (.iload_n 2, 1) := by decide +kernel
theorem dX7_thrift_160 : decode cX7_thrift 160 = .ok (.ifCond .ne 7, 3) := by decide +kernel
theorem dX7_thrift_163 : decode cX7_thrift 163 = .ok (.iload_n 3, 1) := by decide +kernel
theorem dX7_thrift_164 : decode cX7_thrift 164 = .ok (.goto 5, 3) := by decide +kernel
theorem dX7_thrift_167 : decode cX7_thrift 167 = .ok (.iload 4, 2) := by decide +kernel
theorem dX7_thrift_169 : decode cX7_thrift 169 = .ok (.ireturn, 1) := by decide +kernel
theorem dX7_costs_0 : decode cX7_costs 0 = .ok (.aload_n 0, 1) := by decide +kernel
theorem dX7_costs_1 : decode cX7_costs 1 = .ok (.iload_n 1, 1) := by decide +kernel
theorem dX7_costs_2 : decode cX7_costs 2 = .ok (.invokevirtual 145, 3) := by decide +kernel
theorem dX7_costs_5 : decode cX7_costs 5 = .ok (.ifCond .ne 7, 3) := by decide +kernel
theorem dX7_costs_8 : decode cX7_costs 8 = .ok (.ldc_w 272, 3) := by decide +kernel
theorem dX7_costs_11 : decode cX7_costs 11 = .ok (.ireturn, 1) := by decide +kernel
theorem dX7_costs_12 : decode cX7_costs 12 = .ok (.aload_n 0, 1) := by decide +kernel
theorem dX7_costs_13 : decode cX7_costs 13 = .ok (.invokevirtual 248, 3) := by decide +kernel
theorem dX7_costs_16 : decode cX7_costs 16 = .ok (.aload_n 0, 1) := by decide +kernel
theorem dX7_costs_17 : decode cX7_costs 17 = .ok (.invokevirtual 251, 3) := by decide +kernel
theorem dX7_costs_20 : decode cX7_costs 20 = .ok (.aload_n 0, 1) := by decide +kernel
theorem dX7_costs_21 : decode cX7_costs 21 = .ok (.invokevirtual 256, 3) := by decide +kernel
theorem dX7_costs_24 : decode cX7_costs 24 = .ok (.aload_n 0, 1) := by decide +kernel
theorem dX7_costs_25 : decode cX7_costs 25 = .ok (.getfield 64, 3) := by decide +kernel
theorem dX7_costs_28 : decode cX7_costs 28 = .ok (.iload_n 1, 1) := by decide +kernel
theorem dX7_costs_29 : decode cX7_costs 29 = .ok (.iaload, 1) := by decide +kernel
theorem dX7_costs_30 : decode cX7_costs 30 = .ok (.isub, 1) := by decide +kernel
theorem dX7_costs_31 : decode cX7_costs 31 = .ok (.istore_n 2, 1) := by decide +kernel
theorem dX7_costs_32 : decode cX7_costs 32 = .ok (.aload_n 0, 1) := by decide +kernel
theorem dX7_costs_33 : decode cX7_costs 33 = .ok (.iload_n 1, 1) := by decide +kernel
theorem dX7_costs_34 : decode cX7_costs 34 = .ok (.putfield 191, 3) := by decide +kernel
theorem dX7_costs_37 : decode cX7_costs 37 = .ok (.aload_n 0, 1) := by decide +kernel
theorem dX7_costs_38 : decode cX7_costs 38 = .ok (.invokevirtual 251, 3) := by decide +kernel
theorem dX7_costs_41 : decode cX7_costs 41 = .ok (.iload_n 2, 1) := by decide +kernel
theorem dX7_costs_42 : decode cX7_costs 42 = .ok (.aload_n 0, 1) := by decide +kernel
theorem dX7_costs_43 : decode cX7_costs 43 = .ok (.invokevirtual 256, 3) := by decide +kernel
theorem dX7_costs_46 : decode cX7_costs 46 = .ok (.isub, 1) := by decide +kernel
theorem dX7_costs_47 : decode cX7_costs 47 = .ok (.ireturn, 1) := by decide +kernel
theorem dX7_rules_0 : decode cX7_rules 0 = .ok (.aload_n 0, 1) := by decide +kernel
theorem dX7_rules_1 : decode cX7_rules 1 = .ok (.invokevirtual 248, 3) := by decide +kernel
theorem dX7_rules_4 : decode cX7_rules 4 = .ok (.aload_n 0, 1) := by decide +kernel
theorem dX7_rules_5 : decode cX7_rules 5 = .ok (.iconst 0, 1) := by decide +kernel
theorem dX7_rules_6 : decode cX7_rules 6 = .ok (.putfield 188, 3) := by decide +kernel
theorem dX7_rules_9 : decode cX7_rules 9 = .ok (.aload_n 0, 1) := by decide +kernel
theorem dX7_rules_10 : decode cX7_rules 10 = .ok (.invokevirtual 251, 3) := by decide +kernel
theorem dX7_rules_13 : decode cX7_rules 13 = .ok (.aload_n 0, 1) := by decide +kernel
theorem dX7_rules_14 : decode cX7_rules 14 = .ok (.invokevirtual 256, 3) := by decide +kernel
theorem dX7_rules_17 : decode cX7_rules 17 = .ok (.istore_n 1, 1) := by decide +kernel
theorem dX7_rules_18 : decode cX7_rules 18 = .ok (.aload_n 0, 1) := by decide +kernel
theorem dX7_rules_19 : decode cX7_rules 19 = .ok (.iconst 1, 1) := by decide +kernel
theorem dX7_rules_20 : decode cX7_rules 20 = .ok (.putfield 188, 3) := by decide +kernel
theorem dX7_rules_23 : decode cX7_rules 23 = .ok (.aload_n 0, 1) := by decide +kernel
theorem dX7_rules_24 : decode cX7_rules 24 = .ok (.invokevirtual 251, 3) := by decide +kernel
theorem dX7_rules_27 : decode cX7_rules 27 = .ok (.iload_n 1, 1) := by decide +kernel
theorem dX7_rules_28 : decode cX7_rules 28 = .ok (.aload_n 0, 1) := by decide +kernel
theorem dX7_rules_29 : decode cX7_rules 29 = .ok (.invokevirtual 256, 3) := by decide +kernel
theorem dX7_rules_32 : decode cX7_rules 32 = .ok (.isub, 1) := by decide +kernel
theorem dX7_rules_33 : decode cX7_rules 33 = .ok (.ireturn, 1) := by decide +kernel
theorem dX7_stood_0 : decode cX7_stood 0 = .ok (.iload_n 1, 1) := by decide +kernel
theorem dX7_stood_1 : decode cX7_stood 1 = .ok (.invokestatic 273, 3) := by decide +kernel
theorem dX7_stood_4 : decode cX7_stood 4 = .ok (.ifCond .eq 23, 3) := by decide +kernel
theorem dX7_stood_7 : decode cX7_stood 7 = .ok (.iload_n 2, 1) := by decide +kernel
theorem dX7_stood_8 : decode cX7_stood 8 = .ok (.invokestatic 276, 3) := by decide +kernel
theorem dX7_stood_11 : decode cX7_stood 11 = .ok (.ifCond .eq 16, 3) := by decide +kernel
theorem dX7_stood_14 : decode cX7_stood 14 = .ok (.iload 4, 2) := by decide +kernel
theorem dX7_stood_16 : decode cX7_stood 16 = .ok (.i2l, 1) := by decide +kernel
theorem dX7_stood_17 : decode cX7_stood 17 = .ok (.lconst 1, 1) := by decide +kernel
theorem dX7_stood_18 : decode cX7_stood 18 = .ok (.ldc2_w 110, 3) := by decide +kernel
theorem dX7_stood_21 : decode cX7_stood 21 = .ok (.invokestatic 101, 3) := by decide +kernel
theorem dX7_stood_24 : decode cX7_stood 24 = .ok (.ifCond .ne 5, 3) := by decide +kernel
theorem dX7_stood_27 : decode cX7_stood 27 = .ok (.iconst (-1), 1) := by decide +kernel
theorem dX7_stood_28 : decode cX7_stood 28 = .ok (.ireturn, 1) := by decide +kernel
theorem dX7_stood_29 : decode cX7_stood 29 = .ok (.aload_n 0, 1) := by decide +kernel
theorem dX7_stood_30 : decode cX7_stood 30 = .ok (.iload_n 1, 1) := by decide +kernel
theorem dX7_stood_31 : decode cX7_stood 31 = .ok (.iload_n 2, 1) := by decide +kernel
theorem dX7_stood_32 : decode cX7_stood 32 = .ok (.iload_n 3, 1) := by decide +kernel
theorem dX7_stood_33 : decode cX7_stood 33 = .ok (.iload 4, 2) := by decide +kernel
theorem dX7_stood_35 : decode cX7_stood 35 = .ok (.invokevirtual 279, 3) := by decide +kernel
theorem dX7_stood_38 : decode cX7_stood 38 = .ok (.istore 5, 2) := by decide +kernel
theorem dX7_stood_40 : decode cX7_stood 40 = .ok (.iload 5, 2) := by decide +kernel
theorem dX7_stood_42 : decode cX7_stood 42 = .ok (.ifCond .ge 6, 3) := by decide +kernel
theorem dX7_stood_45 : decode cX7_stood 45 = .ok (.iload 5, 2) := by decide +kernel
theorem dX7_stood_47 : decode cX7_stood 47 = .ok (.ireturn, 1) := by decide +kernel
theorem dX7_stood_48 : decode cX7_stood 48 = .ok (.iconst 0, 1) := by decide +kernel
theorem dX7_stood_49 : decode cX7_stood 49 = .ok (.istore 6, 2) := by decide +kernel
theorem dX7_stood_51 : decode cX7_stood 51 = .ok (.iconst 0, 1) := by decide +kernel
theorem dX7_stood_52 : decode cX7_stood 52 = .ok (.istore 7, 2) := by decide +kernel
theorem dX7_stood_54 : decode cX7_stood 54 = .ok (.iload 7, 2) := by decide +kernel
theorem dX7_stood_56 : decode cX7_stood 56 = .ok (.iconst 4, 1) := by decide +kernel
theorem dX7_stood_57 : decode cX7_stood 57 = .ok (.if_icmp .ge 132, 3) := by decide +kernel
theorem dX7_stood_60 : decode cX7_stood 60 = .ok (.iload 7, 2) := by decide +kernel
theorem dX7_stood_62 : decode cX7_stood 62 = .ok (.iconst 3, 1) := by decide +kernel
theorem dX7_stood_63 : decode cX7_stood 63 = .ok (.if_icmp .eq 12, 3) := by decide +kernel
theorem dX7_stood_66 : decode cX7_stood 66 = .ok (.iload 7, 2) := by decide +kernel
theorem dX7_stood_68 : decode cX7_stood 68 = .ok (.aload_n 0, 1) := by decide +kernel
theorem dX7_stood_69 : decode cX7_stood 69 = .ok (.getfield 97, 3) := by decide +kernel
theorem dX7_stood_72 : decode cX7_stood 72 = .ok (.if_icmp .ge 111, 3) := by decide +kernel
theorem dX7_stood_75 : decode cX7_stood 75 = .ok (.aload_n 0, 1) := by decide +kernel
theorem dX7_stood_76 : decode cX7_stood 76 = .ok (.invokevirtual 248, 3) := by decide +kernel
theorem dX7_stood_79 : decode cX7_stood 79 = .ok (.iload 7, 2) := by decide +kernel
theorem dX7_stood_81 : decode cX7_stood 81 = .ok (.iconst 3, 1) := by decide +kernel
theorem dX7_stood_82 : decode cX7_stood 82 = .ok (.if_icmp .ge 19, 3) := by decide +kernel
theorem dX7_stood_85 : decode cX7_stood 85 = .ok (.aload_n 0, 1) := by decide +kernel
theorem dX7_stood_86 : decode cX7_stood 86 = .ok (.getfield 25, 3) := by decide +kernel
theorem dX7_stood_89 : decode cX7_stood 89 = .ok (.iload 7, 2) := by decide +kernel
theorem dX7_stood_91 : decode cX7_stood 91 = .ok (.iconst 0, 1) := by decide +kernel
theorem dX7_stood_92 : decode cX7_stood 92 = .ok (.iastore, 1) := by decide +kernel
theorem dX7_stood_93 : decode cX7_stood 93 = .ok (.aload_n 0, 1) := by decide +kernel
theorem dX7_stood_94 : decode cX7_stood 94 = .ok (.getfield 28, 3) := by decide +kernel
theorem dX7_stood_97 : decode cX7_stood 97 = .ok (.iload 7, 2) := by decide +kernel
theorem dX7_stood_99 : decode cX7_stood 99 = .ok (.iconst 0, 1) := by decide +kernel
theorem dX7_stood_100 : decode cX7_stood 100 = .ok (.iastore, 1) := by decide +kernel
theorem dX7_stood_101 : decode cX7_stood 101 = .ok (.aload_n 0, 1) := by decide +kernel
theorem dX7_stood_102 : decode cX7_stood 102 = .ok (.invokevirtual 251, 3) := by decide +kernel
theorem dX7_stood_105 : decode cX7_stood 105 = .ok (.iconst 1, 1) := by decide +kernel
theorem dX7_stood_106 : decode cX7_stood 106 = .ok (.istore 8, 2) := by decide +kernel
theorem dX7_stood_108 : decode cX7_stood 108 = .ok (.iconst 0, 1) := by decide +kernel
theorem dX7_stood_109 : decode cX7_stood 109 = .ok (.istore 9, 2) := by decide +kernel
theorem dX7_stood_111 : decode cX7_stood 111 = .ok (.iload 9, 2) := by decide +kernel
theorem dX7_stood_113 : decode cX7_stood 113 = .ok (.iload 4, 2) := by decide +kernel
theorem dX7_stood_115 : decode cX7_stood 115 = .ok (.if_icmp .ge 50, 3) := by decide +kernel
theorem dX7_stood_118 : decode cX7_stood 118 = .ok (.iload 8, 2) := by decide +kernel
theorem dX7_stood_120 : decode cX7_stood 120 = .ok (.ifCond .eq 36, 3) := by decide +kernel
theorem dX7_stood_123 : decode cX7_stood 123 = .ok (.aload_n 0, 1) := by decide +kernel
theorem dX7_stood_124 : decode cX7_stood 124 = .ok (.getfield 91, 3) := by decide +kernel
theorem dX7_stood_127 : decode cX7_stood 127 = .ok (.bipush 16, 2) := by decide +kernel
theorem dX7_stood_129 : decode cX7_stood 129 = .ok (.iload_n 1, 1) := by decide +kernel
theorem dX7_stood_130 : decode cX7_stood 130 = .ok (.imul, 1) := by decide +kernel
theorem dX7_stood_131 : decode cX7_stood 131 = .ok (.iload_n 3, 1) := by decide +kernel
theorem dX7_stood_132 : decode cX7_stood 132 = .ok (.iadd, 1) := by decide +kernel
theorem dX7_stood_133 : decode cX7_stood 133 = .ok (.iload 9, 2) := by decide +kernel
theorem dX7_stood_135 : decode cX7_stood 135 = .ok (.iadd, 1) := by decide +kernel
theorem dX7_stood_136 : decode cX7_stood 136 = .ok (.iaload, 1) := by decide +kernel
theorem dX7_stood_137 : decode cX7_stood 137 = .ok (.aload_n 0, 1) := by decide +kernel
theorem dX7_stood_138 : decode cX7_stood 138 = .ok (.bipush 10, 2) := by decide +kernel
theorem dX7_stood_140 : decode cX7_stood 140 = .ok (.iload 9, 2) := by decide +kernel
theorem dX7_stood_142 : decode cX7_stood 142 = .ok (.imul, 1) := by decide +kernel
theorem dX7_stood_143 : decode cX7_stood 143 = .ok (.bipush 9, 2) := by decide +kernel
theorem dX7_stood_145 : decode cX7_stood 145 = .ok (.iadd, 1) := by decide +kernel
theorem dX7_stood_146 : decode cX7_stood 146 = .ok (.invokevirtual 259, 3) := by decide +kernel
theorem dX7_stood_149 : decode cX7_stood 149 = .ok (.if_icmp .ne 7, 3) := by decide +kernel
theorem dX7_stood_152 : decode cX7_stood 152 = .ok (.iconst 1, 1) := by decide +kernel
theorem dX7_stood_153 : decode cX7_stood 153 = .ok (.goto 4, 3) := by decide +kernel
theorem dX7_stood_156 : decode cX7_stood 156 = .ok (.iconst 0, 1) := by decide +kernel
theorem dX7_stood_157 : decode cX7_stood 157 = .ok (.istore 8, 2) := by decide +kernel
theorem dX7_stood_159 : decode cX7_stood 159 = .ok (.iinc 9 1, 3) := by decide +kernel
theorem dX7_stood_162 : decode cX7_stood 162 = .ok (.goto (-51), 3) := by decide +kernel
theorem dX7_stood_165 : decode cX7_stood 165 = .ok (.iload 6, 2) := by decide +kernel
theorem dX7_stood_167 : decode cX7_stood 167 = .ok (.iload 8, 2) := by decide +kernel
theorem dX7_stood_169 : decode cX7_stood 169 = .ok (.ifCond .eq 10, 3) := by decide +kernel
theorem dX7_stood_172 : decode cX7_stood 172 = .ok (.iconst 1, 1) := by decide +kernel
theorem dX7_stood_173 : decode cX7_stood 173 = .ok (.iload 7, 2) := by decide +kernel
theorem dX7_stood_175 : decode cX7_stood 175 = .ok (.ishl, 1) := by decide +kernel
theorem dX7_stood_176 : decode cX7_stood 176 = .ok (.goto 4, 3) := by decide +kernel
theorem dX7_stood_179 : decode cX7_stood 179 = .ok (.iconst 0, 1) := by decide +kernel
theorem dX7_stood_180 : decode cX7_stood 180 = .ok (.ior, 1) := by decide +kernel
theorem dX7_stood_181 : decode cX7_stood 181 = .ok (.istore 6, 2) := by decide +kernel
theorem dX7_stood_183 : decode cX7_stood 183 = .ok (.iinc 7 1, 3) := by decide +kernel
theorem dX7_stood_186 : decode cX7_stood 186 = .ok (.goto (-132), 3) := by decide +kernel
theorem dX7_stood_189 : decode cX7_stood 189 = .ok (.iload 6, 2) := by decide +kernel
theorem dX7_stood_191 : decode cX7_stood 191 = .ok (.ireturn, 1) := by decide +kernel
theorem dX7_saves_0 : decode cX7_saves 0 = .ok (.iconst 0, 1) := by decide +kernel
theorem dX7_saves_1 : decode cX7_saves 1 = .ok (.istore_n 3, 1) := by decide +kernel
theorem dX7_saves_2 : decode cX7_saves 2 = .ok (.iload_n 3, 1) := by decide +kernel
theorem dX7_saves_3 : decode cX7_saves 3 = .ok (.aload_n 0, 1) := by decide +kernel
theorem dX7_saves_4 : decode cX7_saves 4 = .ok (.arraylength, 1) := by decide +kernel
theorem dX7_saves_5 : decode cX7_saves 5 = .ok (.if_icmp .ge 17, 3) := by decide +kernel
theorem dX7_saves_8 : decode cX7_saves 8 = .ok (.aload_n 1, 1) := by decide +kernel
theorem dX7_saves_9 : decode cX7_saves 9 = .ok (.iload_n 2, 1) := by decide +kernel
theorem dX7_saves_10 : decode cX7_saves 10 = .ok (.iload_n 3, 1) := by decide +kernel
theorem dX7_saves_11 : decode cX7_saves 11 = .ok (.iadd, 1) := by decide +kernel
theorem dX7_saves_12 : decode cX7_saves 12 = .ok (.aload_n 0, 1) := by decide +kernel
theorem dX7_saves_13 : decode cX7_saves 13 = .ok (.iload_n 3, 1) := by decide +kernel
theorem dX7_saves_14 : decode cX7_saves 14 = .ok (.iaload, 1) := by decide +kernel
theorem dX7_saves_15 : decode cX7_saves 15 = .ok (.iastore, 1) := by decide +kernel
theorem dX7_saves_16 : decode cX7_saves 16 = .ok (.iinc 3 1, 3) := by decide +kernel
theorem dX7_saves_19 : decode cX7_saves 19 = .ok (.goto (-17), 3) := by decide +kernel
theorem dX7_saves_22 : decode cX7_saves 22 = .ok (.iload_n 2, 1) := by decide +kernel
theorem dX7_saves_23 : decode cX7_saves 23 = .ok (.aload_n 0, 1) := by decide +kernel
theorem dX7_saves_24 : decode cX7_saves 24 = .ok (.arraylength, 1) := by decide +kernel
theorem dX7_saves_25 : decode cX7_saves 25 = .ok (.iadd, 1) := by decide +kernel
theorem dX7_saves_26 : decode cX7_saves 26 = .ok (.ireturn, 1) := by decide +kernel
theorem dX7_gives_0 : decode cX7_gives 0 = .ok (.iconst 0, 1) := by decide +kernel
theorem dX7_gives_1 : decode cX7_gives 1 = .ok (.istore_n 3, 1) := by decide +kernel
theorem dX7_gives_2 : decode cX7_gives 2 = .ok (.iload_n 3, 1) := by decide +kernel
theorem dX7_gives_3 : decode cX7_gives 3 = .ok (.aload_n 2, 1) := by decide +kernel
theorem dX7_gives_4 : decode cX7_gives 4 = .ok (.arraylength, 1) := by decide +kernel
theorem dX7_gives_5 : decode cX7_gives 5 = .ok (.if_icmp .ge 17, 3) := by decide +kernel
theorem dX7_gives_8 : decode cX7_gives 8 = .ok (.aload_n 2, 1) := by decide +kernel
theorem dX7_gives_9 : decode cX7_gives 9 = .ok (.iload_n 3, 1) := by decide +kernel
theorem dX7_gives_10 : decode cX7_gives 10 = .ok (.aload_n 0, 1) := by decide +kernel
theorem dX7_gives_11 : decode cX7_gives 11 = .ok (.iload_n 1, 1) := by decide +kernel
theorem dX7_gives_12 : decode cX7_gives 12 = .ok (.iload_n 3, 1) := by decide +kernel
theorem dX7_gives_13 : decode cX7_gives 13 = .ok (.iadd, 1) := by decide +kernel
theorem dX7_gives_14 : decode cX7_gives 14 = .ok (.iaload, 1) := by decide +kernel
theorem dX7_gives_15 : decode cX7_gives 15 = .ok (.iastore, 1) := by decide +kernel
theorem dX7_gives_16 : decode cX7_gives 16 = .ok (.iinc 3 1, 3) := by decide +kernel
theorem dX7_gives_19 : decode cX7_gives 19 = .ok (.goto (-17), 3) := by decide +kernel
theorem dX7_gives_22 : decode cX7_gives 22 = .ok (.iload_n 1, 1) := by decide +kernel
theorem dX7_gives_23 : decode cX7_gives 23 = .ok (.aload_n 2, 1) := by decide +kernel
theorem dX7_gives_24 : decode cX7_gives 24 = .ok (.arraylength, 1) := by decide +kernel
theorem dX7_gives_25 : decode cX7_gives 25 = .ok (.iadd, 1) := by decide +kernel
theorem dX7_gives_26 : decode cX7_gives 26 = .ok (.ireturn, 1) := by decide +kernel
theorem dX7_image_0 : decode cX7_image 0 = .ok (.aload_n 0, 1) := by decide +kernel
theorem dX7_image_1 : decode cX7_image 1 = .ok (.getfield 7, 3) := by decide +kernel
theorem dX7_image_4 : decode cX7_image 4 = .ok (.aload_n 0, 1) := by decide +kernel
theorem dX7_image_5 : decode cX7_image 5 = .ok (.getfield 82, 3) := by decide +kernel
theorem dX7_image_8 : decode cX7_image 8 = .ok (.iconst 0, 1) := by decide +kernel
theorem dX7_image_9 : decode cX7_image 9 = .ok (.invokestatic 283, 3) := by decide +kernel
theorem dX7_image_12 : decode cX7_image 12 = .ok (.istore_n 1, 1) := by decide +kernel
theorem dX7_image_13 : decode cX7_image 13 = .ok (.aload_n 0, 1) := by decide +kernel
theorem dX7_image_14 : decode cX7_image 14 = .ok (.getfield 13, 3) := by decide +kernel
theorem dX7_image_17 : decode cX7_image 17 = .ok (.aload_n 0, 1) := by decide +kernel
theorem dX7_image_18 : decode cX7_image 18 = .ok (.getfield 82, 3) := by decide +kernel
theorem dX7_image_21 : decode cX7_image 21 = .ok (.iload_n 1, 1) := by decide +kernel
theorem dX7_image_22 : decode cX7_image 22 = .ok (.invokestatic 283, 3) := by decide +kernel
theorem dX7_image_25 : decode cX7_image 25 = .ok (.istore_n 1, 1) := by decide +kernel
theorem dX7_image_26 : decode cX7_image 26 = .ok (.aload_n 0, 1) := by decide +kernel
theorem dX7_image_27 : decode cX7_image 27 = .ok (.getfield 16, 3) := by decide +kernel
theorem dX7_image_30 : decode cX7_image 30 = .ok (.aload_n 0, 1) := by decide +kernel
theorem dX7_image_31 : decode cX7_image 31 = .ok (.getfield 82, 3) := by decide +kernel
theorem dX7_image_34 : decode cX7_image 34 = .ok (.iload_n 1, 1) := by decide +kernel
theorem dX7_image_35 : decode cX7_image 35 = .ok (.invokestatic 283, 3) := by decide +kernel
theorem dX7_image_38 : decode cX7_image 38 = .ok (.istore_n 1, 1) := by decide +kernel
theorem dX7_image_39 : decode cX7_image 39 = .ok (.aload_n 0, 1) := by decide +kernel
theorem dX7_image_40 : decode cX7_image 40 = .ok (.getfield 82, 3) := by decide +kernel
theorem dX7_image_43 : decode cX7_image 43 = .ok (.iload_n 1, 1) := by decide +kernel
theorem dX7_image_44 : decode cX7_image 44 = .ok (.aload_n 0, 1) := by decide +kernel
theorem dX7_image_45 : decode cX7_image 45 = .ok (.getfield 97, 3) := by decide +kernel
theorem dX7_image_48 : decode cX7_image 48 = .ok (.iastore, 1) := by decide +kernel
theorem dX7_image_49 : decode cX7_image 49 = .ok (.aload_n 0, 1) := by decide +kernel
theorem dX7_image_50 : decode cX7_image 50 = .ok (.getfield 82, 3) := by decide +kernel
theorem dX7_image_53 : decode cX7_image 53 = .ok (.iload_n 1, 1) := by decide +kernel
theorem dX7_image_54 : decode cX7_image 54 = .ok (.iconst 1, 1) := by decide +kernel
theorem dX7_image_55 : decode cX7_image 55 = .ok (.iadd, 1) := by decide +kernel
theorem dX7_image_56 : decode cX7_image 56 = .ok (.aload_n 0, 1) := by decide +kernel
theorem dX7_image_57 : decode cX7_image 57 = .ok (.getfield 133, 3) := by decide +kernel
theorem dX7_image_60 : decode cX7_image 60 = .ok (.iastore, 1) := by decide +kernel
theorem dX7_image_61 : decode cX7_image 61 = .ok (.aload_n 0, 1) := by decide +kernel
theorem dX7_image_62 : decode cX7_image 62 = .ok (.getfield 82, 3) := by decide +kernel
theorem dX7_image_65 : decode cX7_image 65 = .ok (.iload_n 1, 1) := by decide +kernel
theorem dX7_image_66 : decode cX7_image 66 = .ok (.iconst 2, 1) := by decide +kernel
theorem dX7_image_67 : decode cX7_image 67 = .ok (.iadd, 1) := by decide +kernel
theorem dX7_image_68 : decode cX7_image 68 = .ok (.aload_n 0, 1) := by decide +kernel
theorem dX7_image_69 : decode cX7_image 69 = .ok (.getfield 136, 3) := by decide +kernel
theorem dX7_image_72 : decode cX7_image 72 = .ok (.iastore, 1) := by decide +kernel
theorem dX7_image_73 : decode cX7_image 73 = .ok (.aload_n 0, 1) := by decide +kernel
theorem dX7_image_74 : decode cX7_image 74 = .ok (.getfield 82, 3) := by decide +kernel
theorem dX7_image_77 : decode cX7_image 77 = .ok (.iload_n 1, 1) := by decide +kernel
theorem dX7_image_78 : decode cX7_image 78 = .ok (.iconst 3, 1) := by decide +kernel
theorem dX7_image_79 : decode cX7_image 79 = .ok (.iadd, 1) := by decide +kernel
theorem dX7_image_80 : decode cX7_image 80 = .ok (.aload_n 0, 1) := by decide +kernel
theorem dX7_image_81 : decode cX7_image 81 = .ok (.getfield 105, 3) := by decide +kernel
theorem dX7_image_84 : decode cX7_image 84 = .ok (.iastore, 1) := by decide +kernel
theorem dX7_image_85 : decode cX7_image 85 = .ok (.aload_n 0, 1) := by decide +kernel
theorem dX7_image_86 : decode cX7_image 86 = .ok (.iconst 1, 1) := by decide +kernel
theorem dX7_image_87 : decode cX7_image 87 = .ok (.putfield 287, 3) := by decide +kernel
theorem dX7_image_90 : decode cX7_image 90 = .ok (.iconst 1, 1) := by decide +kernel
theorem dX7_image_91 : decode cX7_image 91 = .ok (.ireturn, 1) := by decide +kernel
theorem dX7_restore_0 : decode cX7_restore 0 = .ok (.aload_n 0, 1) := by decide +kernel
theorem dX7_restore_1 : decode cX7_restore 1 = .ok (.getfield 287, 3) := by decide +kernel
theorem dX7_restore_4 : decode cX7_restore 4 = .ok (.ifCond .ne 6, 3) := by decide +kernel
theorem dX7_restore_7 : decode cX7_restore 7 = .ok (.bipush (-4), 2) := by decide +kernel
theorem dX7_restore_9 : decode cX7_restore 9 = .ok (.ireturn, 1) := by decide +kernel
theorem dX7_restore_10 : decode cX7_restore 10 = .ok (.aload_n 0, 1) := by decide +kernel
theorem dX7_restore_11 : decode cX7_restore 11 = .ok (.getfield 82, 3) := by decide +kernel
theorem dX7_restore_14 : decode cX7_restore 14 = .ok (.iconst 0, 1) := by decide +kernel
theorem dX7_restore_15 : decode cX7_restore 15 = .ok (.aload_n 0, 1) := by decide +kernel
theorem dX7_restore_16 : decode cX7_restore 16 = .ok (.getfield 7, 3) := by decide +kernel
theorem dX7_restore_19 : decode cX7_restore 19 = .ok (.invokestatic 290, 3) := by decide +kernel
theorem dX7_restore_22 : decode cX7_restore 22 = .ok (.istore_n 1, 1) := by decide +kernel
theorem dX7_restore_23 : decode cX7_restore 23 = .ok (.aload_n 0, 1) := by decide +kernel
theorem dX7_restore_24 : decode cX7_restore 24 = .ok (.getfield 82, 3) := by decide +kernel
theorem dX7_restore_27 : decode cX7_restore 27 = .ok (.iload_n 1, 1) := by decide +kernel
theorem dX7_restore_28 : decode cX7_restore 28 = .ok (.aload_n 0, 1) := by decide +kernel
theorem dX7_restore_29 : decode cX7_restore 29 = .ok (.getfield 13, 3) := by decide +kernel
theorem dX7_restore_32 : decode cX7_restore 32 = .ok (.invokestatic 290, 3) := by decide +kernel
theorem dX7_restore_35 : decode cX7_restore 35 = .ok (.istore_n 1, 1) := by decide +kernel
theorem dX7_restore_36 : decode cX7_restore 36 = .ok (.aload_n 0, 1) := by decide +kernel
theorem dX7_restore_37 : decode cX7_restore 37 = .ok (.getfield 82, 3) := by decide +kernel
theorem dX7_restore_40 : decode cX7_restore 40 = .ok (.iload_n 1, 1) := by decide +kernel
theorem dX7_restore_41 : decode cX7_restore 41 = .ok (.aload_n 0, 1) := by decide +kernel
theorem dX7_restore_42 : decode cX7_restore 42 = .ok (.getfield 16, 3) := by decide +kernel
theorem dX7_restore_45 : decode cX7_restore 45 = .ok (.invokestatic 290, 3) := by decide +kernel
theorem dX7_restore_48 : decode cX7_restore 48 = .ok (.istore_n 1, 1) := by decide +kernel
theorem dX7_restore_49 : decode cX7_restore 49 = .ok (.aload_n 0, 1) := by decide +kernel
theorem dX7_restore_50 : decode cX7_restore 50 = .ok (.aload_n 0, 1) := by decide +kernel
theorem dX7_restore_51 : decode cX7_restore 51 = .ok (.getfield 82, 3) := by decide +kernel
theorem dX7_restore_54 : decode cX7_restore 54 = .ok (.iload_n 1, 1) := by decide +kernel
theorem dX7_restore_55 : decode cX7_restore 55 = .ok (.iaload, 1) := by decide +kernel
theorem dX7_restore_56 : decode cX7_restore 56 = .ok (.putfield 97, 3) := by decide +kernel
theorem dX7_restore_59 : decode cX7_restore 59 = .ok (.aload_n 0, 1) := by decide +kernel
theorem dX7_restore_60 : decode cX7_restore 60 = .ok (.aload_n 0, 1) := by decide +kernel
theorem dX7_restore_61 : decode cX7_restore 61 = .ok (.getfield 82, 3) := by decide +kernel
theorem dX7_restore_64 : decode cX7_restore 64 = .ok (.iload_n 1, 1) := by decide +kernel
theorem dX7_restore_65 : decode cX7_restore 65 = .ok (.iconst 1, 1) := by decide +kernel
theorem dX7_restore_66 : decode cX7_restore 66 = .ok (.iadd, 1) := by decide +kernel
theorem dX7_restore_67 : decode cX7_restore 67 = .ok (.iaload, 1) := by decide +kernel
theorem dX7_restore_68 : decode cX7_restore 68 = .ok (.putfield 133, 3) := by decide +kernel
theorem dX7_restore_71 : decode cX7_restore 71 = .ok (.aload_n 0, 1) := by decide +kernel
theorem dX7_restore_72 : decode cX7_restore 72 = .ok (.aload_n 0, 1) := by decide +kernel
theorem dX7_restore_73 : decode cX7_restore 73 = .ok (.getfield 82, 3) := by decide +kernel
theorem dX7_restore_76 : decode cX7_restore 76 = .ok (.iload_n 1, 1) := by decide +kernel
theorem dX7_restore_77 : decode cX7_restore 77 = .ok (.iconst 2, 1) := by decide +kernel
theorem dX7_restore_78 : decode cX7_restore 78 = .ok (.iadd, 1) := by decide +kernel
theorem dX7_restore_79 : decode cX7_restore 79 = .ok (.iaload, 1) := by decide +kernel
theorem dX7_restore_80 : decode cX7_restore 80 = .ok (.putfield 136, 3) := by decide +kernel
theorem dX7_restore_83 : decode cX7_restore 83 = .ok (.aload_n 0, 1) := by decide +kernel
theorem dX7_restore_84 : decode cX7_restore 84 = .ok (.aload_n 0, 1) := by decide +kernel
theorem dX7_restore_85 : decode cX7_restore 85 = .ok (.getfield 82, 3) := by decide +kernel
theorem dX7_restore_88 : decode cX7_restore 88 = .ok (.iload_n 1, 1) := by decide +kernel
theorem dX7_restore_89 : decode cX7_restore 89 = .ok (.iconst 3, 1) := by decide +kernel
theorem dX7_restore_90 : decode cX7_restore 90 = .ok (.iadd, 1) := by decide +kernel
theorem dX7_restore_91 : decode cX7_restore 91 = .ok (.iaload, 1) := by decide +kernel
theorem dX7_restore_92 : decode cX7_restore 92 = .ok (.putfield 105, 3) := by decide +kernel
theorem dX7_restore_95 : decode cX7_restore 95 = .ok (.iconst 1, 1) := by decide +kernel
theorem dX7_restore_96 : decode cX7_restore 96 = .ok (.ireturn, 1) := by decide +kernel
theorem dX7_isSheet_0 : decode cX7_isSheet 0 = .ok (.iload_n 0, 1) := by decide +kernel
theorem dX7_isSheet_1 : decode cX7_isSheet 1 = .ok (.i2l, 1) := by decide +kernel
theorem dX7_isSheet_2 : decode cX7_isSheet 2 = .ok (.lconst 0, 1) := by decide +kernel
theorem dX7_isSheet_3 : decode cX7_isSheet 3 = .ok (.ldc2_w 108, 3) := by decide +kernel
theorem dX7_isSheet_6 : decode cX7_isSheet 6 = .ok (.invokestatic 101, 3) := by decide +kernel
theorem dX7_isSheet_9 : decode cX7_isSheet 9 = .ok (.ireturn, 1) := by decide +kernel
theorem dX7_isLane_0 : decode cX7_isLane 0 = .ok (.iload_n 0, 1) := by decide +kernel
theorem dX7_isLane_1 : decode cX7_isLane 1 = .ok (.i2l, 1) := by decide +kernel
theorem dX7_isLane_2 : decode cX7_isLane 2 = .ok (.lconst 0, 1) := by decide +kernel
theorem dX7_isLane_3 : decode cX7_isLane 3 = .ok (.ldc2_w 112, 3) := by decide +kernel
theorem dX7_isLane_6 : decode cX7_isLane 6 = .ok (.invokestatic 101, 3) := by decide +kernel
theorem dX7_isLane_9 : decode cX7_isLane 9 = .ok (.ireturn, 1) := by decide +kernel
theorem dX7_finds_0 : decode cX7_finds 0 = .ok (.aload_n 0, 1) := by decide +kernel
theorem dX7_finds_1 : decode cX7_finds 1 = .ok (.getfield 85, 3) := by decide +kernel
theorem dX7_finds_4 : decode cX7_finds 4 = .ok (.iload_n 1, 1) := by decide +kernel
theorem dX7_finds_5 : decode cX7_finds 5 = .ok (.iaload, 1) := by decide +kernel
theorem dX7_finds_6 : decode cX7_finds 6 = .ok (.ifCond .ge 6, 3) := by decide +kernel
theorem dX7_finds_9 : decode cX7_finds 9 = .ok (.bipush (-11), 2) := by decide +kernel
theorem dX7_finds_11 : decode cX7_finds 11 = .ok (.ireturn, 1) := by decide +kernel
theorem dX7_finds_12 : decode cX7_finds 12 = .ok (.aload_n 0, 1) := by decide +kernel
theorem dX7_finds_13 : decode cX7_finds 13 = .ok (.getfield 85, 3) := by decide +kernel
theorem dX7_finds_16 : decode cX7_finds 16 = .ok (.iload_n 1, 1) := by decide +kernel
theorem dX7_finds_17 : decode cX7_finds 17 = .ok (.iaload, 1) := by decide +kernel
theorem dX7_finds_18 : decode cX7_finds 18 = .ok (.iload_n 2, 1) := by decide +kernel
theorem dX7_finds_19 : decode cX7_finds 19 = .ok (.if_icmp .eq 6, 3) := by decide +kernel
theorem dX7_finds_22 : decode cX7_finds 22 = .ok (.bipush (-12), 2) := by decide +kernel
theorem dX7_finds_24 : decode cX7_finds 24 = .ok (.ireturn, 1) := by decide +kernel
theorem dX7_finds_25 : decode cX7_finds 25 = .ok (.iload_n 3, 1) := by decide +kernel
theorem dX7_finds_26 : decode cX7_finds 26 = .ok (.ifCond .lt 20, 3) := by decide +kernel
theorem dX7_finds_29 : decode cX7_finds 29 = .ok (.iload_n 3, 1) := by decide +kernel
theorem dX7_finds_30 : decode cX7_finds 30 = .ok (.i2l, 1) := by decide +kernel
theorem dX7_finds_31 : decode cX7_finds 31 = .ok (.iload 4, 2) := by decide +kernel
theorem dX7_finds_33 : decode cX7_finds 33 = .ok (.i2l, 1) := by decide +kernel
theorem dX7_finds_34 : decode cX7_finds 34 = .ok (.ladd, 1) := by decide +kernel
theorem dX7_finds_35 : decode cX7_finds 35 = .ok (.aload_n 0, 1) := by decide +kernel
theorem dX7_finds_36 : decode cX7_finds 36 = .ok (.getfield 88, 3) := by decide +kernel
theorem dX7_finds_39 : decode cX7_finds 39 = .ok (.iload_n 1, 1) := by decide +kernel
theorem dX7_finds_40 : decode cX7_finds 40 = .ok (.iaload, 1) := by decide +kernel
theorem dX7_finds_41 : decode cX7_finds 41 = .ok (.i2l, 1) := by decide +kernel
theorem dX7_finds_42 : decode cX7_finds 42 = .ok (.lcmp, 1) := by decide +kernel
theorem dX7_finds_43 : decode cX7_finds 43 = .ok (.ifCond .le 8, 3) := by decide +kernel
theorem dX7_finds_46 : decode cX7_finds 46 = .ok (.bipush (-13), 2) := by decide +kernel
theorem dX7_finds_48 : decode cX7_finds 48 = .ok (.goto 4, 3) := by decide +kernel
theorem dX7_finds_51 : decode cX7_finds 51 = .ok (.iconst 0, 1) := by decide +kernel
theorem dX7_finds_52 : decode cX7_finds 52 = .ok (.ireturn, 1) := by decide +kernel
theorem dX7_film_0 : decode cX7_film 0 = .ok (.iload_n 1, 1) := by decide +kernel
theorem dX7_film_1 : decode cX7_film 1 = .ok (.invokestatic 273, 3) := by decide +kernel
theorem dX7_film_4 : decode cX7_film 4 = .ok (.ifCond .eq 23, 3) := by decide +kernel
theorem dX7_film_7 : decode cX7_film 7 = .ok (.iload_n 2, 1) := by decide +kernel
theorem dX7_film_8 : decode cX7_film 8 = .ok (.invokestatic 276, 3) := by decide +kernel
theorem dX7_film_11 : decode cX7_film 11 = .ok (.ifCond .eq 16, 3) := by decide +kernel
theorem dX7_film_14 : decode cX7_film 14 = .ok (.iload 4, 2) := by decide +kernel
theorem dX7_film_16 : decode cX7_film 16 = .ok (.i2l, 1) := by decide +kernel
theorem dX7_film_17 : decode cX7_film 17 = .ok (.lconst 1, 1) := by decide +kernel
theorem dX7_film_18 : decode cX7_film 18 = .ok (.ldc2_w 110, 3) := by decide +kernel
theorem dX7_film_21 : decode cX7_film 21 = .ok (.invokestatic 101, 3) := by decide +kernel
theorem dX7_film_24 : decode cX7_film 24 = .ok (.ifCond .ne 5, 3) := by decide +kernel
theorem dX7_film_27 : decode cX7_film 27 = .ok (.iconst (-1), 1) := by decide +kernel
theorem dX7_film_28 : decode cX7_film 28 = .ok (.ireturn, 1) := by decide +kernel
theorem dX7_film_29 : decode cX7_film 29 = .ok (.aload_n 0, 1) := by decide +kernel
theorem dX7_film_30 : decode cX7_film 30 = .ok (.iload_n 1, 1) := by decide +kernel
theorem dX7_film_31 : decode cX7_film 31 = .ok (.iload_n 2, 1) := by decide +kernel
theorem dX7_film_32 : decode cX7_film 32 = .ok (.iload_n 3, 1) := by decide +kernel
theorem dX7_film_33 : decode cX7_film 33 = .ok (.iload 4, 2) := by decide +kernel
theorem dX7_film_35 : decode cX7_film 35 = .ok (.invokevirtual 279, 3) := by decide +kernel
theorem dX7_film_38 : decode cX7_film 38 = .ok (.istore 5, 2) := by decide +kernel
theorem dX7_film_40 : decode cX7_film 40 = .ok (.iload 5, 2) := by decide +kernel
theorem dX7_film_42 : decode cX7_film 42 = .ok (.ifCond .ge 6, 3) := by decide +kernel
theorem dX7_film_45 : decode cX7_film 45 = .ok (.iload 5, 2) := by decide +kernel
theorem dX7_film_47 : decode cX7_film 47 = .ok (.ireturn, 1) := by decide +kernel
theorem dX7_film_48 : decode cX7_film 48 = .ok (.aload_n 0, 1) := by decide +kernel
theorem dX7_film_49 : decode cX7_film 49 = .ok (.invokevirtual 248, 3) := by decide +kernel
theorem dX7_film_52 : decode cX7_film 52 = .ok (.aload_n 0, 1) := by decide +kernel
theorem dX7_film_53 : decode cX7_film 53 = .ok (.invokevirtual 251, 3) := by decide +kernel
theorem dX7_film_56 : decode cX7_film 56 = .ok (.iconst 0, 1) := by decide +kernel
theorem dX7_film_57 : decode cX7_film 57 = .ok (.istore 6, 2) := by decide +kernel
theorem dX7_film_59 : decode cX7_film 59 = .ok (.iload 6, 2) := by decide +kernel
theorem dX7_film_61 : decode cX7_film 61 = .ok (.iload 4, 2) := by decide +kernel
theorem dX7_film_63 : decode cX7_film 63 = .ok (.if_icmp .ge 35, 3) := by decide +kernel
theorem dX7_film_66 : decode cX7_film 66 = .ok (.aload_n 0, 1) := by decide +kernel
theorem dX7_film_67 : decode cX7_film 67 = .ok (.getfield 91, 3) := by decide +kernel
theorem dX7_film_70 : decode cX7_film 70 = .ok (.bipush 16, 2) := by decide +kernel
theorem dX7_film_72 : decode cX7_film 72 = .ok (.iload_n 1, 1) := by decide +kernel
theorem dX7_film_73 : decode cX7_film 73 = .ok (.imul, 1) := by decide +kernel
theorem dX7_film_74 : decode cX7_film 74 = .ok (.iload_n 3, 1) := by decide +kernel
theorem dX7_film_75 : decode cX7_film 75 = .ok (.iadd, 1) := by decide +kernel
theorem dX7_film_76 : decode cX7_film 76 = .ok (.iload 6, 2) := by decide +kernel
theorem dX7_film_78 : decode cX7_film 78 = .ok (.iadd, 1) := by decide +kernel
theorem dX7_film_79 : decode cX7_film 79 = .ok (.aload_n 0, 1) := by decide +kernel
theorem dX7_film_80 : decode cX7_film 80 = .ok (.bipush 10, 2) := by decide +kernel
theorem dX7_film_82 : decode cX7_film 82 = .ok (.iload 6, 2) := by decide +kernel
theorem dX7_film_84 : decode cX7_film 84 = .ok (.imul, 1) := by decide +kernel
theorem dX7_film_85 : decode cX7_film 85 = .ok (.bipush 9, 2) := by decide +kernel
theorem dX7_film_87 : decode cX7_film 87 = .ok (.iadd, 1) := by decide +kernel
theorem dX7_film_88 : decode cX7_film 88 = .ok (.invokevirtual 259, 3) := by decide +kernel
theorem dX7_film_91 : decode cX7_film 91 = .ok (.iastore, 1) := by decide +kernel
theorem dX7_film_92 : decode cX7_film 92 = .ok (.iinc 6 1, 3) := by decide +kernel
theorem dX7_film_95 : decode cX7_film 95 = .ok (.goto (-36), 3) := by decide +kernel
theorem dX7_film_98 : decode cX7_film 98 = .ok (.iload 4, 2) := by decide +kernel
theorem dX7_film_100 : decode cX7_film 100 = .ok (.ireturn, 1) := by decide +kernel
theorem dX7_sheet_0 : decode cX7_sheet 0 = .ok (.iload_n 1, 1) := by decide +kernel
theorem dX7_sheet_1 : decode cX7_sheet 1 = .ok (.invokestatic 273, 3) := by decide +kernel
theorem dX7_sheet_4 : decode cX7_sheet 4 = .ok (.ifCond .eq 16, 3) := by decide +kernel
theorem dX7_sheet_7 : decode cX7_sheet 7 = .ok (.iload_n 2, 1) := by decide +kernel
theorem dX7_sheet_8 : decode cX7_sheet 8 = .ok (.invokestatic 276, 3) := by decide +kernel
theorem dX7_sheet_11 : decode cX7_sheet 11 = .ok (.ifCond .eq 9, 3) := by decide +kernel
theorem dX7_sheet_14 : decode cX7_sheet 14 = .ok (.iload_n 3, 1) := by decide +kernel
theorem dX7_sheet_15 : decode cX7_sheet 15 = .ok (.bipush 16, 2) := by decide +kernel
theorem dX7_sheet_17 : decode cX7_sheet 17 = .ok (.if_icmp .le 5, 3) := by decide +kernel
theorem dX7_sheet_20 : decode cX7_sheet 20 = .ok (.iconst (-1), 1) := by decide +kernel
theorem dX7_sheet_21 : decode cX7_sheet 21 = .ok (.ireturn, 1) := by decide +kernel
theorem dX7_sheet_22 : decode cX7_sheet 22 = .ok (.iload_n 3, 1) := by decide +kernel
theorem dX7_sheet_23 : decode cX7_sheet 23 = .ok (.ifCond .ge 6, 3) := by decide +kernel
theorem dX7_sheet_26 : decode cX7_sheet 26 = .ok (.bipush (-14), 2) := by decide +kernel
theorem dX7_sheet_28 : decode cX7_sheet 28 = .ok (.ireturn, 1) := by decide +kernel
theorem dX7_sheet_29 : decode cX7_sheet 29 = .ok (.aload_n 0, 1) := by decide +kernel
theorem dX7_sheet_30 : decode cX7_sheet 30 = .ok (.getfield 85, 3) := by decide +kernel
theorem dX7_sheet_33 : decode cX7_sheet 33 = .ok (.iload_n 1, 1) := by decide +kernel
theorem dX7_sheet_34 : decode cX7_sheet 34 = .ok (.iload_n 2, 1) := by decide +kernel
theorem dX7_sheet_35 : decode cX7_sheet 35 = .ok (.iastore, 1) := by decide +kernel
theorem dX7_sheet_36 : decode cX7_sheet 36 = .ok (.aload_n 0, 1) := by decide +kernel
theorem dX7_sheet_37 : decode cX7_sheet 37 = .ok (.getfield 88, 3) := by decide +kernel
theorem dX7_sheet_40 : decode cX7_sheet 40 = .ok (.iload_n 1, 1) := by decide +kernel
theorem dX7_sheet_41 : decode cX7_sheet 41 = .ok (.iload_n 3, 1) := by decide +kernel
theorem dX7_sheet_42 : decode cX7_sheet 42 = .ok (.iastore, 1) := by decide +kernel
theorem dX7_sheet_43 : decode cX7_sheet 43 = .ok (.iconst 0, 1) := by decide +kernel
theorem dX7_sheet_44 : decode cX7_sheet 44 = .ok (.istore 4, 2) := by decide +kernel
theorem dX7_sheet_46 : decode cX7_sheet 46 = .ok (.iload 4, 2) := by decide +kernel
theorem dX7_sheet_48 : decode cX7_sheet 48 = .ok (.bipush 16, 2) := by decide +kernel
theorem dX7_sheet_50 : decode cX7_sheet 50 = .ok (.if_icmp .ge 22, 3) := by decide +kernel
theorem dX7_sheet_53 : decode cX7_sheet 53 = .ok (.aload_n 0, 1) := by decide +kernel
theorem dX7_sheet_54 : decode cX7_sheet 54 = .ok (.getfield 91, 3) := by decide +kernel
theorem dX7_sheet_57 : decode cX7_sheet 57 = .ok (.bipush 16, 2) := by decide +kernel
theorem dX7_sheet_59 : decode cX7_sheet 59 = .ok (.iload_n 1, 1) := by decide +kernel
theorem dX7_sheet_60 : decode cX7_sheet 60 = .ok (.imul, 1) := by decide +kernel
theorem dX7_sheet_61 : decode cX7_sheet 61 = .ok (.iload 4, 2) := by decide +kernel
theorem dX7_sheet_63 : decode cX7_sheet 63 = .ok (.iadd, 1) := by decide +kernel
theorem dX7_sheet_64 : decode cX7_sheet 64 = .ok (.iconst 0, 1) := by decide +kernel
theorem dX7_sheet_65 : decode cX7_sheet 65 = .ok (.iastore, 1) := by decide +kernel
theorem dX7_sheet_66 : decode cX7_sheet 66 = .ok (.iinc 4 1, 3) := by decide +kernel
theorem dX7_sheet_69 : decode cX7_sheet 69 = .ok (.goto (-23), 3) := by decide +kernel
theorem dX7_sheet_72 : decode cX7_sheet 72 = .ok (.iload_n 3, 1) := by decide +kernel
theorem dX7_sheet_73 : decode cX7_sheet 73 = .ok (.ireturn, 1) := by decide +kernel
theorem dX7_drop_0 : decode cX7_drop 0 = .ok (.iload_n 1, 1) := by decide +kernel
theorem dX7_drop_1 : decode cX7_drop 1 = .ok (.invokestatic 273, 3) := by decide +kernel
theorem dX7_drop_4 : decode cX7_drop 4 = .ok (.ifCond .ne 5, 3) := by decide +kernel
theorem dX7_drop_7 : decode cX7_drop 7 = .ok (.iconst (-1), 1) := by decide +kernel
theorem dX7_drop_8 : decode cX7_drop 8 = .ok (.ireturn, 1) := by decide +kernel
theorem dX7_drop_9 : decode cX7_drop 9 = .ok (.aload_n 0, 1) := by decide +kernel
theorem dX7_drop_10 : decode cX7_drop 10 = .ok (.getfield 85, 3) := by decide +kernel
theorem dX7_drop_13 : decode cX7_drop 13 = .ok (.iload_n 1, 1) := by decide +kernel
theorem dX7_drop_14 : decode cX7_drop 14 = .ok (.iaload, 1) := by decide +kernel
theorem dX7_drop_15 : decode cX7_drop 15 = .ok (.ifCond .ge 6, 3) := by decide +kernel
theorem dX7_drop_18 : decode cX7_drop 18 = .ok (.bipush (-11), 2) := by decide +kernel
theorem dX7_drop_20 : decode cX7_drop 20 = .ok (.ireturn, 1) := by decide +kernel
theorem dX7_drop_21 : decode cX7_drop 21 = .ok (.aload_n 0, 1) := by decide +kernel
theorem dX7_drop_22 : decode cX7_drop 22 = .ok (.getfield 85, 3) := by decide +kernel
theorem dX7_drop_25 : decode cX7_drop 25 = .ok (.iload_n 1, 1) := by decide +kernel
theorem dX7_drop_26 : decode cX7_drop 26 = .ok (.iconst (-1), 1) := by decide +kernel
theorem dX7_drop_27 : decode cX7_drop 27 = .ok (.iastore, 1) := by decide +kernel
theorem dX7_drop_28 : decode cX7_drop 28 = .ok (.aload_n 0, 1) := by decide +kernel
theorem dX7_drop_29 : decode cX7_drop 29 = .ok (.getfield 88, 3) := by decide +kernel
theorem dX7_drop_32 : decode cX7_drop 32 = .ok (.iload_n 1, 1) := by decide +kernel
theorem dX7_drop_33 : decode cX7_drop 33 = .ok (.iaload, 1) := by decide +kernel
theorem dX7_drop_34 : decode cX7_drop 34 = .ok (.ireturn, 1) := by decide +kernel
theorem dX7_item_0 : decode cX7_item 0 = .ok (.iload_n 1, 1) := by decide +kernel
theorem dX7_item_1 : decode cX7_item 1 = .ok (.invokestatic 273, 3) := by decide +kernel
theorem dX7_item_4 : decode cX7_item 4 = .ok (.ifCond .eq 10, 3) := by decide +kernel
theorem dX7_item_7 : decode cX7_item 7 = .ok (.iload_n 2, 1) := by decide +kernel
theorem dX7_item_8 : decode cX7_item 8 = .ok (.invokestatic 276, 3) := by decide +kernel
theorem dX7_item_11 : decode cX7_item 11 = .ok (.ifCond .ne 5, 3) := by decide +kernel
theorem dX7_item_14 : decode cX7_item 14 = .ok (.iconst (-1), 1) := by decide +kernel
theorem dX7_item_15 : decode cX7_item 15 = .ok (.ireturn, 1) := by decide +kernel
theorem dX7_item_16 : decode cX7_item 16 = .ok (.aload_n 0, 1) := by decide +kernel
theorem dX7_item_17 : decode cX7_item 17 = .ok (.iload_n 1, 1) := by decide +kernel
theorem dX7_item_18 : decode cX7_item 18 = .ok (.iload_n 2, 1) := by decide +kernel
theorem dX7_item_19 : decode cX7_item 19 = .ok (.iload_n 3, 1) := by decide +kernel
theorem dX7_item_20 : decode cX7_item 20 = .ok (.iconst 1, 1) := by decide +kernel
theorem dX7_item_21 : decode cX7_item 21 = .ok (.invokevirtual 279, 3) := by decide +kernel
theorem dX7_item_24 : decode cX7_item 24 = .ok (.istore 5, 2) := by decide +kernel
theorem dX7_item_26 : decode cX7_item 26 = .ok (.iload 5, 2) := by decide +kernel
theorem dX7_item_28 : decode cX7_item 28 = .ok (.ifCond .ge 6, 3) := by decide +kernel
theorem dX7_item_31 : decode cX7_item 31 = .ok (.iload 5, 2) := by decide +kernel
theorem dX7_item_33 : decode cX7_item 33 = .ok (.ireturn, 1) := by decide +kernel
theorem dX7_item_34 : decode cX7_item 34 = .ok (.aload_n 0, 1) := by decide +kernel
theorem dX7_item_35 : decode cX7_item 35 = .ok (.getfield 91, 3) := by decide +kernel
theorem dX7_item_38 : decode cX7_item 38 = .ok (.bipush 16, 2) := by decide +kernel
theorem dX7_item_40 : decode cX7_item 40 = .ok (.iload_n 1, 1) := by decide +kernel
theorem dX7_item_41 : decode cX7_item 41 = .ok (.imul, 1) := by decide +kernel
theorem dX7_item_42 : decode cX7_item 42 = .ok (.iload_n 3, 1) := by decide +kernel
theorem dX7_item_43 : decode cX7_item 43 = .ok (.iadd, 1) := by decide +kernel
theorem dX7_item_44 : decode cX7_item 44 = .ok (.iload_n 2, 1) := by decide +kernel
theorem dX7_item_45 : decode cX7_item 45 = .ok (.ifCond .ne 9, 3) := by decide +kernel
theorem dX7_item_48 : decode cX7_item 48 = .ok (.iload 4, 2) := by decide +kernel
theorem dX7_item_50 : decode cX7_item 50 = .ok (.i2b, 1) := by decide +kernel
theorem dX7_item_51 : decode cX7_item 51 = .ok (.goto 16, 3) := by decide +kernel
theorem dX7_item_54 : decode cX7_item 54 = .ok (.iload_n 2, 1) := by decide +kernel
theorem dX7_item_55 : decode cX7_item 55 = .ok (.iconst 1, 1) := by decide +kernel
theorem dX7_item_56 : decode cX7_item 56 = .ok (.if_icmp .ne 9, 3) := by decide +kernel
theorem dX7_item_59 : decode cX7_item 59 = .ok (.iload 4, 2) := by decide +kernel
theorem dX7_item_61 : decode cX7_item 61 = .ok (.i2s, 1) := by decide +kernel
theorem dX7_item_62 : decode cX7_item 62 = .ok (.goto 5, 3) := by decide +kernel
theorem dX7_item_65 : decode cX7_item 65 = .ok (.iload 4, 2) := by decide +kernel
theorem dX7_item_67 : decode cX7_item 67 = .ok (.iastore, 1) := by decide +kernel
theorem dX7_item_68 : decode cX7_item 68 = .ok (.iconst 1, 1) := by decide +kernel
theorem dX7_item_69 : decode cX7_item 69 = .ok (.ireturn, 1) := by decide +kernel
theorem dX7_copy_0 : decode cX7_copy 0 = .ok (.iload_n 1, 1) := by decide +kernel
theorem dX7_copy_1 : decode cX7_copy 1 = .ok (.invokestatic 273, 3) := by decide +kernel
theorem dX7_copy_4 : decode cX7_copy 4 = .ok (.ifCond .eq 10, 3) := by decide +kernel
theorem dX7_copy_7 : decode cX7_copy 7 = .ok (.iload_n 3, 1) := by decide +kernel
theorem dX7_copy_8 : decode cX7_copy 8 = .ok (.invokestatic 273, 3) := by decide +kernel
theorem dX7_copy_11 : decode cX7_copy 11 = .ok (.ifCond .ne 5, 3) := by decide +kernel
theorem dX7_copy_14 : decode cX7_copy 14 = .ok (.iconst (-1), 1) := by decide +kernel
theorem dX7_copy_15 : decode cX7_copy 15 = .ok (.ireturn, 1) := by decide +kernel
theorem dX7_copy_16 : decode cX7_copy 16 = .ok (.aload_n 0, 1) := by decide +kernel
theorem dX7_copy_17 : decode cX7_copy 17 = .ok (.getfield 85, 3) := by decide +kernel
theorem dX7_copy_20 : decode cX7_copy 20 = .ok (.iload_n 1, 1) := by decide +kernel
theorem dX7_copy_21 : decode cX7_copy 21 = .ok (.iaload, 1) := by decide +kernel
theorem dX7_copy_22 : decode cX7_copy 22 = .ok (.ifCond .lt 12, 3) := by decide +kernel
theorem dX7_copy_25 : decode cX7_copy 25 = .ok (.aload_n 0, 1) := by decide +kernel
theorem dX7_copy_26 : decode cX7_copy 26 = .ok (.getfield 85, 3) := by decide +kernel
theorem dX7_copy_29 : decode cX7_copy 29 = .ok (.iload_n 3, 1) := by decide +kernel
theorem dX7_copy_30 : decode cX7_copy 30 = .ok (.iaload, 1) := by decide +kernel
theorem dX7_copy_31 : decode cX7_copy 31 = .ok (.ifCond .ge 6, 3) := by decide +kernel
theorem dX7_copy_34 : decode cX7_copy 34 = .ok (.bipush (-11), 2) := by decide +kernel
theorem dX7_copy_36 : decode cX7_copy 36 = .ok (.ireturn, 1) := by decide +kernel
theorem dX7_copy_37 : decode cX7_copy 37 = .ok (.aload_n 0, 1) := by decide +kernel
theorem dX7_copy_38 : decode cX7_copy 38 = .ok (.getfield 85, 3) := by decide +kernel
theorem dX7_copy_41 : decode cX7_copy 41 = .ok (.iload_n 1, 1) := by decide +kernel
theorem dX7_copy_42 : decode cX7_copy 42 = .ok (.iaload, 1) := by decide +kernel
theorem dX7_copy_43 : decode cX7_copy 43 = .ok (.aload_n 0, 1) := by decide +kernel
theorem dX7_copy_44 : decode cX7_copy 44 = .ok (.getfield 85, 3) := by decide +kernel
theorem dX7_copy_47 : decode cX7_copy 47 = .ok (.iload_n 3, 1) := by decide +kernel
theorem dX7_copy_48 : decode cX7_copy 48 = .ok (.iaload, 1) := by decide +kernel
theorem dX7_copy_49 : decode cX7_copy 49 = .ok (.if_icmp .eq 6, 3) := by decide +kernel
theorem dX7_copy_52 : decode cX7_copy 52 = .ok (.bipush (-12), 2) := by decide +kernel
theorem dX7_copy_54 : decode cX7_copy 54 = .ok (.ireturn, 1) := by decide +kernel
theorem dX7_copy_55 : decode cX7_copy 55 = .ok (.iload 5, 2) := by decide +kernel
theorem dX7_copy_57 : decode cX7_copy 57 = .ok (.ifCond .lt 38, 3) := by decide +kernel
theorem dX7_copy_60 : decode cX7_copy 60 = .ok (.aload_n 0, 1) := by decide +kernel
theorem dX7_copy_61 : decode cX7_copy 61 = .ok (.iload_n 1, 1) := by decide +kernel
theorem dX7_copy_62 : decode cX7_copy 62 = .ok (.aload_n 0, 1) := by decide +kernel
theorem dX7_copy_63 : decode cX7_copy 63 = .ok (.getfield 85, 3) := by decide +kernel
theorem dX7_copy_66 : decode cX7_copy 66 = .ok (.iload_n 1, 1) := by decide +kernel
theorem dX7_copy_67 : decode cX7_copy 67 = .ok (.iaload, 1) := by decide +kernel
theorem dX7_copy_68 : decode cX7_copy 68 = .ok (.iload_n 2, 1) := by decide +kernel
theorem dX7_copy_69 : decode cX7_copy 69 = .ok (.iload 5, 2) := by decide +kernel
theorem dX7_copy_71 : decode cX7_copy 71 = .ok (.invokevirtual 279, 3) := by decide +kernel
theorem dX7_copy_74 : decode cX7_copy 74 = .ok (.ifCond .lt 21, 3) := by decide +kernel
theorem dX7_copy_77 : decode cX7_copy 77 = .ok (.aload_n 0, 1) := by decide +kernel
theorem dX7_copy_78 : decode cX7_copy 78 = .ok (.iload_n 3, 1) := by decide +kernel
theorem dX7_copy_79 : decode cX7_copy 79 = .ok (.aload_n 0, 1) := by decide +kernel
theorem dX7_copy_80 : decode cX7_copy 80 = .ok (.getfield 85, 3) := by decide +kernel
theorem dX7_copy_83 : decode cX7_copy 83 = .ok (.iload_n 3, 1) := by decide +kernel
theorem dX7_copy_84 : decode cX7_copy 84 = .ok (.iaload, 1) := by decide +kernel
theorem dX7_copy_85 : decode cX7_copy 85 = .ok (.iload 4, 2) := by decide +kernel
theorem dX7_copy_87 : decode cX7_copy 87 = .ok (.iload 5, 2) := by decide +kernel
theorem dX7_copy_89 : decode cX7_copy 89 = .ok (.invokevirtual 279, 3) := by decide +kernel
theorem dX7_copy_92 : decode cX7_copy 92 = .ok (.ifCond .ge 6, 3) := by decide +kernel
theorem dX7_copy_95 : decode cX7_copy 95 = .ok (.bipush (-13), 2) := by decide +kernel
theorem dX7_copy_97 : decode cX7_copy 97 = .ok (.ireturn, 1) := by decide +kernel
theorem dX7_copy_98 : decode cX7_copy 98 = .ok (.iconst 0, 1) := by decide +kernel
theorem dX7_copy_99 : decode cX7_copy 99 = .ok (.istore 6, 2) := by decide +kernel
theorem dX7_copy_101 : decode cX7_copy 101 = .ok (.iload 6, 2) := by decide +kernel
theorem dX7_copy_103 : decode cX7_copy 103 = .ok (.iload 5, 2) := by decide +kernel
theorem dX7_copy_105 : decode cX7_copy 105 = .ok (.if_icmp .ge 30, 3) := by decide +kernel
theorem dX7_copy_108 : decode cX7_copy 108 = .ok (.aload_n 0, 1) := by decide +kernel
theorem dX7_copy_109 : decode cX7_copy 109 = .ok (.getfield 94, 3) := by decide +kernel
theorem dX7_copy_112 : decode cX7_copy 112 = .ok (.iload 6, 2) := by decide +kernel
theorem dX7_copy_114 : decode cX7_copy 114 = .ok (.aload_n 0, 1) := by decide +kernel
theorem dX7_copy_115 : decode cX7_copy 115 = .ok (.getfield 91, 3) := by decide +kernel
theorem dX7_copy_118 : decode cX7_copy 118 = .ok (.bipush 16, 2) := by decide +kernel
theorem dX7_copy_120 : decode cX7_copy 120 = .ok (.iload_n 1, 1) := by decide +kernel
theorem dX7_copy_121 : decode cX7_copy 121 = .ok (.imul, 1) := by decide +kernel
theorem dX7_copy_122 : decode cX7_copy 122 = .ok (.iload_n 2, 1) := by decide +kernel
theorem dX7_copy_123 : decode cX7_copy 123 = .ok (.iadd, 1) := by decide +kernel
theorem dX7_copy_124 : decode cX7_copy 124 = .ok (.iload 6, 2) := by decide +kernel
theorem dX7_copy_126 : decode cX7_copy 126 = .ok (.iadd, 1) := by decide +kernel
theorem dX7_copy_127 : decode cX7_copy 127 = .ok (.iaload, 1) := by decide +kernel
theorem dX7_copy_128 : decode cX7_copy 128 = .ok (.iastore, 1) := by decide +kernel
theorem dX7_copy_129 : decode cX7_copy 129 = .ok (.iinc 6 1, 3) := by decide +kernel
theorem dX7_copy_132 : decode cX7_copy 132 = .ok (.goto (-31), 3) := by decide +kernel
theorem dX7_copy_135 : decode cX7_copy 135 = .ok (.iconst 0, 1) := by decide +kernel
theorem dX7_copy_136 : decode cX7_copy 136 = .ok (.istore 6, 2) := by decide +kernel
theorem dX7_copy_138 : decode cX7_copy 138 = .ok (.iload 6, 2) := by decide +kernel
theorem dX7_copy_140 : decode cX7_copy 140 = .ok (.iload 5, 2) := by decide +kernel
theorem dX7_copy_142 : decode cX7_copy 142 = .ok (.if_icmp .ge 31, 3) := by decide +kernel
theorem dX7_copy_145 : decode cX7_copy 145 = .ok (.aload_n 0, 1) := by decide +kernel
theorem dX7_copy_146 : decode cX7_copy 146 = .ok (.getfield 91, 3) := by decide +kernel
theorem dX7_copy_149 : decode cX7_copy 149 = .ok (.bipush 16, 2) := by decide +kernel
theorem dX7_copy_151 : decode cX7_copy 151 = .ok (.iload_n 3, 1) := by decide +kernel
theorem dX7_copy_152 : decode cX7_copy 152 = .ok (.imul, 1) := by decide +kernel
theorem dX7_copy_153 : decode cX7_copy 153 = .ok (.iload 4, 2) := by decide +kernel
theorem dX7_copy_155 : decode cX7_copy 155 = .ok (.iadd, 1) := by decide +kernel
theorem dX7_copy_156 : decode cX7_copy 156 = .ok (.iload 6, 2) := by decide +kernel
theorem dX7_copy_158 : decode cX7_copy 158 = .ok (.iadd, 1) := by decide +kernel
theorem dX7_copy_159 : decode cX7_copy 159 = .ok (.aload_n 0, 1) := by decide +kernel
theorem dX7_copy_160 : decode cX7_copy 160 = .ok (.getfield 94, 3) := by decide +kernel
theorem dX7_copy_163 : decode cX7_copy 163 = .ok (.iload 6, 2) := by decide +kernel
theorem dX7_copy_165 : decode cX7_copy 165 = .ok (.iaload, 1) := by decide +kernel
theorem dX7_copy_166 : decode cX7_copy 166 = .ok (.iastore, 1) := by decide +kernel
theorem dX7_copy_167 : decode cX7_copy 167 = .ok (.iinc 6 1, 3) := by decide +kernel
theorem dX7_copy_170 : decode cX7_copy 170 = .ok (.goto (-32), 3) := by decide +kernel
theorem dX7_copy_173 : decode cX7_copy 173 = .ok (.iload 5, 2) := by decide +kernel
theorem dX7_copy_175 : decode cX7_copy 175 = .ok (.ireturn, 1) := by decide +kernel
end
section
theorem dJ11_isValidCodePoint_9a6ad_0 : decode cJ11_isValidCodePoint_9a6ad 0 = .ok (.iload_n 0, 1) := by decide +kernel
theorem dJ11_isValidCodePoint_9a6ad_1 : decode cJ11_isValidCodePoint_9a6ad 1 = .ok (.bipush 16, 2) := by decide +kernel
theorem dJ11_isValidCodePoint_9a6ad_3 : decode cJ11_isValidCodePoint_9a6ad 3 = .ok (.iushr, 1) := by decide +kernel
theorem dJ11_isValidCodePoint_9a6ad_4 : decode cJ11_isValidCodePoint_9a6ad 4 = .ok (.istore_n 1, 1) := by decide +kernel
theorem dJ11_isValidCodePoint_9a6ad_5 : decode cJ11_isValidCodePoint_9a6ad 5 = .ok (.iload_n 1, 1) := by decide +kernel
theorem dJ11_isValidCodePoint_9a6ad_6 : decode cJ11_isValidCodePoint_9a6ad 6 = .ok (.bipush 17, 2) := by decide +kernel
theorem dJ11_isValidCodePoint_9a6ad_8 : decode cJ11_isValidCodePoint_9a6ad 8 = .ok (.if_icmp .ge 7, 3) := by decide +kernel
theorem dJ11_isValidCodePoint_9a6ad_11 : decode cJ11_isValidCodePoint_9a6ad 11 = .ok (.iconst 1, 1) := by decide +kernel
theorem dJ11_isValidCodePoint_9a6ad_12 : decode cJ11_isValidCodePoint_9a6ad 12 = .ok (.goto 4, 3) := by decide +kernel
theorem dJ11_isValidCodePoint_9a6ad_15 : decode cJ11_isValidCodePoint_9a6ad 15 = .ok (.iconst 0, 1) := by decide +kernel
theorem dJ11_isValidCodePoint_9a6ad_16 : decode cJ11_isValidCodePoint_9a6ad 16 = .ok (.ireturn, 1) := by decide +kernel
theorem dJ11_highSurrogate_5068e_0 : decode cJ11_highSurrogate_5068e 0 = .ok (.iload_n 0, 1) := by decide +kernel
theorem dJ11_highSurrogate_5068e_1 : decode cJ11_highSurrogate_5068e 1 = .ok (.bipush 10, 2) := by decide +kernel
theorem dJ11_highSurrogate_5068e_3 : decode cJ11_highSurrogate_5068e 3 = .ok (.iushr, 1) := by decide +kernel
theorem dJ11_highSurrogate_5068e_4 : decode cJ11_highSurrogate_5068e 4 = .ok (.ldc 110, 2) := by decide +kernel
theorem dJ11_highSurrogate_5068e_6 : decode cJ11_highSurrogate_5068e 6 = .ok (.iadd, 1) := by decide +kernel
theorem dJ11_highSurrogate_5068e_7 : decode cJ11_highSurrogate_5068e 7 = .ok (.i2c, 1) := by decide +kernel
theorem dJ11_highSurrogate_5068e_8 : decode cJ11_highSurrogate_5068e 8 = .ok (.ireturn, 1) := by decide +kernel
theorem dJ11_lowSurrogate_5068e_0 : decode cJ11_lowSurrogate_5068e 0 = .ok (.iload_n 0, 1) := by decide +kernel
theorem dJ11_lowSurrogate_5068e_1 : decode cJ11_lowSurrogate_5068e 1 = .ok (.sipush 1023, 3) := by decide +kernel
theorem dJ11_lowSurrogate_5068e_4 : decode cJ11_lowSurrogate_5068e 4 = .ok (.iand, 1) := by decide +kernel
theorem dJ11_lowSurrogate_5068e_5 : decode cJ11_lowSurrogate_5068e 5 = .ok (.ldc 76, 2) := by decide +kernel
theorem dJ11_lowSurrogate_5068e_7 : decode cJ11_lowSurrogate_5068e 7 = .ok (.iadd, 1) := by decide +kernel
theorem dJ11_lowSurrogate_5068e_8 : decode cJ11_lowSurrogate_5068e 8 = .ok (.i2c, 1) := by decide +kernel
theorem dJ11_lowSurrogate_5068e_9 : decode cJ11_lowSurrogate_5068e 9 = .ok (.ireturn, 1) := by decide +kernel
theorem dJ9_max_7cf53_0 : decode cJ9_max_7cf53 0 = .ok (.iload_n 0, 1) := by decide +kernel
theorem dJ9_max_7cf53_1 : decode cJ9_max_7cf53 1 = .ok (.iload_n 1, 1) := by decide +kernel
theorem dJ9_max_7cf53_2 : decode cJ9_max_7cf53 2 = .ok (.if_icmp .lt 7, 3) := by decide +kernel
theorem dJ9_max_7cf53_5 : decode cJ9_max_7cf53 5 = .ok (.iload_n 0, 1) := by decide +kernel
theorem dJ9_max_7cf53_6 : decode cJ9_max_7cf53 6 = .ok (.goto 4, 3) := by decide +kernel
theorem dJ9_max_7cf53_9 : decode cJ9_max_7cf53 9 = .ok (.iload_n 1, 1) := by decide +kernel
theorem dJ9_max_7cf53_10 : decode cJ9_max_7cf53 10 = .ok (.ireturn, 1) := by decide +kernel
theorem dJ9_min_7cf53_0 : decode cJ9_min_7cf53 0 = .ok (.iload_n 0, 1) := by decide +kernel
theorem dJ9_min_7cf53_1 : decode cJ9_min_7cf53 1 = .ok (.iload_n 1, 1) := by decide +kernel
theorem dJ9_min_7cf53_2 : decode cJ9_min_7cf53 2 = .ok (.if_icmp .gt 7, 3) := by decide +kernel
theorem dJ9_min_7cf53_5 : decode cJ9_min_7cf53 5 = .ok (.iload_n 0, 1) := by decide +kernel
theorem dJ9_min_7cf53_6 : decode cJ9_min_7cf53 6 = .ok (.goto 4, 3) := by decide +kernel
theorem dJ9_min_7cf53_9 : decode cJ9_min_7cf53 9 = .ok (.iload_n 1, 1) := by decide +kernel
theorem dJ9_min_7cf53_10 : decode cJ9_min_7cf53 10 = .ok (.ireturn, 1) := by decide +kernel
theorem dJ0_length_8abf5_0 : decode cJ0_length_8abf5 0 = .ok (.aload_n 0, 1) := by decide +kernel
theorem dJ0_length_8abf5_1 : decode cJ0_length_8abf5 1 = .ok (.getfield 9, 3) := by decide +kernel
theorem dJ0_length_8abf5_4 : decode cJ0_length_8abf5 4 = .ok (.arraylength, 1) := by decide +kernel
theorem dJ0_length_8abf5_5 : decode cJ0_length_8abf5 5 = .ok (.aload_n 0, 1) := by decide +kernel
theorem dJ0_length_8abf5_6 : decode cJ0_length_8abf5 6 = .ok (.invokevirtual 335, 3) := by decide +kernel
theorem dJ0_length_8abf5_9 : decode cJ0_length_8abf5 9 = .ok (.ishr, 1) := by decide +kernel
theorem dJ0_length_8abf5_10 : decode cJ0_length_8abf5 10 = .ok (.ireturn, 1) := by decide +kernel
theorem dJ0_indexOf_0f7a4_0 : decode cJ0_indexOf_0f7a4 0 = .ok (.aload_n 0, 1) := by decide +kernel
theorem dJ0_indexOf_0f7a4_1 : decode cJ0_indexOf_0f7a4 1 = .ok (.iload_n 1, 1) := by decide +kernel
theorem dJ0_indexOf_0f7a4_2 : decode cJ0_indexOf_0f7a4 2 = .ok (.iconst 0, 1) := by decide +kernel
theorem dJ0_indexOf_0f7a4_3 : decode cJ0_indexOf_0f7a4 3 = .ok (.invokevirtual 633, 3) := by decide +kernel
theorem dJ0_indexOf_0f7a4_6 : decode cJ0_indexOf_0f7a4 6 = .ok (.ireturn, 1) := by decide +kernel
theorem dJ0_indexOf_7cf53_0 : decode cJ0_indexOf_7cf53 0 = .ok (.aload_n 0, 1) := by decide +kernel
theorem dJ0_indexOf_7cf53_1 : decode cJ0_indexOf_7cf53 1 = .ok (.invokevirtual 492, 3) := by decide +kernel
theorem dJ0_indexOf_7cf53_4 : decode cJ0_indexOf_7cf53 4 = .ok (.ifCond .eq 19, 3) := by decide +kernel
theorem dJ0_indexOf_7cf53_7 : decode cJ0_indexOf_7cf53 7 = .ok (.aload_n 0, 1) := by decide +kernel
theorem dJ0_indexOf_7cf53_8 : decode cJ0_indexOf_7cf53 8 = .ok (.getfield 9, 3) := by decide +kernel
theorem dJ0_indexOf_7cf53_11 : decode cJ0_indexOf_7cf53 11 = .ok (.iload_n 1, 1) := by decide +kernel
theorem dJ0_indexOf_7cf53_12 : decode cJ0_indexOf_7cf53 12 = .ok (.iload_n 2, 1) := by decide +kernel
theorem dJ0_indexOf_7cf53_13 : decode cJ0_indexOf_7cf53 13 = .ok (.aload_n 0, 1) := by decide +kernel
theorem dJ0_indexOf_7cf53_14 : decode cJ0_indexOf_7cf53 14 = .ok (.invokevirtual 505, 3) := by decide +kernel
theorem dJ0_indexOf_7cf53_17 : decode cJ0_indexOf_7cf53 17 = .ok (.invokestatic 637, 3) := by decide +kernel
theorem dJ0_indexOf_7cf53_20 : decode cJ0_indexOf_7cf53 20 = .ok (.goto 16, 3) := by decide +kernel
theorem dJ0_indexOf_7cf53_23 : decode cJ0_indexOf_7cf53 23 = .ok (.aload_n 0, 1) := by decide +kernel
theorem dJ0_indexOf_7cf53_24 : decode cJ0_indexOf_7cf53 24 = .ok (.getfield 9, 3) := by decide +kernel
theorem dJ0_indexOf_7cf53_27 : decode cJ0_indexOf_7cf53 27 = .ok (.iload_n 1, 1) := by decide +kernel
theorem dJ0_indexOf_7cf53_28 : decode cJ0_indexOf_7cf53 28 = .ok (.iload_n 2, 1) := by decide +kernel
theorem dJ0_indexOf_7cf53_29 : decode cJ0_indexOf_7cf53 29 = .ok (.aload_n 0, 1) := by decide +kernel
theorem dJ0_indexOf_7cf53_30 : decode cJ0_indexOf_7cf53 30 = .ok (.invokevirtual 505, 3) := by decide +kernel
theorem dJ0_indexOf_7cf53_33 : decode cJ0_indexOf_7cf53 33 = .ok (.invokestatic 640, 3) := by decide +kernel
theorem dJ0_indexOf_7cf53_36 : decode cJ0_indexOf_7cf53 36 = .ok (.ireturn, 1) := by decide +kernel
theorem dJ0_coder_7d493_0 : decode cJ0_coder_7d493 0 = .ok (.getstatic 38, 3) := by decide +kernel
theorem dJ0_coder_7d493_3 : decode cJ0_coder_7d493 3 = .ok (.ifCond .eq 10, 3) := by decide +kernel
theorem dJ0_coder_7d493_6 : decode cJ0_coder_7d493 6 = .ok (.aload_n 0, 1) := by decide +kernel
theorem dJ0_coder_7d493_7 : decode cJ0_coder_7d493 7 = .ok (.getfield 15, 3) := by decide +kernel
theorem dJ0_coder_7d493_10 : decode cJ0_coder_7d493 10 = .ok (.goto 4, 3) := by decide +kernel
theorem dJ0_coder_7d493_13 : decode cJ0_coder_7d493 13 = .ok (.iconst 1, 1) := by decide +kernel
theorem dJ0_coder_7d493_14 : decode cJ0_coder_7d493 14 = .ok (.ireturn, 1) := by decide +kernel
theorem dJ0_isLatin1_aae02_0 : decode cJ0_isLatin1_aae02 0 = .ok (.getstatic 38, 3) := by decide +kernel
theorem dJ0_isLatin1_aae02_3 : decode cJ0_isLatin1_aae02 3 = .ok (.ifCond .eq 14, 3) := by decide +kernel
theorem dJ0_isLatin1_aae02_6 : decode cJ0_isLatin1_aae02 6 = .ok (.aload_n 0, 1) := by decide +kernel
theorem dJ0_isLatin1_aae02_7 : decode cJ0_isLatin1_aae02 7 = .ok (.getfield 15, 3) := by decide +kernel
theorem dJ0_isLatin1_aae02_10 : decode cJ0_isLatin1_aae02 10 = .ok (.ifCond .ne 7, 3) := by decide +kernel
theorem dJ0_isLatin1_aae02_13 : decode cJ0_isLatin1_aae02 13 = .ok (.iconst 1, 1) := by decide +kernel
theorem dJ0_isLatin1_aae02_14 : decode cJ0_isLatin1_aae02 14 = .ok (.goto 4, 3) := by decide +kernel
theorem dJ0_isLatin1_aae02_17 : decode cJ0_isLatin1_aae02 17 = .ok (.iconst 0, 1) := by decide +kernel
theorem dJ0_isLatin1_aae02_18 : decode cJ0_isLatin1_aae02 18 = .ok (.ireturn, 1) := by decide +kernel
theorem dJ0_checkBoundsBeginEnd_23922_0 : decode cJ0_checkBoundsBeginEnd_23922 0 = .ok (.iload_n 0, 1) := by decide +kernel
theorem dJ0_checkBoundsBeginEnd_23922_1 : decode cJ0_checkBoundsBeginEnd_23922 1 = .ok (.iload_n 1, 1) := by decide +kernel
theorem dJ0_checkBoundsBeginEnd_23922_2 : decode cJ0_checkBoundsBeginEnd_23922 2 = .ok (.iload_n 2, 1) := by decide +kernel
theorem dJ0_checkBoundsBeginEnd_23922_3 : decode cJ0_checkBoundsBeginEnd_23922 3 = .ok (.getstatic 1053, 3) := by decide +kernel
theorem dJ0_checkBoundsBeginEnd_23922_6 : decode cJ0_checkBoundsBeginEnd_23922 6 = .ok (.invokestatic 1062, 3) := by decide +kernel
theorem dJ0_checkBoundsBeginEnd_23922_9 : decode cJ0_checkBoundsBeginEnd_23922 9 = .ok (.pop, 1) := by decide +kernel
theorem dJ0_checkBoundsBeginEnd_23922_10 : decode cJ0_checkBoundsBeginEnd_23922 10 = .ok (.return_, 1) := by decide +kernel
theorem dJ1_canEncode_9a6ad_0 : decode cJ1_canEncode_9a6ad 0 = .ok (.iload_n 0, 1) := by decide +kernel
theorem dJ1_canEncode_9a6ad_1 : decode cJ1_canEncode_9a6ad 1 = .ok (.ifCond .lt 14, 3) := by decide +kernel
theorem dJ1_canEncode_9a6ad_4 : decode cJ1_canEncode_9a6ad 4 = .ok (.iload_n 0, 1) := by decide +kernel
theorem dJ1_canEncode_9a6ad_5 : decode cJ1_canEncode_9a6ad 5 = .ok (.sipush 255, 3) := by decide +kernel
theorem dJ1_canEncode_9a6ad_8 : decode cJ1_canEncode_9a6ad 8 = .ok (.if_icmp .gt 7, 3) := by decide +kernel
theorem dJ1_canEncode_9a6ad_11 : decode cJ1_canEncode_9a6ad 11 = .ok (.iconst 1, 1) := by decide +kernel
theorem dJ1_canEncode_9a6ad_12 : decode cJ1_canEncode_9a6ad 12 = .ok (.goto 4, 3) := by decide +kernel
theorem dJ1_canEncode_9a6ad_15 : decode cJ1_canEncode_9a6ad 15 = .ok (.iconst 0, 1) := by decide +kernel
theorem dJ1_canEncode_9a6ad_16 : decode cJ1_canEncode_9a6ad 16 = .ok (.ireturn, 1) := by decide +kernel
theorem dJ1_indexOf_4cfef_0 : decode cJ1_indexOf_4cfef 0 = .ok (.iload_n 1, 1) := by decide +kernel
theorem dJ1_indexOf_4cfef_1 : decode cJ1_indexOf_4cfef 1 = .ok (.invokestatic 88, 3) := by decide +kernel
theorem dJ1_indexOf_4cfef_4 : decode cJ1_indexOf_4cfef 4 = .ok (.ifCond .ne 5, 3) := by decide +kernel
theorem dJ1_indexOf_4cfef_7 : decode cJ1_indexOf_4cfef 7 = .ok (.iconst (-1), 1) := by decide +kernel
theorem dJ1_indexOf_4cfef_8 : decode cJ1_indexOf_4cfef 8 = .ok (.ireturn, 1) := by decide +kernel
theorem dJ1_indexOf_4cfef_9 : decode cJ1_indexOf_4cfef 9 = .ok (.iload_n 2, 1) := by decide +kernel
theorem dJ1_indexOf_4cfef_10 : decode cJ1_indexOf_4cfef 10 = .ok (.iconst 0, 1) := by decide +kernel
theorem dJ1_indexOf_4cfef_11 : decode cJ1_indexOf_4cfef 11 = .ok (.invokestatic 92, 3) := by decide +kernel
theorem dJ1_indexOf_4cfef_14 : decode cJ1_indexOf_4cfef 14 = .ok (.istore_n 2, 1) := by decide +kernel
theorem dJ1_indexOf_4cfef_15 : decode cJ1_indexOf_4cfef 15 = .ok (.iload_n 3, 1) := by decide +kernel
theorem dJ1_indexOf_4cfef_16 : decode cJ1_indexOf_4cfef 16 = .ok (.aload_n 0, 1) := by decide +kernel
theorem dJ1_indexOf_4cfef_17 : decode cJ1_indexOf_4cfef 17 = .ok (.arraylength, 1) := by decide +kernel
theorem dJ1_indexOf_4cfef_18 : decode cJ1_indexOf_4cfef 18 = .ok (.invokestatic 38, 3) := by decide +kernel
theorem dJ1_indexOf_4cfef_21 : decode cJ1_indexOf_4cfef 21 = .ok (.istore_n 3, 1) := by decide +kernel
theorem dJ1_indexOf_4cfef_22 : decode cJ1_indexOf_4cfef 22 = .ok (.iload_n 2, 1) := by decide +kernel
theorem dJ1_indexOf_4cfef_23 : decode cJ1_indexOf_4cfef 23 = .ok (.iload_n 3, 1) := by decide +kernel
theorem dJ1_indexOf_4cfef_24 : decode cJ1_indexOf_4cfef 24 = .ok (.if_icmp .lt 5, 3) := by decide +kernel
theorem dJ1_indexOf_4cfef_27 : decode cJ1_indexOf_4cfef 27 = .ok (.iconst (-1), 1) := by decide +kernel
theorem dJ1_indexOf_4cfef_28 : decode cJ1_indexOf_4cfef 28 = .ok (.ireturn, 1) := by decide +kernel
theorem dJ1_indexOf_4cfef_29 : decode cJ1_indexOf_4cfef 29 = .ok (.aload_n 0, 1) := by decide +kernel
theorem dJ1_indexOf_4cfef_30 : decode cJ1_indexOf_4cfef 30 = .ok (.iload_n 1, 1) := by decide +kernel
theorem dJ1_indexOf_4cfef_31 : decode cJ1_indexOf_4cfef 31 = .ok (.iload_n 2, 1) := by decide +kernel
theorem dJ1_indexOf_4cfef_32 : decode cJ1_indexOf_4cfef 32 = .ok (.iload_n 3, 1) := by decide +kernel
theorem dJ1_indexOf_4cfef_33 : decode cJ1_indexOf_4cfef 33 = .ok (.invokestatic 95, 3) := by decide +kernel
theorem dJ1_indexOf_4cfef_36 : decode cJ1_indexOf_4cfef 36 = .ok (.ireturn, 1) := by decide +kernel
theorem dJ1_indexOfChar_4cfef_0 : decode cJ1_indexOfChar_4cfef 0 = .ok (.iload_n 1, 1) := by decide +kernel
theorem dJ1_indexOfChar_4cfef_1 : decode cJ1_indexOfChar_4cfef 1 = .ok (.i2b, 1) := by decide +kernel
theorem dJ1_indexOfChar_4cfef_2 : decode cJ1_indexOfChar_4cfef 2 = .ok (.istore 4, 2) := by decide +kernel
theorem dJ1_indexOfChar_4cfef_4 : decode cJ1_indexOfChar_4cfef 4 = .ok (.iload_n 2, 1) := by decide +kernel
theorem dJ1_indexOfChar_4cfef_5 : decode cJ1_indexOfChar_4cfef 5 = .ok (.istore 5, 2) := by decide +kernel
theorem dJ1_indexOfChar_4cfef_7 : decode cJ1_indexOfChar_4cfef 7 = .ok (.iload 5, 2) := by decide +kernel
theorem dJ1_indexOfChar_4cfef_9 : decode cJ1_indexOfChar_4cfef 9 = .ok (.iload_n 3, 1) := by decide +kernel
theorem dJ1_indexOfChar_4cfef_10 : decode cJ1_indexOfChar_4cfef 10 = .ok (.if_icmp .ge 21, 3) := by decide +kernel
theorem dJ1_indexOfChar_4cfef_13 : decode cJ1_indexOfChar_4cfef 13 = .ok (.aload_n 0, 1) := by decide +kernel
theorem dJ1_indexOfChar_4cfef_14 : decode cJ1_indexOfChar_4cfef 14 = .ok (.iload 5, 2) := by decide +kernel
theorem dJ1_indexOfChar_4cfef_16 : decode cJ1_indexOfChar_4cfef 16 = .ok (.baload, 1) := by decide +kernel
theorem dJ1_indexOfChar_4cfef_17 : decode cJ1_indexOfChar_4cfef 17 = .ok (.iload 4, 2) := by decide +kernel
theorem dJ1_indexOfChar_4cfef_19 : decode cJ1_indexOfChar_4cfef 19 = .ok (.if_icmp .ne 6, 3) := by decide +kernel
theorem dJ1_indexOfChar_4cfef_22 : decode cJ1_indexOfChar_4cfef 22 = .ok (.iload 5, 2) := by decide +kernel
theorem dJ1_indexOfChar_4cfef_24 : decode cJ1_indexOfChar_4cfef 24 = .ok (.ireturn, 1) := by decide +kernel
theorem dJ1_indexOfChar_4cfef_25 : decode cJ1_indexOfChar_4cfef 25 = .ok (.iinc 5 1, 3) := by decide +kernel
theorem dJ1_indexOfChar_4cfef_28 : decode cJ1_indexOfChar_4cfef 28 = .ok (.goto (-21), 3) := by decide +kernel
theorem dJ1_indexOfChar_4cfef_31 : decode cJ1_indexOfChar_4cfef 31 = .ok (.iconst (-1), 1) := by decide +kernel
theorem dJ1_indexOfChar_4cfef_32 : decode cJ1_indexOfChar_4cfef 32 = .ok (.ireturn, 1) := by decide +kernel
theorem dJ2_getChar_3b067_0 : decode cJ2_getChar_3b067 0 = .ok (.getstatic 44, 3) := by decide +kernel
theorem dJ2_getChar_3b067_3 : decode cJ2_getChar_3b067 3 = .ok (.ifCond .ne 25, 3) := by decide +kernel
theorem dJ2_getChar_3b067_6 : decode cJ2_getChar_3b067 6 = .ok (.iload_n 1, 1) := by decide +kernel
theorem dJ2_getChar_3b067_7 : decode cJ2_getChar_3b067 7 = .ok (.ifCond .lt 11, 3) := by decide +kernel
theorem dJ2_getChar_3b067_10 : decode cJ2_getChar_3b067 10 = .ok (.iload_n 1, 1) := by decide +kernel
theorem dJ2_getChar_3b067_11 : decode cJ2_getChar_3b067 11 = .ok (.aload_n 0, 1) := by decide +kernel
theorem dJ2_getChar_3b067_12 : decode cJ2_getChar_3b067 12 = .ok (.invokestatic 48, 3) := by decide +kernel
theorem dJ2_getChar_3b067_15 : decode cJ2_getChar_3b067 15 = .ok (.if_icmp .lt 13, 3) := by decide +kernel
theorem dJ2_getChar_3b067_18 : decode cJ2_getChar_3b067 18 = .ok (.new 52, 3) := by decide +kernel
theorem dJ2_getChar_3b067_21 : decode cJ2_getChar_3b067 21 = .ok (.dup, 1) := by decide +kernel
theorem dJ2_getChar_3b067_22 : decode cJ2_getChar_3b067 22 = .ok (.ldc 54, 2) := by decide +kernel
theorem dJ2_getChar_3b067_24 : decode cJ2_getChar_3b067 24 = .ok (.invokespecial 56, 3) := by decide +kernel
theorem dJ2_getChar_3b067_27 : decode cJ2_getChar_3b067 27 = .ok (.athrow, 1) := by decide +kernel
theorem dJ2_getChar_3b067_28 : decode cJ2_getChar_3b067 28 = .ok (.iload_n 1, 1) := by decide +kernel
theorem dJ2_getChar_3b067_29 : decode cJ2_getChar_3b067 29 = .ok (.iconst 1, 1) := by decide +kernel
theorem dJ2_getChar_3b067_30 : decode cJ2_getChar_3b067 30 = .ok (.ishl, 1) := by decide +kernel
theorem dJ2_getChar_3b067_31 : decode cJ2_getChar_3b067 31 = .ok (.istore_n 1, 1) := by decide +kernel
theorem dJ2_getChar_3b067_32 : decode cJ2_getChar_3b067 32 = .ok (.aload_n 0, 1) := by decide +kernel
theorem dJ2_getChar_3b067_33 : decode cJ2_getChar_3b067 33 = .ok (.iload_n 1, 1) := by decide +kernel
theorem dJ2_getChar_3b067_34 : decode cJ2_getChar_3b067 34 = .ok (.iinc 1 1, 3) := by decide +kernel
theorem dJ2_getChar_3b067_37 : decode cJ2_getChar_3b067 37 = .ok (.baload, 1) := by decide +kernel
theorem dJ2_getChar_3b067_38 : decode cJ2_getChar_3b067 38 = .ok (.sipush 255, 3) := by decide +kernel
theorem dJ2_getChar_3b067_41 : decode cJ2_getChar_3b067 41 = .ok (.iand, 1) := by decide +kernel
theorem dJ2_getChar_3b067_42 : decode cJ2_getChar_3b067 42 = .ok (.getstatic 59, 3) := by decide +kernel
theorem dJ2_getChar_3b067_45 : decode cJ2_getChar_3b067 45 = .ok (.ishl, 1) := by decide +kernel
theorem dJ2_getChar_3b067_46 : decode cJ2_getChar_3b067 46 = .ok (.aload_n 0, 1) := by decide +kernel
theorem dJ2_getChar_3b067_47 : decode cJ2_getChar_3b067 47 = .ok (.iload_n 1, 1) := by decide +kernel
theorem dJ2_getChar_3b067_48 : decode cJ2_getChar_3b067 48 = .ok (.baload, 1) := by decide +kernel
theorem dJ2_getChar_3b067_49 : decode cJ2_getChar_3b067 49 = .ok (.sipush 255, 3) := by decide +kernel
theorem dJ2_getChar_3b067_52 : decode cJ2_getChar_3b067 52 = .ok (.iand, 1) := by decide +kernel
theorem dJ2_getChar_3b067_53 : decode cJ2_getChar_3b067 53 = .ok (.getstatic 63, 3) := by decide +kernel
theorem dJ2_getChar_3b067_56 : decode cJ2_getChar_3b067 56 = .ok (.ishl, 1) := by decide +kernel
theorem dJ2_getChar_3b067_57 : decode cJ2_getChar_3b067 57 = .ok (.ior, 1) := by decide +kernel
theorem dJ2_getChar_3b067_58 : decode cJ2_getChar_3b067 58 = .ok (.i2c, 1) := by decide +kernel
theorem dJ2_getChar_3b067_59 : decode cJ2_getChar_3b067 59 = .ok (.ireturn, 1) := by decide +kernel
theorem dJ2_length_9d52b_0 : decode cJ2_length_9d52b 0 = .ok (.aload_n 0, 1) := by decide +kernel
theorem dJ2_length_9d52b_1 : decode cJ2_length_9d52b 1 = .ok (.arraylength, 1) := by decide +kernel
theorem dJ2_length_9d52b_2 : decode cJ2_length_9d52b 2 = .ok (.iconst 1, 1) := by decide +kernel
theorem dJ2_length_9d52b_3 : decode cJ2_length_9d52b 3 = .ok (.ishr, 1) := by decide +kernel
theorem dJ2_length_9d52b_4 : decode cJ2_length_9d52b 4 = .ok (.ireturn, 1) := by decide +kernel
theorem dJ2_indexOf_4cfef_0 : decode cJ2_indexOf_4cfef 0 = .ok (.iload_n 2, 1) := by decide +kernel
theorem dJ2_indexOf_4cfef_1 : decode cJ2_indexOf_4cfef 1 = .ok (.iconst 0, 1) := by decide +kernel
theorem dJ2_indexOf_4cfef_2 : decode cJ2_indexOf_4cfef 2 = .ok (.invokestatic 224, 3) := by decide +kernel
theorem dJ2_indexOf_4cfef_5 : decode cJ2_indexOf_4cfef 5 = .ok (.istore_n 2, 1) := by decide +kernel
theorem dJ2_indexOf_4cfef_6 : decode cJ2_indexOf_4cfef 6 = .ok (.iload_n 3, 1) := by decide +kernel
theorem dJ2_indexOf_4cfef_7 : decode cJ2_indexOf_4cfef 7 = .ok (.aload_n 0, 1) := by decide +kernel
theorem dJ2_indexOf_4cfef_8 : decode cJ2_indexOf_4cfef 8 = .ok (.arraylength, 1) := by decide +kernel
theorem dJ2_indexOf_4cfef_9 : decode cJ2_indexOf_4cfef 9 = .ok (.iconst 1, 1) := by decide +kernel
theorem dJ2_indexOf_4cfef_10 : decode cJ2_indexOf_4cfef 10 = .ok (.ishr, 1) := by decide +kernel
theorem dJ2_indexOf_4cfef_11 : decode cJ2_indexOf_4cfef 11 = .ok (.invokestatic 183, 3) := by decide +kernel
theorem dJ2_indexOf_4cfef_14 : decode cJ2_indexOf_4cfef 14 = .ok (.istore_n 3, 1) := by decide +kernel
theorem dJ2_indexOf_4cfef_15 : decode cJ2_indexOf_4cfef 15 = .ok (.iload_n 2, 1) := by decide +kernel
theorem dJ2_indexOf_4cfef_16 : decode cJ2_indexOf_4cfef 16 = .ok (.iload_n 3, 1) := by decide +kernel
theorem dJ2_indexOf_4cfef_17 : decode cJ2_indexOf_4cfef 17 = .ok (.if_icmp .lt 5, 3) := by decide +kernel
theorem dJ2_indexOf_4cfef_20 : decode cJ2_indexOf_4cfef 20 = .ok (.iconst (-1), 1) := by decide +kernel
theorem dJ2_indexOf_4cfef_21 : decode cJ2_indexOf_4cfef 21 = .ok (.ireturn, 1) := by decide +kernel
theorem dJ2_indexOf_4cfef_22 : decode cJ2_indexOf_4cfef 22 = .ok (.iload_n 1, 1) := by decide +kernel
theorem dJ2_indexOf_4cfef_23 : decode cJ2_indexOf_4cfef 23 = .ok (.ldc 227, 2) := by decide +kernel
theorem dJ2_indexOf_4cfef_25 : decode cJ2_indexOf_4cfef 25 = .ok (.if_icmp .ge 11, 3) := by decide +kernel
theorem dJ2_indexOf_4cfef_28 : decode cJ2_indexOf_4cfef 28 = .ok (.aload_n 0, 1) := by decide +kernel
theorem dJ2_indexOf_4cfef_29 : decode cJ2_indexOf_4cfef 29 = .ok (.iload_n 1, 1) := by decide +kernel
theorem dJ2_indexOf_4cfef_30 : decode cJ2_indexOf_4cfef 30 = .ok (.iload_n 2, 1) := by decide +kernel
theorem dJ2_indexOf_4cfef_31 : decode cJ2_indexOf_4cfef 31 = .ok (.iload_n 3, 1) := by decide +kernel
theorem dJ2_indexOf_4cfef_32 : decode cJ2_indexOf_4cfef 32 = .ok (.invokestatic 228, 3) := by decide +kernel
theorem dJ2_indexOf_4cfef_35 : decode cJ2_indexOf_4cfef 35 = .ok (.ireturn, 1) := by decide +kernel
theorem dJ2_indexOf_4cfef_36 : decode cJ2_indexOf_4cfef 36 = .ok (.aload_n 0, 1) := by decide +kernel
theorem dJ2_indexOf_4cfef_37 : decode cJ2_indexOf_4cfef 37 = .ok (.iload_n 1, 1) := by decide +kernel
theorem dJ2_indexOf_4cfef_38 : decode cJ2_indexOf_4cfef 38 = .ok (.iload_n 2, 1) := by decide +kernel
theorem dJ2_indexOf_4cfef_39 : decode cJ2_indexOf_4cfef 39 = .ok (.iload_n 3, 1) := by decide +kernel
theorem dJ2_indexOf_4cfef_40 : decode cJ2_indexOf_4cfef 40 = .ok (.invokestatic 232, 3) := by decide +kernel
theorem dJ2_indexOf_4cfef_43 : decode cJ2_indexOf_4cfef 43 = .ok (.ireturn, 1) := by decide +kernel
theorem dJ2_indexOfChar_4cfef_0 : decode cJ2_indexOfChar_4cfef 0 = .ok (.iload_n 2, 1) := by decide +kernel
theorem dJ2_indexOfChar_4cfef_1 : decode cJ2_indexOfChar_4cfef 1 = .ok (.iload_n 3, 1) := by decide +kernel
theorem dJ2_indexOfChar_4cfef_2 : decode cJ2_indexOfChar_4cfef 2 = .ok (.aload_n 0, 1) := by decide +kernel
theorem dJ2_indexOfChar_4cfef_3 : decode cJ2_indexOfChar_4cfef 3 = .ok (.invokestatic 96, 3) := by decide +kernel
theorem dJ2_indexOfChar_4cfef_6 : decode cJ2_indexOfChar_4cfef 6 = .ok (.aload_n 0, 1) := by decide +kernel
theorem dJ2_indexOfChar_4cfef_7 : decode cJ2_indexOfChar_4cfef 7 = .ok (.iload_n 1, 1) := by decide +kernel
theorem dJ2_indexOfChar_4cfef_8 : decode cJ2_indexOfChar_4cfef 8 = .ok (.iload_n 2, 1) := by decide +kernel
theorem dJ2_indexOfChar_4cfef_9 : decode cJ2_indexOfChar_4cfef 9 = .ok (.iload_n 3, 1) := by decide +kernel
theorem dJ2_indexOfChar_4cfef_10 : decode cJ2_indexOfChar_4cfef 10 = .ok (.invokestatic 244, 3) := by decide +kernel
theorem dJ2_indexOfChar_4cfef_13 : decode cJ2_indexOfChar_4cfef 13 = .ok (.ireturn, 1) := by decide +kernel
theorem dJ2_indexOfCharUnsafe_4cfef_0 : decode cJ2_indexOfCharUnsafe_4cfef 0 = .ok (.iload_n 2, 1) := by decide +kernel
theorem dJ2_indexOfCharUnsafe_4cfef_1 : decode cJ2_indexOfCharUnsafe_4cfef 1 = .ok (.istore 4, 2) := by decide +kernel
theorem dJ2_indexOfCharUnsafe_4cfef_3 : decode cJ2_indexOfCharUnsafe_4cfef 3 = .ok (.iload 4, 2) := by decide +kernel
theorem dJ2_indexOfCharUnsafe_4cfef_5 : decode cJ2_indexOfCharUnsafe_4cfef 5 = .ok (.iload_n 3, 1) := by decide +kernel
theorem dJ2_indexOfCharUnsafe_4cfef_6 : decode cJ2_indexOfCharUnsafe_4cfef 6 = .ok (.if_icmp .ge 22, 3) := by decide +kernel
theorem dJ2_indexOfCharUnsafe_4cfef_9 : decode cJ2_indexOfCharUnsafe_4cfef 9 = .ok (.aload_n 0, 1) := by decide +kernel
theorem dJ2_indexOfCharUnsafe_4cfef_10 : decode cJ2_indexOfCharUnsafe_4cfef 10 = .ok (.iload 4, 2) := by decide +kernel
theorem dJ2_indexOfCharUnsafe_4cfef_12 : decode cJ2_indexOfCharUnsafe_4cfef 12 = .ok (.invokestatic 71, 3) := by decide +kernel
theorem dJ2_indexOfCharUnsafe_4cfef_15 : decode cJ2_indexOfCharUnsafe_4cfef 15 = .ok (.iload_n 1, 1) := by decide +kernel
theorem dJ2_indexOfCharUnsafe_4cfef_16 : decode cJ2_indexOfCharUnsafe_4cfef 16 = .ok (.if_icmp .ne 6, 3) := by decide +kernel
theorem dJ2_indexOfCharUnsafe_4cfef_19 : decode cJ2_indexOfCharUnsafe_4cfef 19 = .ok (.iload 4, 2) := by decide +kernel
theorem dJ2_indexOfCharUnsafe_4cfef_21 : decode cJ2_indexOfCharUnsafe_4cfef 21 = .ok (.ireturn, 1) := by decide +kernel
theorem dJ2_indexOfCharUnsafe_4cfef_22 : decode cJ2_indexOfCharUnsafe_4cfef 22 = .ok (.iinc 4 1, 3) := by decide +kernel
theorem dJ2_indexOfCharUnsafe_4cfef_25 : decode cJ2_indexOfCharUnsafe_4cfef 25 = .ok (.goto (-22), 3) := by decide +kernel
theorem dJ2_indexOfCharUnsafe_4cfef_28 : decode cJ2_indexOfCharUnsafe_4cfef 28 = .ok (.iconst (-1), 1) := by decide +kernel
theorem dJ2_indexOfCharUnsafe_4cfef_29 : decode cJ2_indexOfCharUnsafe_4cfef 29 = .ok (.ireturn, 1) := by decide +kernel
theorem dJ2_indexOfSupplementary_4cfef_0 : decode cJ2_indexOfSupplementary_4cfef 0 = .ok (.iload_n 1, 1) := by decide +kernel
theorem dJ2_indexOfSupplementary_4cfef_1 : decode cJ2_indexOfSupplementary_4cfef 1 = .ok (.invokestatic 164, 3) := by decide +kernel
theorem dJ2_indexOfSupplementary_4cfef_4 : decode cJ2_indexOfSupplementary_4cfef 4 = .ok (.ifCond .eq 65, 3) := by decide +kernel
theorem dJ2_indexOfSupplementary_4cfef_7 : decode cJ2_indexOfSupplementary_4cfef 7 = .ok (.iload_n 1, 1) := by decide +kernel
theorem dJ2_indexOfSupplementary_4cfef_8 : decode cJ2_indexOfSupplementary_4cfef 8 = .ok (.invokestatic 157, 3) := by decide +kernel
theorem dJ2_indexOfSupplementary_4cfef_11 : decode cJ2_indexOfSupplementary_4cfef 11 = .ok (.istore 4, 2) := by decide +kernel
theorem dJ2_indexOfSupplementary_4cfef_13 : decode cJ2_indexOfSupplementary_4cfef 13 = .ok (.iload_n 1, 1) := by decide +kernel
theorem dJ2_indexOfSupplementary_4cfef_14 : decode cJ2_indexOfSupplementary_4cfef 14 = .ok (.invokestatic 161, 3) := by decide +kernel
theorem dJ2_indexOfSupplementary_4cfef_17 : decode cJ2_indexOfSupplementary_4cfef 17 = .ok (.istore 5, 2) := by decide +kernel
theorem dJ2_indexOfSupplementary_4cfef_19 : decode cJ2_indexOfSupplementary_4cfef 19 = .ok (.iload_n 2, 1) := by decide +kernel
theorem dJ2_indexOfSupplementary_4cfef_20 : decode cJ2_indexOfSupplementary_4cfef 20 = .ok (.iload_n 3, 1) := by decide +kernel
theorem dJ2_indexOfSupplementary_4cfef_21 : decode cJ2_indexOfSupplementary_4cfef 21 = .ok (.aload_n 0, 1) := by decide +kernel
theorem dJ2_indexOfSupplementary_4cfef_22 : decode cJ2_indexOfSupplementary_4cfef 22 = .ok (.invokestatic 96, 3) := by decide +kernel
theorem dJ2_indexOfSupplementary_4cfef_25 : decode cJ2_indexOfSupplementary_4cfef 25 = .ok (.iload_n 2, 1) := by decide +kernel
theorem dJ2_indexOfSupplementary_4cfef_26 : decode cJ2_indexOfSupplementary_4cfef 26 = .ok (.istore 6, 2) := by decide +kernel
theorem dJ2_indexOfSupplementary_4cfef_28 : decode cJ2_indexOfSupplementary_4cfef 28 = .ok (.iload 6, 2) := by decide +kernel
theorem dJ2_indexOfSupplementary_4cfef_30 : decode cJ2_indexOfSupplementary_4cfef 30 = .ok (.iload_n 3, 1) := by decide +kernel
theorem dJ2_indexOfSupplementary_4cfef_31 : decode cJ2_indexOfSupplementary_4cfef 31 = .ok (.iconst 1, 1) := by decide +kernel
theorem dJ2_indexOfSupplementary_4cfef_32 : decode cJ2_indexOfSupplementary_4cfef 32 = .ok (.isub, 1) := by decide +kernel
theorem dJ2_indexOfSupplementary_4cfef_33 : decode cJ2_indexOfSupplementary_4cfef 33 = .ok (.if_icmp .ge 36, 3) := by decide +kernel
theorem dJ2_indexOfSupplementary_4cfef_36 : decode cJ2_indexOfSupplementary_4cfef 36 = .ok (.aload_n 0, 1) := by decide +kernel
theorem dJ2_indexOfSupplementary_4cfef_37 : decode cJ2_indexOfSupplementary_4cfef 37 = .ok (.iload 6, 2) := by decide +kernel
theorem dJ2_indexOfSupplementary_4cfef_39 : decode cJ2_indexOfSupplementary_4cfef 39 = .ok (.invokestatic 71, 3) := by decide +kernel
theorem dJ2_indexOfSupplementary_4cfef_42 : decode cJ2_indexOfSupplementary_4cfef 42 = .ok (.iload 4, 2) := by decide +kernel
theorem dJ2_indexOfSupplementary_4cfef_44 : decode cJ2_indexOfSupplementary_4cfef 44 = .ok (.if_icmp .ne 19, 3) := by decide +kernel
theorem dJ2_indexOfSupplementary_4cfef_47 : decode cJ2_indexOfSupplementary_4cfef 47 = .ok (.aload_n 0, 1) := by decide +kernel
theorem dJ2_indexOfSupplementary_4cfef_48 : decode cJ2_indexOfSupplementary_4cfef 48 = .ok (.iload 6, 2) := by decide +kernel
theorem dJ2_indexOfSupplementary_4cfef_50 : decode cJ2_indexOfSupplementary_4cfef 50 = .ok (.iconst 1, 1) := by decide +kernel
theorem dJ2_indexOfSupplementary_4cfef_51 : decode cJ2_indexOfSupplementary_4cfef 51 = .ok (.iadd, 1) := by decide +kernel
theorem dJ2_indexOfSupplementary_4cfef_52 : decode cJ2_indexOfSupplementary_4cfef 52 = .ok (.invokestatic 71, 3) := by decide +kernel
theorem dJ2_indexOfSupplementary_4cfef_55 : decode cJ2_indexOfSupplementary_4cfef 55 = .ok (.iload 5, 2) := by decide +kernel
theorem dJ2_indexOfSupplementary_4cfef_57 : decode cJ2_indexOfSupplementary_4cfef 57 = .ok (.if_icmp .ne 6, 3) := by decide +kernel
theorem dJ2_indexOfSupplementary_4cfef_60 : decode cJ2_indexOfSupplementary_4cfef 60 = .ok (.iload 6, 2) := by decide +kernel
theorem dJ2_indexOfSupplementary_4cfef_62 : decode cJ2_indexOfSupplementary_4cfef 62 = .ok (.ireturn, 1) := by decide +kernel
theorem dJ2_indexOfSupplementary_4cfef_63 : decode cJ2_indexOfSupplementary_4cfef 63 = .ok (.iinc 6 1, 3) := by decide +kernel
theorem dJ2_indexOfSupplementary_4cfef_66 : decode cJ2_indexOfSupplementary_4cfef 66 = .ok (.goto (-38), 3) := by decide +kernel
theorem dJ2_indexOfSupplementary_4cfef_69 : decode cJ2_indexOfSupplementary_4cfef 69 = .ok (.iconst (-1), 1) := by decide +kernel
theorem dJ2_indexOfSupplementary_4cfef_70 : decode cJ2_indexOfSupplementary_4cfef 70 = .ok (.ireturn, 1) := by decide +kernel
theorem dJ2_checkBoundsBeginEnd_d044e_0 : decode cJ2_checkBoundsBeginEnd_d044e 0 = .ok (.iload_n 0, 1) := by decide +kernel
theorem dJ2_checkBoundsBeginEnd_d044e_1 : decode cJ2_checkBoundsBeginEnd_d044e 1 = .ok (.iload_n 1, 1) := by decide +kernel
theorem dJ2_checkBoundsBeginEnd_d044e_2 : decode cJ2_checkBoundsBeginEnd_d044e 2 = .ok (.aload_n 2, 1) := by decide +kernel
theorem dJ2_checkBoundsBeginEnd_d044e_3 : decode cJ2_checkBoundsBeginEnd_d044e 3 = .ok (.invokestatic 48, 3) := by decide +kernel
theorem dJ2_checkBoundsBeginEnd_d044e_6 : decode cJ2_checkBoundsBeginEnd_d044e 6 = .ok (.invokestatic 241, 3) := by decide +kernel
theorem dJ2_checkBoundsBeginEnd_d044e_9 : decode cJ2_checkBoundsBeginEnd_d044e 9 = .ok (.return_, 1) := by decide +kernel
theorem dJ7_fill_53178_0 : decode cJ7_fill_53178 0 = .ok (.iconst 0, 1) := by decide +kernel
theorem dJ7_fill_53178_1 : decode cJ7_fill_53178 1 = .ok (.istore_n 2, 1) := by decide +kernel
theorem dJ7_fill_53178_2 : decode cJ7_fill_53178 2 = .ok (.aload_n 0, 1) := by decide +kernel
theorem dJ7_fill_53178_3 : decode cJ7_fill_53178 3 = .ok (.arraylength, 1) := by decide +kernel
theorem dJ7_fill_53178_4 : decode cJ7_fill_53178 4 = .ok (.istore_n 3, 1) := by decide +kernel
theorem dJ7_fill_53178_5 : decode cJ7_fill_53178 5 = .ok (.iload_n 2, 1) := by decide +kernel
theorem dJ7_fill_53178_6 : decode cJ7_fill_53178 6 = .ok (.iload_n 3, 1) := by decide +kernel
theorem dJ7_fill_53178_7 : decode cJ7_fill_53178 7 = .ok (.if_icmp .ge 13, 3) := by decide +kernel
theorem dJ7_fill_53178_10 : decode cJ7_fill_53178 10 = .ok (.aload_n 0, 1) := by decide +kernel
theorem dJ7_fill_53178_11 : decode cJ7_fill_53178 11 = .ok (.iload_n 2, 1) := by decide +kernel
theorem dJ7_fill_53178_12 : decode cJ7_fill_53178 12 = .ok (.iload_n 1, 1) := by decide +kernel
theorem dJ7_fill_53178_13 : decode cJ7_fill_53178 13 = .ok (.iastore, 1) := by decide +kernel
theorem dJ7_fill_53178_14 : decode cJ7_fill_53178 14 = .ok (.iinc 2 1, 3) := by decide +kernel
theorem dJ7_fill_53178_17 : decode cJ7_fill_53178 17 = .ok (.goto (-12), 3) := by decide +kernel
theorem dJ7_fill_53178_20 : decode cJ7_fill_53178 20 = .ok (.return_, 1) := by decide +kernel
theorem dJ3_checkFromToIndex_8c36e_0 : decode cJ3_checkFromToIndex_8c36e 0 = .ok (.iload_n 0, 1) := by decide +kernel
theorem dJ3_checkFromToIndex_8c36e_1 : decode cJ3_checkFromToIndex_8c36e 1 = .ok (.ifCond .lt 13, 3) := by decide +kernel
theorem dJ3_checkFromToIndex_8c36e_4 : decode cJ3_checkFromToIndex_8c36e 4 = .ok (.iload_n 0, 1) := by decide +kernel
theorem dJ3_checkFromToIndex_8c36e_5 : decode cJ3_checkFromToIndex_8c36e 5 = .ok (.iload_n 1, 1) := by decide +kernel
theorem dJ3_checkFromToIndex_8c36e_6 : decode cJ3_checkFromToIndex_8c36e 6 = .ok (.if_icmp .gt 8, 3) := by decide +kernel
theorem dJ3_checkFromToIndex_8c36e_9 : decode cJ3_checkFromToIndex_8c36e 9 = .ok (.iload_n 1, 1) := by decide +kernel
theorem dJ3_checkFromToIndex_8c36e_10 : decode cJ3_checkFromToIndex_8c36e 10 = .ok (.iload_n 2, 1) := by decide +kernel
theorem dJ3_checkFromToIndex_8c36e_11 : decode cJ3_checkFromToIndex_8c36e 11 = .ok (.if_icmp .le 11, 3) := by decide +kernel
theorem dJ3_checkFromToIndex_8c36e_14 : decode cJ3_checkFromToIndex_8c36e 14 = .ok (.aload_n 3, 1) := by decide +kernel
theorem dJ3_checkFromToIndex_8c36e_15 : decode cJ3_checkFromToIndex_8c36e 15 = .ok (.iload_n 0, 1) := by decide +kernel
theorem dJ3_checkFromToIndex_8c36e_16 : decode cJ3_checkFromToIndex_8c36e 16 = .ok (.iload_n 1, 1) := by decide +kernel
theorem dJ3_checkFromToIndex_8c36e_17 : decode cJ3_checkFromToIndex_8c36e 17 = .ok (.iload_n 2, 1) := by decide +kernel
theorem dJ3_checkFromToIndex_8c36e_18 : decode cJ3_checkFromToIndex_8c36e 18 = .ok (.invokestatic 99, 3) := by decide +kernel
theorem dJ3_checkFromToIndex_8c36e_21 : decode cJ3_checkFromToIndex_8c36e 21 = .ok (.athrow, 1) := by decide +kernel
theorem dJ3_checkFromToIndex_8c36e_22 : decode cJ3_checkFromToIndex_8c36e 22 = .ok (.iload_n 0, 1) := by decide +kernel
theorem dJ3_checkFromToIndex_8c36e_23 : decode cJ3_checkFromToIndex_8c36e 23 = .ok (.ireturn, 1) := by decide +kernel
theorem dL_law_0 : decode cL_law 0 = .ok (.new 7, 3) := by decide +kernel
theorem dL_law_3 : decode cL_law 3 = .ok (.dup, 1) := by decide +kernel
theorem dL_law_4 : decode cL_law 4 = .ok (.invokespecial 9, 3) := by decide +kernel
theorem dL_law_7 : decode cL_law 7 = .ok (.astore_n 1, 1) := by decide +kernel
theorem dL_law_8 : decode cL_law 8 = .ok (.new 10, 3) := by decide +kernel
theorem dL_law_11 : decode cL_law 11 = .ok (.dup, 1) := by decide +kernel
theorem dL_law_12 : decode cL_law 12 = .ok (.invokespecial 12, 3) := by decide +kernel
theorem dL_law_15 : decode cL_law 15 = .ok (.astore_n 2, 1) := by decide +kernel
theorem dL_law_16 : decode cL_law 16 = .ok (.iconst 0, 1) := by decide +kernel
theorem dL_law_17 : decode cL_law 17 = .ok (.istore_n 3, 1) := by decide +kernel
theorem dL_law_18 : decode cL_law 18 = .ok (.iload_n 3, 1) := by decide +kernel
theorem dL_law_19 : decode cL_law 19 = .ok (.aload_n 0, 1) := by decide +kernel
theorem dL_law_20 : decode cL_law 20 = .ok (.arraylength, 1) := by decide +kernel
theorem dL_law_21 : decode cL_law 21 = .ok (.bipush 6, 2) := by decide +kernel
theorem dL_law_23 : decode cL_law 23 = .ok (.isub, 1) := by decide +kernel
theorem dL_law_24 : decode cL_law 24 = .ok (.if_icmp .gt 1059, 3) := by decide +kernel
theorem dL_law_27 : decode cL_law 27 = .ok (.aload_n 0, 1) := by decide +kernel
theorem dL_law_28 : decode cL_law 28 = .ok (.iload_n 3, 1) := by decide +kernel
theorem dL_law_29 : decode cL_law 29 = .ok (.iaload, 1) := by decide +kernel
theorem dL_law_30 : decode cL_law 30 = .ok (.bipush 31, 2) := by decide +kernel
theorem dL_law_32 : decode cL_law 32 = .ok (.iand, 1) := by decide +kernel
theorem dL_law_33 : decode cL_law 33 = .ok (.tableswitch 1044 0 26 #[123, 156, 199, 232, 265, 308, 341, 364, 427, 440, 463, 496, 529, 582, 605, 628, 661, 694, 717, 730, 783, 796, 809, 862, 905, 928, 981], 123) := by decide +kernel
theorem dL_law_156 : decode cL_law 156 = .ok (.aload_n 1, 1) := by decide +kernel
theorem dL_law_157 : decode cL_law 157 = .ok (.aload_n 0, 1) := by decide +kernel
theorem dL_law_158 : decode cL_law 158 = .ok (.iload_n 3, 1) := by decide +kernel
theorem dL_law_159 : decode cL_law 159 = .ok (.iconst 1, 1) := by decide +kernel
theorem dL_law_160 : decode cL_law 160 = .ok (.iadd, 1) := by decide +kernel
theorem dL_law_161 : decode cL_law 161 = .ok (.iaload, 1) := by decide +kernel
theorem dL_law_162 : decode cL_law 162 = .ok (.aload_n 0, 1) := by decide +kernel
theorem dL_law_163 : decode cL_law 163 = .ok (.iload_n 3, 1) := by decide +kernel
theorem dL_law_164 : decode cL_law 164 = .ok (.iconst 2, 1) := by decide +kernel
theorem dL_law_165 : decode cL_law 165 = .ok (.iadd, 1) := by decide +kernel
theorem dL_law_166 : decode cL_law 166 = .ok (.iaload, 1) := by decide +kernel
theorem dL_law_167 : decode cL_law 167 = .ok (.invokevirtual 13, 3) := by decide +kernel
theorem dL_law_170 : decode cL_law 170 = .ok (.aload_n 2, 1) := by decide +kernel
theorem dL_law_171 : decode cL_law 171 = .ok (.aload_n 0, 1) := by decide +kernel
theorem dL_law_172 : decode cL_law 172 = .ok (.iload_n 3, 1) := by decide +kernel
theorem dL_law_173 : decode cL_law 173 = .ok (.iconst 1, 1) := by decide +kernel
theorem dL_law_174 : decode cL_law 174 = .ok (.iadd, 1) := by decide +kernel
theorem dL_law_175 : decode cL_law 175 = .ok (.iaload, 1) := by decide +kernel
theorem dL_law_176 : decode cL_law 176 = .ok (.aload_n 0, 1) := by decide +kernel
theorem dL_law_177 : decode cL_law 177 = .ok (.iload_n 3, 1) := by decide +kernel
theorem dL_law_178 : decode cL_law 178 = .ok (.iconst 2, 1) := by decide +kernel
theorem dL_law_179 : decode cL_law 179 = .ok (.iadd, 1) := by decide +kernel
theorem dL_law_180 : decode cL_law 180 = .ok (.iaload, 1) := by decide +kernel
theorem dL_law_181 : decode cL_law 181 = .ok (.invokevirtual 17, 3) := by decide +kernel
theorem dL_law_184 : decode cL_law 184 = .ok (.if_icmp .eq 893, 3) := by decide +kernel
theorem dL_law_187 : decode cL_law 187 = .ok (.iconst 0, 1) := by decide +kernel
theorem dL_law_188 : decode cL_law 188 = .ok (.ireturn, 1) := by decide +kernel
theorem dL_law_189 : decode cL_law 189 = .ok (.aload_n 1, 1) := by decide +kernel
theorem dL_law_190 : decode cL_law 190 = .ok (.aload_n 0, 1) := by decide +kernel
theorem dL_law_191 : decode cL_law 191 = .ok (.iload_n 3, 1) := by decide +kernel
theorem dL_law_192 : decode cL_law 192 = .ok (.iconst 1, 1) := by decide +kernel
theorem dL_law_193 : decode cL_law 193 = .ok (.iadd, 1) := by decide +kernel
theorem dL_law_194 : decode cL_law 194 = .ok (.iaload, 1) := by decide +kernel
theorem dL_law_195 : decode cL_law 195 = .ok (.aload_n 0, 1) := by decide +kernel
theorem dL_law_196 : decode cL_law 196 = .ok (.iload_n 3, 1) := by decide +kernel
theorem dL_law_197 : decode cL_law 197 = .ok (.iconst 2, 1) := by decide +kernel
theorem dL_law_198 : decode cL_law 198 = .ok (.iadd, 1) := by decide +kernel
theorem dL_law_199 : decode cL_law 199 = .ok (.iaload, 1) := by decide +kernel
theorem dL_law_200 : decode cL_law 200 = .ok (.aload_n 0, 1) := by decide +kernel
theorem dL_law_201 : decode cL_law 201 = .ok (.iload_n 3, 1) := by decide +kernel
theorem dL_law_202 : decode cL_law 202 = .ok (.iconst 3, 1) := by decide +kernel
theorem dL_law_203 : decode cL_law 203 = .ok (.iadd, 1) := by decide +kernel
theorem dL_law_204 : decode cL_law 204 = .ok (.iaload, 1) := by decide +kernel
theorem dL_law_205 : decode cL_law 205 = .ok (.invokevirtual 18, 3) := by decide +kernel
theorem dL_law_208 : decode cL_law 208 = .ok (.aload_n 2, 1) := by decide +kernel
theorem dL_law_209 : decode cL_law 209 = .ok (.aload_n 0, 1) := by decide +kernel
theorem dL_law_210 : decode cL_law 210 = .ok (.iload_n 3, 1) := by decide +kernel
theorem dL_law_211 : decode cL_law 211 = .ok (.iconst 1, 1) := by decide +kernel
theorem dL_law_212 : decode cL_law 212 = .ok (.iadd, 1) := by decide +kernel
theorem dL_law_213 : decode cL_law 213 = .ok (.iaload, 1) := by decide +kernel
theorem dL_law_214 : decode cL_law 214 = .ok (.aload_n 0, 1) := by decide +kernel
theorem dL_law_215 : decode cL_law 215 = .ok (.iload_n 3, 1) := by decide +kernel
theorem dL_law_216 : decode cL_law 216 = .ok (.iconst 2, 1) := by decide +kernel
theorem dL_law_217 : decode cL_law 217 = .ok (.iadd, 1) := by decide +kernel
theorem dL_law_218 : decode cL_law 218 = .ok (.iaload, 1) := by decide +kernel
theorem dL_law_219 : decode cL_law 219 = .ok (.aload_n 0, 1) := by decide +kernel
theorem dL_law_220 : decode cL_law 220 = .ok (.iload_n 3, 1) := by decide +kernel
theorem dL_law_221 : decode cL_law 221 = .ok (.iconst 3, 1) := by decide +kernel
theorem dL_law_222 : decode cL_law 222 = .ok (.iadd, 1) := by decide +kernel
theorem dL_law_223 : decode cL_law 223 = .ok (.iaload, 1) := by decide +kernel
theorem dL_law_224 : decode cL_law 224 = .ok (.invokevirtual 22, 3) := by decide +kernel
theorem dL_law_227 : decode cL_law 227 = .ok (.if_icmp .eq 850, 3) := by decide +kernel
theorem dL_law_230 : decode cL_law 230 = .ok (.iconst 0, 1) := by decide +kernel
theorem dL_law_231 : decode cL_law 231 = .ok (.ireturn, 1) := by decide +kernel
theorem dL_law_232 : decode cL_law 232 = .ok (.aload_n 1, 1) := by decide +kernel
theorem dL_law_233 : decode cL_law 233 = .ok (.aload_n 0, 1) := by decide +kernel
theorem dL_law_234 : decode cL_law 234 = .ok (.iload_n 3, 1) := by decide +kernel
theorem dL_law_235 : decode cL_law 235 = .ok (.iconst 1, 1) := by decide +kernel
theorem dL_law_236 : decode cL_law 236 = .ok (.iadd, 1) := by decide +kernel
theorem dL_law_237 : decode cL_law 237 = .ok (.iaload, 1) := by decide +kernel
theorem dL_law_238 : decode cL_law 238 = .ok (.aload_n 0, 1) := by decide +kernel
theorem dL_law_239 : decode cL_law 239 = .ok (.iload_n 3, 1) := by decide +kernel
theorem dL_law_240 : decode cL_law 240 = .ok (.iconst 2, 1) := by decide +kernel
theorem dL_law_241 : decode cL_law 241 = .ok (.iadd, 1) := by decide +kernel
theorem dL_law_242 : decode cL_law 242 = .ok (.iaload, 1) := by decide +kernel
theorem dL_law_243 : decode cL_law 243 = .ok (.invokevirtual 23, 3) := by decide +kernel
theorem dL_law_246 : decode cL_law 246 = .ok (.aload_n 2, 1) := by decide +kernel
theorem dL_law_247 : decode cL_law 247 = .ok (.aload_n 0, 1) := by decide +kernel
theorem dL_law_248 : decode cL_law 248 = .ok (.iload_n 3, 1) := by decide +kernel
theorem dL_law_249 : decode cL_law 249 = .ok (.iconst 1, 1) := by decide +kernel
theorem dL_law_250 : decode cL_law 250 = .ok (.iadd, 1) := by decide +kernel
theorem dL_law_251 : decode cL_law 251 = .ok (.iaload, 1) := by decide +kernel
theorem dL_law_252 : decode cL_law 252 = .ok (.aload_n 0, 1) := by decide +kernel
theorem dL_law_253 : decode cL_law 253 = .ok (.iload_n 3, 1) := by decide +kernel
theorem dL_law_254 : decode cL_law 254 = .ok (.iconst 2, 1) := by decide +kernel
theorem dL_law_255 : decode cL_law 255 = .ok (.iadd, 1) := by decide +kernel
theorem dL_law_256 : decode cL_law 256 = .ok (.iaload, 1) := by decide +kernel
theorem dL_law_257 : decode cL_law 257 = .ok (.invokevirtual 26, 3) := by decide +kernel
theorem dL_law_260 : decode cL_law 260 = .ok (.if_icmp .eq 817, 3) := by decide +kernel
theorem dL_law_263 : decode cL_law 263 = .ok (.iconst 0, 1) := by decide +kernel
theorem dL_law_264 : decode cL_law 264 = .ok (.ireturn, 1) := by decide +kernel
theorem dL_law_265 : decode cL_law 265 = .ok (.aload_n 1, 1) := by decide +kernel
theorem dL_law_266 : decode cL_law 266 = .ok (.aload_n 0, 1) := by decide +kernel
theorem dL_law_267 : decode cL_law 267 = .ok (.iload_n 3, 1) := by decide +kernel
theorem dL_law_268 : decode cL_law 268 = .ok (.iconst 1, 1) := by decide +kernel
theorem dL_law_269 : decode cL_law 269 = .ok (.iadd, 1) := by decide +kernel
theorem dL_law_270 : decode cL_law 270 = .ok (.iaload, 1) := by decide +kernel
theorem dL_law_271 : decode cL_law 271 = .ok (.aload_n 0, 1) := by decide +kernel
theorem dL_law_272 : decode cL_law 272 = .ok (.iload_n 3, 1) := by decide +kernel
theorem dL_law_273 : decode cL_law 273 = .ok (.iconst 2, 1) := by decide +kernel
theorem dL_law_274 : decode cL_law 274 = .ok (.iadd, 1) := by decide +kernel
theorem dL_law_275 : decode cL_law 275 = .ok (.iaload, 1) := by decide +kernel
theorem dL_law_276 : decode cL_law 276 = .ok (.invokevirtual 27, 3) := by decide +kernel
theorem dL_law_279 : decode cL_law 279 = .ok (.aload_n 2, 1) := by decide +kernel
theorem dL_law_280 : decode cL_law 280 = .ok (.aload_n 0, 1) := by decide +kernel
theorem dL_law_281 : decode cL_law 281 = .ok (.iload_n 3, 1) := by decide +kernel
theorem dL_law_282 : decode cL_law 282 = .ok (.iconst 1, 1) := by decide +kernel
theorem dL_law_283 : decode cL_law 283 = .ok (.iadd, 1) := by decide +kernel
theorem dL_law_284 : decode cL_law 284 = .ok (.iaload, 1) := by decide +kernel
theorem dL_law_285 : decode cL_law 285 = .ok (.aload_n 0, 1) := by decide +kernel
theorem dL_law_286 : decode cL_law 286 = .ok (.iload_n 3, 1) := by decide +kernel
theorem dL_law_287 : decode cL_law 287 = .ok (.iconst 2, 1) := by decide +kernel
theorem dL_law_288 : decode cL_law 288 = .ok (.iadd, 1) := by decide +kernel
theorem dL_law_289 : decode cL_law 289 = .ok (.iaload, 1) := by decide +kernel
theorem dL_law_290 : decode cL_law 290 = .ok (.invokevirtual 30, 3) := by decide +kernel
theorem dL_law_293 : decode cL_law 293 = .ok (.if_icmp .eq 784, 3) := by decide +kernel
theorem dL_law_296 : decode cL_law 296 = .ok (.iconst 0, 1) := by decide +kernel
theorem dL_law_297 : decode cL_law 297 = .ok (.ireturn, 1) := by decide +kernel
theorem dL_law_298 : decode cL_law 298 = .ok (.aload_n 1, 1) := by decide +kernel
theorem dL_law_299 : decode cL_law 299 = .ok (.aload_n 0, 1) := by decide +kernel
theorem dL_law_300 : decode cL_law 300 = .ok (.iload_n 3, 1) := by decide +kernel
theorem dL_law_301 : decode cL_law 301 = .ok (.iconst 1, 1) := by decide +kernel
theorem dL_law_302 : decode cL_law 302 = .ok (.iadd, 1) := by decide +kernel
theorem dL_law_303 : decode cL_law 303 = .ok (.iaload, 1) := by decide +kernel
theorem dL_law_304 : decode cL_law 304 = .ok (.aload_n 0, 1) := by decide +kernel
theorem dL_law_305 : decode cL_law 305 = .ok (.iload_n 3, 1) := by decide +kernel
theorem dL_law_306 : decode cL_law 306 = .ok (.iconst 2, 1) := by decide +kernel
theorem dL_law_307 : decode cL_law 307 = .ok (.iadd, 1) := by decide +kernel
theorem dL_law_308 : decode cL_law 308 = .ok (.iaload, 1) := by decide +kernel
theorem dL_law_309 : decode cL_law 309 = .ok (.aload_n 0, 1) := by decide +kernel
theorem dL_law_310 : decode cL_law 310 = .ok (.iload_n 3, 1) := by decide +kernel
theorem dL_law_311 : decode cL_law 311 = .ok (.iconst 3, 1) := by decide +kernel
theorem dL_law_312 : decode cL_law 312 = .ok (.iadd, 1) := by decide +kernel
theorem dL_law_313 : decode cL_law 313 = .ok (.iaload, 1) := by decide +kernel
theorem dL_law_314 : decode cL_law 314 = .ok (.invokevirtual 31, 3) := by decide +kernel
theorem dL_law_317 : decode cL_law 317 = .ok (.aload_n 2, 1) := by decide +kernel
theorem dL_law_318 : decode cL_law 318 = .ok (.aload_n 0, 1) := by decide +kernel
theorem dL_law_319 : decode cL_law 319 = .ok (.iload_n 3, 1) := by decide +kernel
theorem dL_law_320 : decode cL_law 320 = .ok (.iconst 1, 1) := by decide +kernel
theorem dL_law_321 : decode cL_law 321 = .ok (.iadd, 1) := by decide +kernel
theorem dL_law_322 : decode cL_law 322 = .ok (.iaload, 1) := by decide +kernel
theorem dL_law_323 : decode cL_law 323 = .ok (.aload_n 0, 1) := by decide +kernel
theorem dL_law_324 : decode cL_law 324 = .ok (.iload_n 3, 1) := by decide +kernel
theorem dL_law_325 : decode cL_law 325 = .ok (.iconst 2, 1) := by decide +kernel
theorem dL_law_326 : decode cL_law 326 = .ok (.iadd, 1) := by decide +kernel
theorem dL_law_327 : decode cL_law 327 = .ok (.iaload, 1) := by decide +kernel
theorem dL_law_328 : decode cL_law 328 = .ok (.aload_n 0, 1) := by decide +kernel
theorem dL_law_329 : decode cL_law 329 = .ok (.iload_n 3, 1) := by decide +kernel
theorem dL_law_330 : decode cL_law 330 = .ok (.iconst 3, 1) := by decide +kernel
theorem dL_law_331 : decode cL_law 331 = .ok (.iadd, 1) := by decide +kernel
theorem dL_law_332 : decode cL_law 332 = .ok (.iaload, 1) := by decide +kernel
theorem dL_law_333 : decode cL_law 333 = .ok (.invokevirtual 34, 3) := by decide +kernel
theorem dL_law_336 : decode cL_law 336 = .ok (.if_icmp .eq 741, 3) := by decide +kernel
theorem dL_law_339 : decode cL_law 339 = .ok (.iconst 0, 1) := by decide +kernel
theorem dL_law_340 : decode cL_law 340 = .ok (.ireturn, 1) := by decide +kernel
theorem dL_law_341 : decode cL_law 341 = .ok (.aload_n 1, 1) := by decide +kernel
theorem dL_law_342 : decode cL_law 342 = .ok (.aload_n 0, 1) := by decide +kernel
theorem dL_law_343 : decode cL_law 343 = .ok (.iload_n 3, 1) := by decide +kernel
theorem dL_law_344 : decode cL_law 344 = .ok (.iconst 1, 1) := by decide +kernel
theorem dL_law_345 : decode cL_law 345 = .ok (.iadd, 1) := by decide +kernel
theorem dL_law_346 : decode cL_law 346 = .ok (.iaload, 1) := by decide +kernel
theorem dL_law_347 : decode cL_law 347 = .ok (.aload_n 0, 1) := by decide +kernel
theorem dL_law_348 : decode cL_law 348 = .ok (.iload_n 3, 1) := by decide +kernel
theorem dL_law_349 : decode cL_law 349 = .ok (.iconst 2, 1) := by decide +kernel
theorem dL_law_350 : decode cL_law 350 = .ok (.iadd, 1) := by decide +kernel
theorem dL_law_351 : decode cL_law 351 = .ok (.iaload, 1) := by decide +kernel
theorem dL_law_352 : decode cL_law 352 = .ok (.invokevirtual 35, 3) := by decide +kernel
theorem dL_law_355 : decode cL_law 355 = .ok (.aload_n 2, 1) := by decide +kernel
theorem dL_law_356 : decode cL_law 356 = .ok (.aload_n 0, 1) := by decide +kernel
theorem dL_law_357 : decode cL_law 357 = .ok (.iload_n 3, 1) := by decide +kernel
theorem dL_law_358 : decode cL_law 358 = .ok (.iconst 1, 1) := by decide +kernel
theorem dL_law_359 : decode cL_law 359 = .ok (.iadd, 1) := by decide +kernel
theorem dL_law_360 : decode cL_law 360 = .ok (.iaload, 1) := by decide +kernel
theorem dL_law_361 : decode cL_law 361 = .ok (.aload_n 0, 1) := by decide +kernel
theorem dL_law_362 : decode cL_law 362 = .ok (.iload_n 3, 1) := by decide +kernel
theorem dL_law_363 : decode cL_law 363 = .ok (.iconst 2, 1) := by decide +kernel
theorem dL_law_364 : decode cL_law 364 = .ok (.iadd, 1) := by decide +kernel
theorem dL_law_365 : decode cL_law 365 = .ok (.iaload, 1) := by decide +kernel
theorem dL_law_366 : decode cL_law 366 = .ok (.invokevirtual 38, 3) := by decide +kernel
theorem dL_law_369 : decode cL_law 369 = .ok (.if_icmp .eq 708, 3) := by decide +kernel
theorem dL_law_372 : decode cL_law 372 = .ok (.iconst 0, 1) := by decide +kernel
theorem dL_law_373 : decode cL_law 373 = .ok (.ireturn, 1) := by decide +kernel
theorem dL_law_374 : decode cL_law 374 = .ok (.aload_n 1, 1) := by decide +kernel
theorem dL_law_375 : decode cL_law 375 = .ok (.aload_n 0, 1) := by decide +kernel
theorem dL_law_376 : decode cL_law 376 = .ok (.iload_n 3, 1) := by decide +kernel
theorem dL_law_377 : decode cL_law 377 = .ok (.iconst 1, 1) := by decide +kernel
theorem dL_law_378 : decode cL_law 378 = .ok (.iadd, 1) := by decide +kernel
theorem dL_law_379 : decode cL_law 379 = .ok (.iaload, 1) := by decide +kernel
theorem dL_law_380 : decode cL_law 380 = .ok (.invokevirtual 39, 3) := by decide +kernel
theorem dL_law_383 : decode cL_law 383 = .ok (.aload_n 2, 1) := by decide +kernel
theorem dL_law_384 : decode cL_law 384 = .ok (.aload_n 0, 1) := by decide +kernel
theorem dL_law_385 : decode cL_law 385 = .ok (.iload_n 3, 1) := by decide +kernel
theorem dL_law_386 : decode cL_law 386 = .ok (.iconst 1, 1) := by decide +kernel
theorem dL_law_387 : decode cL_law 387 = .ok (.iadd, 1) := by decide +kernel
theorem dL_law_388 : decode cL_law 388 = .ok (.iaload, 1) := by decide +kernel
theorem dL_law_389 : decode cL_law 389 = .ok (.invokevirtual 43, 3) := by decide +kernel
theorem dL_law_392 : decode cL_law 392 = .ok (.if_icmp .eq 685, 3) := by decide +kernel
theorem dL_law_395 : decode cL_law 395 = .ok (.iconst 0, 1) := by decide +kernel
theorem dL_law_396 : decode cL_law 396 = .ok (.ireturn, 1) := by decide +kernel
theorem dL_law_397 : decode cL_law 397 = .ok (.aload_n 1, 1) := by decide +kernel
theorem dL_law_398 : decode cL_law 398 = .ok (.aload_n 0, 1) := by decide +kernel
theorem dL_law_399 : decode cL_law 399 = .ok (.iload_n 3, 1) := by decide +kernel
theorem dL_law_400 : decode cL_law 400 = .ok (.iconst 1, 1) := by decide +kernel
theorem dL_law_401 : decode cL_law 401 = .ok (.iadd, 1) := by decide +kernel
theorem dL_law_402 : decode cL_law 402 = .ok (.iaload, 1) := by decide +kernel
theorem dL_law_403 : decode cL_law 403 = .ok (.i2l, 1) := by decide +kernel
theorem dL_law_404 : decode cL_law 404 = .ok (.bipush 32, 2) := by decide +kernel
theorem dL_law_406 : decode cL_law 406 = .ok (.lshl, 1) := by decide +kernel
theorem dL_law_407 : decode cL_law 407 = .ok (.aload_n 0, 1) := by decide +kernel
theorem dL_law_408 : decode cL_law 408 = .ok (.iload_n 3, 1) := by decide +kernel
theorem dL_law_409 : decode cL_law 409 = .ok (.iconst 2, 1) := by decide +kernel
theorem dL_law_410 : decode cL_law 410 = .ok (.iadd, 1) := by decide +kernel
theorem dL_law_411 : decode cL_law 411 = .ok (.iaload, 1) := by decide +kernel
theorem dL_law_412 : decode cL_law 412 = .ok (.i2l, 1) := by decide +kernel
theorem dL_law_413 : decode cL_law 413 = .ok (.ldc2_w 44, 3) := by decide +kernel
theorem dL_law_416 : decode cL_law 416 = .ok (.land, 1) := by decide +kernel
theorem dL_law_417 : decode cL_law 417 = .ok (.lor, 1) := by decide +kernel
theorem dL_law_418 : decode cL_law 418 = .ok (.aload_n 0, 1) := by decide +kernel
theorem dL_law_419 : decode cL_law 419 = .ok (.iload_n 3, 1) := by decide +kernel
theorem dL_law_420 : decode cL_law 420 = .ok (.iconst 3, 1) := by decide +kernel
theorem dL_law_421 : decode cL_law 421 = .ok (.iadd, 1) := by decide +kernel
theorem dL_law_422 : decode cL_law 422 = .ok (.iaload, 1) := by decide +kernel
theorem dL_law_423 : decode cL_law 423 = .ok (.invokevirtual 46, 3) := by decide +kernel
theorem dL_law_426 : decode cL_law 426 = .ok (.aload_n 2, 1) := by decide +kernel
theorem dL_law_427 : decode cL_law 427 = .ok (.aload_n 0, 1) := by decide +kernel
theorem dL_law_428 : decode cL_law 428 = .ok (.iload_n 3, 1) := by decide +kernel
theorem dL_law_429 : decode cL_law 429 = .ok (.iconst 1, 1) := by decide +kernel
theorem dL_law_430 : decode cL_law 430 = .ok (.iadd, 1) := by decide +kernel
theorem dL_law_431 : decode cL_law 431 = .ok (.iaload, 1) := by decide +kernel
theorem dL_law_432 : decode cL_law 432 = .ok (.i2l, 1) := by decide +kernel
theorem dL_law_433 : decode cL_law 433 = .ok (.bipush 32, 2) := by decide +kernel
theorem dL_law_435 : decode cL_law 435 = .ok (.lshl, 1) := by decide +kernel
theorem dL_law_436 : decode cL_law 436 = .ok (.aload_n 0, 1) := by decide +kernel
theorem dL_law_437 : decode cL_law 437 = .ok (.iload_n 3, 1) := by decide +kernel
theorem dL_law_438 : decode cL_law 438 = .ok (.iconst 2, 1) := by decide +kernel
theorem dL_law_439 : decode cL_law 439 = .ok (.iadd, 1) := by decide +kernel
theorem dL_law_440 : decode cL_law 440 = .ok (.iaload, 1) := by decide +kernel
theorem dL_law_441 : decode cL_law 441 = .ok (.i2l, 1) := by decide +kernel
theorem dL_law_442 : decode cL_law 442 = .ok (.ldc2_w 44, 3) := by decide +kernel
theorem dL_law_445 : decode cL_law 445 = .ok (.land, 1) := by decide +kernel
theorem dL_law_446 : decode cL_law 446 = .ok (.lor, 1) := by decide +kernel
theorem dL_law_447 : decode cL_law 447 = .ok (.aload_n 0, 1) := by decide +kernel
theorem dL_law_448 : decode cL_law 448 = .ok (.iload_n 3, 1) := by decide +kernel
theorem dL_law_449 : decode cL_law 449 = .ok (.iconst 3, 1) := by decide +kernel
theorem dL_law_450 : decode cL_law 450 = .ok (.iadd, 1) := by decide +kernel
theorem dL_law_451 : decode cL_law 451 = .ok (.iaload, 1) := by decide +kernel
theorem dL_law_452 : decode cL_law 452 = .ok (.invokevirtual 50, 3) := by decide +kernel
theorem dL_law_455 : decode cL_law 455 = .ok (.if_icmp .eq 622, 3) := by decide +kernel
theorem dL_law_458 : decode cL_law 458 = .ok (.iconst 0, 1) := by decide +kernel
theorem dL_law_459 : decode cL_law 459 = .ok (.ireturn, 1) := by decide +kernel
theorem dL_law_460 : decode cL_law 460 = .ok (.aload_n 1, 1) := by decide +kernel
theorem dL_law_461 : decode cL_law 461 = .ok (.invokevirtual 51, 3) := by decide +kernel
theorem dL_law_464 : decode cL_law 464 = .ok (.aload_n 2, 1) := by decide +kernel
theorem dL_law_465 : decode cL_law 465 = .ok (.invokevirtual 55, 3) := by decide +kernel
theorem dL_law_468 : decode cL_law 468 = .ok (.if_icmp .eq 609, 3) := by decide +kernel
theorem dL_law_471 : decode cL_law 471 = .ok (.iconst 0, 1) := by decide +kernel
theorem dL_law_472 : decode cL_law 472 = .ok (.ireturn, 1) := by decide +kernel
theorem dL_law_473 : decode cL_law 473 = .ok (.aload_n 1, 1) := by decide +kernel
theorem dL_law_474 : decode cL_law 474 = .ok (.aload_n 0, 1) := by decide +kernel
theorem dL_law_475 : decode cL_law 475 = .ok (.iload_n 3, 1) := by decide +kernel
theorem dL_law_476 : decode cL_law 476 = .ok (.iconst 1, 1) := by decide +kernel
theorem dL_law_477 : decode cL_law 477 = .ok (.iadd, 1) := by decide +kernel
theorem dL_law_478 : decode cL_law 478 = .ok (.iaload, 1) := by decide +kernel
theorem dL_law_479 : decode cL_law 479 = .ok (.invokevirtual 56, 3) := by decide +kernel
theorem dL_law_482 : decode cL_law 482 = .ok (.aload_n 2, 1) := by decide +kernel
theorem dL_law_483 : decode cL_law 483 = .ok (.aload_n 0, 1) := by decide +kernel
theorem dL_law_484 : decode cL_law 484 = .ok (.iload_n 3, 1) := by decide +kernel
theorem dL_law_485 : decode cL_law 485 = .ok (.iconst 1, 1) := by decide +kernel
theorem dL_law_486 : decode cL_law 486 = .ok (.iadd, 1) := by decide +kernel
theorem dL_law_487 : decode cL_law 487 = .ok (.iaload, 1) := by decide +kernel
theorem dL_law_488 : decode cL_law 488 = .ok (.invokevirtual 59, 3) := by decide +kernel
theorem dL_law_491 : decode cL_law 491 = .ok (.if_icmp .eq 586, 3) := by decide +kernel
theorem dL_law_494 : decode cL_law 494 = .ok (.iconst 0, 1) := by decide +kernel
theorem dL_law_495 : decode cL_law 495 = .ok (.ireturn, 1) := by decide +kernel
theorem dL_law_496 : decode cL_law 496 = .ok (.aload_n 1, 1) := by decide +kernel
theorem dL_law_497 : decode cL_law 497 = .ok (.aload_n 0, 1) := by decide +kernel
theorem dL_law_498 : decode cL_law 498 = .ok (.iload_n 3, 1) := by decide +kernel
theorem dL_law_499 : decode cL_law 499 = .ok (.iconst 1, 1) := by decide +kernel
theorem dL_law_500 : decode cL_law 500 = .ok (.iadd, 1) := by decide +kernel
theorem dL_law_501 : decode cL_law 501 = .ok (.iaload, 1) := by decide +kernel
theorem dL_law_502 : decode cL_law 502 = .ok (.aload_n 0, 1) := by decide +kernel
theorem dL_law_503 : decode cL_law 503 = .ok (.iload_n 3, 1) := by decide +kernel
theorem dL_law_504 : decode cL_law 504 = .ok (.iconst 2, 1) := by decide +kernel
theorem dL_law_505 : decode cL_law 505 = .ok (.iadd, 1) := by decide +kernel
theorem dL_law_506 : decode cL_law 506 = .ok (.iaload, 1) := by decide +kernel
theorem dL_law_507 : decode cL_law 507 = .ok (.invokevirtual 60, 3) := by decide +kernel
theorem dL_law_510 : decode cL_law 510 = .ok (.aload_n 2, 1) := by decide +kernel
theorem dL_law_511 : decode cL_law 511 = .ok (.aload_n 0, 1) := by decide +kernel
theorem dL_law_512 : decode cL_law 512 = .ok (.iload_n 3, 1) := by decide +kernel
theorem dL_law_513 : decode cL_law 513 = .ok (.iconst 1, 1) := by decide +kernel
theorem dL_law_514 : decode cL_law 514 = .ok (.iadd, 1) := by decide +kernel
theorem dL_law_515 : decode cL_law 515 = .ok (.iaload, 1) := by decide +kernel
theorem dL_law_516 : decode cL_law 516 = .ok (.aload_n 0, 1) := by decide +kernel
theorem dL_law_517 : decode cL_law 517 = .ok (.iload_n 3, 1) := by decide +kernel
theorem dL_law_518 : decode cL_law 518 = .ok (.iconst 2, 1) := by decide +kernel
theorem dL_law_519 : decode cL_law 519 = .ok (.iadd, 1) := by decide +kernel
theorem dL_law_520 : decode cL_law 520 = .ok (.iaload, 1) := by decide +kernel
theorem dL_law_521 : decode cL_law 521 = .ok (.invokevirtual 63, 3) := by decide +kernel
theorem dL_law_524 : decode cL_law 524 = .ok (.if_icmp .eq 553, 3) := by decide +kernel
theorem dL_law_527 : decode cL_law 527 = .ok (.iconst 0, 1) := by decide +kernel
theorem dL_law_528 : decode cL_law 528 = .ok (.ireturn, 1) := by decide +kernel
theorem dL_law_529 : decode cL_law 529 = .ok (.aload_n 1, 1) := by decide +kernel
theorem dL_law_530 : decode cL_law 530 = .ok (.aload_n 0, 1) := by decide +kernel
theorem dL_law_531 : decode cL_law 531 = .ok (.iload_n 3, 1) := by decide +kernel
theorem dL_law_532 : decode cL_law 532 = .ok (.iconst 1, 1) := by decide +kernel
theorem dL_law_533 : decode cL_law 533 = .ok (.iadd, 1) := by decide +kernel
theorem dL_law_534 : decode cL_law 534 = .ok (.iaload, 1) := by decide +kernel
theorem dL_law_535 : decode cL_law 535 = .ok (.aload_n 0, 1) := by decide +kernel
theorem dL_law_536 : decode cL_law 536 = .ok (.iload_n 3, 1) := by decide +kernel
theorem dL_law_537 : decode cL_law 537 = .ok (.iconst 2, 1) := by decide +kernel
theorem dL_law_538 : decode cL_law 538 = .ok (.iadd, 1) := by decide +kernel
theorem dL_law_539 : decode cL_law 539 = .ok (.iaload, 1) := by decide +kernel
theorem dL_law_540 : decode cL_law 540 = .ok (.invokevirtual 64, 3) := by decide +kernel
theorem dL_law_543 : decode cL_law 543 = .ok (.aload_n 2, 1) := by decide +kernel
theorem dL_law_544 : decode cL_law 544 = .ok (.aload_n 0, 1) := by decide +kernel
theorem dL_law_545 : decode cL_law 545 = .ok (.iload_n 3, 1) := by decide +kernel
theorem dL_law_546 : decode cL_law 546 = .ok (.iconst 1, 1) := by decide +kernel
theorem dL_law_547 : decode cL_law 547 = .ok (.iadd, 1) := by decide +kernel
theorem dL_law_548 : decode cL_law 548 = .ok (.iaload, 1) := by decide +kernel
theorem dL_law_549 : decode cL_law 549 = .ok (.aload_n 0, 1) := by decide +kernel
theorem dL_law_550 : decode cL_law 550 = .ok (.iload_n 3, 1) := by decide +kernel
theorem dL_law_551 : decode cL_law 551 = .ok (.iconst 2, 1) := by decide +kernel
theorem dL_law_552 : decode cL_law 552 = .ok (.iadd, 1) := by decide +kernel
theorem dL_law_553 : decode cL_law 553 = .ok (.iaload, 1) := by decide +kernel
theorem dL_law_554 : decode cL_law 554 = .ok (.invokevirtual 67, 3) := by decide +kernel
theorem dL_law_557 : decode cL_law 557 = .ok (.if_icmp .eq 520, 3) := by decide +kernel
theorem dL_law_560 : decode cL_law 560 = .ok (.iconst 0, 1) := by decide +kernel
theorem dL_law_561 : decode cL_law 561 = .ok (.ireturn, 1) := by decide +kernel
theorem dL_law_562 : decode cL_law 562 = .ok (.aload_n 1, 1) := by decide +kernel
theorem dL_law_563 : decode cL_law 563 = .ok (.aload_n 0, 1) := by decide +kernel
theorem dL_law_564 : decode cL_law 564 = .ok (.iload_n 3, 1) := by decide +kernel
theorem dL_law_565 : decode cL_law 565 = .ok (.iconst 1, 1) := by decide +kernel
theorem dL_law_566 : decode cL_law 566 = .ok (.iadd, 1) := by decide +kernel
theorem dL_law_567 : decode cL_law 567 = .ok (.iaload, 1) := by decide +kernel
theorem dL_law_568 : decode cL_law 568 = .ok (.aload_n 0, 1) := by decide +kernel
theorem dL_law_569 : decode cL_law 569 = .ok (.iload_n 3, 1) := by decide +kernel
theorem dL_law_570 : decode cL_law 570 = .ok (.iconst 2, 1) := by decide +kernel
theorem dL_law_571 : decode cL_law 571 = .ok (.iadd, 1) := by decide +kernel
theorem dL_law_572 : decode cL_law 572 = .ok (.iaload, 1) := by decide +kernel
theorem dL_law_573 : decode cL_law 573 = .ok (.aload_n 0, 1) := by decide +kernel
theorem dL_law_574 : decode cL_law 574 = .ok (.iload_n 3, 1) := by decide +kernel
theorem dL_law_575 : decode cL_law 575 = .ok (.iconst 3, 1) := by decide +kernel
theorem dL_law_576 : decode cL_law 576 = .ok (.iadd, 1) := by decide +kernel
theorem dL_law_577 : decode cL_law 577 = .ok (.iaload, 1) := by decide +kernel
theorem dL_law_578 : decode cL_law 578 = .ok (.aload_n 0, 1) := by decide +kernel
theorem dL_law_579 : decode cL_law 579 = .ok (.iload_n 3, 1) := by decide +kernel
theorem dL_law_580 : decode cL_law 580 = .ok (.iconst 4, 1) := by decide +kernel
theorem dL_law_581 : decode cL_law 581 = .ok (.iadd, 1) := by decide +kernel
theorem dL_law_582 : decode cL_law 582 = .ok (.iaload, 1) := by decide +kernel
theorem dL_law_583 : decode cL_law 583 = .ok (.invokevirtual 68, 3) := by decide +kernel
theorem dL_law_586 : decode cL_law 586 = .ok (.aload_n 2, 1) := by decide +kernel
theorem dL_law_587 : decode cL_law 587 = .ok (.aload_n 0, 1) := by decide +kernel
theorem dL_law_588 : decode cL_law 588 = .ok (.iload_n 3, 1) := by decide +kernel
theorem dL_law_589 : decode cL_law 589 = .ok (.iconst 1, 1) := by decide +kernel
theorem dL_law_590 : decode cL_law 590 = .ok (.iadd, 1) := by decide +kernel
theorem dL_law_591 : decode cL_law 591 = .ok (.iaload, 1) := by decide +kernel
theorem dL_law_592 : decode cL_law 592 = .ok (.aload_n 0, 1) := by decide +kernel
theorem dL_law_593 : decode cL_law 593 = .ok (.iload_n 3, 1) := by decide +kernel
theorem dL_law_594 : decode cL_law 594 = .ok (.iconst 2, 1) := by decide +kernel
theorem dL_law_595 : decode cL_law 595 = .ok (.iadd, 1) := by decide +kernel
theorem dL_law_596 : decode cL_law 596 = .ok (.iaload, 1) := by decide +kernel
theorem dL_law_597 : decode cL_law 597 = .ok (.aload_n 0, 1) := by decide +kernel
theorem dL_law_598 : decode cL_law 598 = .ok (.iload_n 3, 1) := by decide +kernel
theorem dL_law_599 : decode cL_law 599 = .ok (.iconst 3, 1) := by decide +kernel
theorem dL_law_600 : decode cL_law 600 = .ok (.iadd, 1) := by decide +kernel
theorem dL_law_601 : decode cL_law 601 = .ok (.iaload, 1) := by decide +kernel
theorem dL_law_602 : decode cL_law 602 = .ok (.aload_n 0, 1) := by decide +kernel
theorem dL_law_603 : decode cL_law 603 = .ok (.iload_n 3, 1) := by decide +kernel
theorem dL_law_604 : decode cL_law 604 = .ok (.iconst 4, 1) := by decide +kernel
theorem dL_law_605 : decode cL_law 605 = .ok (.iadd, 1) := by decide +kernel
theorem dL_law_606 : decode cL_law 606 = .ok (.iaload, 1) := by decide +kernel
theorem dL_law_607 : decode cL_law 607 = .ok (.invokevirtual 72, 3) := by decide +kernel
theorem dL_law_610 : decode cL_law 610 = .ok (.if_icmp .eq 467, 3) := by decide +kernel
theorem dL_law_613 : decode cL_law 613 = .ok (.iconst 0, 1) := by decide +kernel
theorem dL_law_614 : decode cL_law 614 = .ok (.ireturn, 1) := by decide +kernel
theorem dL_law_615 : decode cL_law 615 = .ok (.aload_n 1, 1) := by decide +kernel
theorem dL_law_616 : decode cL_law 616 = .ok (.aload_n 0, 1) := by decide +kernel
theorem dL_law_617 : decode cL_law 617 = .ok (.iload_n 3, 1) := by decide +kernel
theorem dL_law_618 : decode cL_law 618 = .ok (.iconst 1, 1) := by decide +kernel
theorem dL_law_619 : decode cL_law 619 = .ok (.iadd, 1) := by decide +kernel
theorem dL_law_620 : decode cL_law 620 = .ok (.iaload, 1) := by decide +kernel
theorem dL_law_621 : decode cL_law 621 = .ok (.invokevirtual 73, 3) := by decide +kernel
theorem dL_law_624 : decode cL_law 624 = .ok (.aload_n 2, 1) := by decide +kernel
theorem dL_law_625 : decode cL_law 625 = .ok (.aload_n 0, 1) := by decide +kernel
theorem dL_law_626 : decode cL_law 626 = .ok (.iload_n 3, 1) := by decide +kernel
theorem dL_law_627 : decode cL_law 627 = .ok (.iconst 1, 1) := by decide +kernel
theorem dL_law_628 : decode cL_law 628 = .ok (.iadd, 1) := by decide +kernel
theorem dL_law_629 : decode cL_law 629 = .ok (.iaload, 1) := by decide +kernel
theorem dL_law_630 : decode cL_law 630 = .ok (.invokevirtual 76, 3) := by decide +kernel
theorem dL_law_633 : decode cL_law 633 = .ok (.if_icmp .eq 444, 3) := by decide +kernel
theorem dL_law_636 : decode cL_law 636 = .ok (.iconst 0, 1) := by decide +kernel
theorem dL_law_637 : decode cL_law 637 = .ok (.ireturn, 1) := by decide +kernel
theorem dL_law_638 : decode cL_law 638 = .ok (.aload_n 1, 1) := by decide +kernel
theorem dL_law_639 : decode cL_law 639 = .ok (.aload_n 0, 1) := by decide +kernel
theorem dL_law_640 : decode cL_law 640 = .ok (.iload_n 3, 1) := by decide +kernel
theorem dL_law_641 : decode cL_law 641 = .ok (.iconst 1, 1) := by decide +kernel
theorem dL_law_642 : decode cL_law 642 = .ok (.iadd, 1) := by decide +kernel
theorem dL_law_643 : decode cL_law 643 = .ok (.iaload, 1) := by decide +kernel
theorem dL_law_644 : decode cL_law 644 = .ok (.invokevirtual 77, 3) := by decide +kernel
theorem dL_law_647 : decode cL_law 647 = .ok (.aload_n 2, 1) := by decide +kernel
theorem dL_law_648 : decode cL_law 648 = .ok (.aload_n 0, 1) := by decide +kernel
theorem dL_law_649 : decode cL_law 649 = .ok (.iload_n 3, 1) := by decide +kernel
theorem dL_law_650 : decode cL_law 650 = .ok (.iconst 1, 1) := by decide +kernel
theorem dL_law_651 : decode cL_law 651 = .ok (.iadd, 1) := by decide +kernel
theorem dL_law_652 : decode cL_law 652 = .ok (.iaload, 1) := by decide +kernel
theorem dL_law_653 : decode cL_law 653 = .ok (.invokevirtual 80, 3) := by decide +kernel
theorem dL_law_656 : decode cL_law 656 = .ok (.if_icmp .eq 421, 3) := by decide +kernel
theorem dL_law_659 : decode cL_law 659 = .ok (.iconst 0, 1) := by decide +kernel
theorem dL_law_660 : decode cL_law 660 = .ok (.ireturn, 1) := by decide +kernel
theorem dL_law_661 : decode cL_law 661 = .ok (.aload_n 1, 1) := by decide +kernel
theorem dL_law_662 : decode cL_law 662 = .ok (.aload_n 0, 1) := by decide +kernel
theorem dL_law_663 : decode cL_law 663 = .ok (.iload_n 3, 1) := by decide +kernel
theorem dL_law_664 : decode cL_law 664 = .ok (.iconst 1, 1) := by decide +kernel
theorem dL_law_665 : decode cL_law 665 = .ok (.iadd, 1) := by decide +kernel
theorem dL_law_666 : decode cL_law 666 = .ok (.iaload, 1) := by decide +kernel
theorem dL_law_667 : decode cL_law 667 = .ok (.aload_n 0, 1) := by decide +kernel
theorem dL_law_668 : decode cL_law 668 = .ok (.iload_n 3, 1) := by decide +kernel
theorem dL_law_669 : decode cL_law 669 = .ok (.iconst 2, 1) := by decide +kernel
theorem dL_law_670 : decode cL_law 670 = .ok (.iadd, 1) := by decide +kernel
theorem dL_law_671 : decode cL_law 671 = .ok (.iaload, 1) := by decide +kernel
theorem dL_law_672 : decode cL_law 672 = .ok (.invokevirtual 81, 3) := by decide +kernel
theorem dL_law_675 : decode cL_law 675 = .ok (.aload_n 2, 1) := by decide +kernel
theorem dL_law_676 : decode cL_law 676 = .ok (.aload_n 0, 1) := by decide +kernel
theorem dL_law_677 : decode cL_law 677 = .ok (.iload_n 3, 1) := by decide +kernel
theorem dL_law_678 : decode cL_law 678 = .ok (.iconst 1, 1) := by decide +kernel
theorem dL_law_679 : decode cL_law 679 = .ok (.iadd, 1) := by decide +kernel
theorem dL_law_680 : decode cL_law 680 = .ok (.iaload, 1) := by decide +kernel
theorem dL_law_681 : decode cL_law 681 = .ok (.aload_n 0, 1) := by decide +kernel
theorem dL_law_682 : decode cL_law 682 = .ok (.iload_n 3, 1) := by decide +kernel
theorem dL_law_683 : decode cL_law 683 = .ok (.iconst 2, 1) := by decide +kernel
theorem dL_law_684 : decode cL_law 684 = .ok (.iadd, 1) := by decide +kernel
theorem dL_law_685 : decode cL_law 685 = .ok (.iaload, 1) := by decide +kernel
theorem dL_law_686 : decode cL_law 686 = .ok (.invokevirtual 84, 3) := by decide +kernel
theorem dL_law_689 : decode cL_law 689 = .ok (.if_icmp .eq 388, 3) := by decide +kernel
theorem dL_law_692 : decode cL_law 692 = .ok (.iconst 0, 1) := by decide +kernel
theorem dL_law_693 : decode cL_law 693 = .ok (.ireturn, 1) := by decide +kernel
theorem dL_law_694 : decode cL_law 694 = .ok (.aload_n 1, 1) := by decide +kernel
theorem dL_law_695 : decode cL_law 695 = .ok (.aload_n 0, 1) := by decide +kernel
theorem dL_law_696 : decode cL_law 696 = .ok (.iload_n 3, 1) := by decide +kernel
theorem dL_law_697 : decode cL_law 697 = .ok (.iconst 1, 1) := by decide +kernel
theorem dL_law_698 : decode cL_law 698 = .ok (.iadd, 1) := by decide +kernel
theorem dL_law_699 : decode cL_law 699 = .ok (.iaload, 1) := by decide +kernel
theorem dL_law_700 : decode cL_law 700 = .ok (.aload_n 0, 1) := by decide +kernel
theorem dL_law_701 : decode cL_law 701 = .ok (.iload_n 3, 1) := by decide +kernel
theorem dL_law_702 : decode cL_law 702 = .ok (.iconst 2, 1) := by decide +kernel
theorem dL_law_703 : decode cL_law 703 = .ok (.iadd, 1) := by decide +kernel
theorem dL_law_704 : decode cL_law 704 = .ok (.iaload, 1) := by decide +kernel
theorem dL_law_705 : decode cL_law 705 = .ok (.invokevirtual 85, 3) := by decide +kernel
theorem dL_law_708 : decode cL_law 708 = .ok (.aload_n 2, 1) := by decide +kernel
theorem dL_law_709 : decode cL_law 709 = .ok (.aload_n 0, 1) := by decide +kernel
theorem dL_law_710 : decode cL_law 710 = .ok (.iload_n 3, 1) := by decide +kernel
theorem dL_law_711 : decode cL_law 711 = .ok (.iconst 1, 1) := by decide +kernel
theorem dL_law_712 : decode cL_law 712 = .ok (.iadd, 1) := by decide +kernel
theorem dL_law_713 : decode cL_law 713 = .ok (.iaload, 1) := by decide +kernel
theorem dL_law_714 : decode cL_law 714 = .ok (.aload_n 0, 1) := by decide +kernel
theorem dL_law_715 : decode cL_law 715 = .ok (.iload_n 3, 1) := by decide +kernel
theorem dL_law_716 : decode cL_law 716 = .ok (.iconst 2, 1) := by decide +kernel
theorem dL_law_717 : decode cL_law 717 = .ok (.iadd, 1) := by decide +kernel
theorem dL_law_718 : decode cL_law 718 = .ok (.iaload, 1) := by decide +kernel
theorem dL_law_719 : decode cL_law 719 = .ok (.invokevirtual 88, 3) := by decide +kernel
theorem dL_law_722 : decode cL_law 722 = .ok (.if_icmp .eq 355, 3) := by decide +kernel
theorem dL_law_725 : decode cL_law 725 = .ok (.iconst 0, 1) := by decide +kernel
theorem dL_law_726 : decode cL_law 726 = .ok (.ireturn, 1) := by decide +kernel
theorem dL_law_727 : decode cL_law 727 = .ok (.aload_n 1, 1) := by decide +kernel
theorem dL_law_728 : decode cL_law 728 = .ok (.aload_n 0, 1) := by decide +kernel
theorem dL_law_729 : decode cL_law 729 = .ok (.iload_n 3, 1) := by decide +kernel
theorem dL_law_730 : decode cL_law 730 = .ok (.iconst 1, 1) := by decide +kernel
theorem dL_law_731 : decode cL_law 731 = .ok (.iadd, 1) := by decide +kernel
theorem dL_law_732 : decode cL_law 732 = .ok (.iaload, 1) := by decide +kernel
theorem dL_law_733 : decode cL_law 733 = .ok (.invokevirtual 89, 3) := by decide +kernel
theorem dL_law_736 : decode cL_law 736 = .ok (.aload_n 2, 1) := by decide +kernel
theorem dL_law_737 : decode cL_law 737 = .ok (.aload_n 0, 1) := by decide +kernel
theorem dL_law_738 : decode cL_law 738 = .ok (.iload_n 3, 1) := by decide +kernel
theorem dL_law_739 : decode cL_law 739 = .ok (.iconst 1, 1) := by decide +kernel
theorem dL_law_740 : decode cL_law 740 = .ok (.iadd, 1) := by decide +kernel
theorem dL_law_741 : decode cL_law 741 = .ok (.iaload, 1) := by decide +kernel
theorem dL_law_742 : decode cL_law 742 = .ok (.invokevirtual 92, 3) := by decide +kernel
theorem dL_law_745 : decode cL_law 745 = .ok (.if_icmp .eq 332, 3) := by decide +kernel
theorem dL_law_748 : decode cL_law 748 = .ok (.iconst 0, 1) := by decide +kernel
theorem dL_law_749 : decode cL_law 749 = .ok (.ireturn, 1) := by decide +kernel
theorem dL_law_750 : decode cL_law 750 = .ok (.aload_n 1, 1) := by decide +kernel
theorem dL_law_751 : decode cL_law 751 = .ok (.invokevirtual 93, 3) := by decide +kernel
theorem dL_law_754 : decode cL_law 754 = .ok (.aload_n 2, 1) := by decide +kernel
theorem dL_law_755 : decode cL_law 755 = .ok (.invokevirtual 96, 3) := by decide +kernel
theorem dL_law_758 : decode cL_law 758 = .ok (.if_icmp .eq 319, 3) := by decide +kernel
theorem dL_law_761 : decode cL_law 761 = .ok (.iconst 0, 1) := by decide +kernel
theorem dL_law_762 : decode cL_law 762 = .ok (.ireturn, 1) := by decide +kernel
theorem dL_law_763 : decode cL_law 763 = .ok (.aload_n 1, 1) := by decide +kernel
theorem dL_law_764 : decode cL_law 764 = .ok (.aload_n 0, 1) := by decide +kernel
theorem dL_law_765 : decode cL_law 765 = .ok (.iload_n 3, 1) := by decide +kernel
theorem dL_law_766 : decode cL_law 766 = .ok (.iconst 1, 1) := by decide +kernel
theorem dL_law_767 : decode cL_law 767 = .ok (.iadd, 1) := by decide +kernel
theorem dL_law_768 : decode cL_law 768 = .ok (.iaload, 1) := by decide +kernel
theorem dL_law_769 : decode cL_law 769 = .ok (.aload_n 0, 1) := by decide +kernel
theorem dL_law_770 : decode cL_law 770 = .ok (.iload_n 3, 1) := by decide +kernel
theorem dL_law_771 : decode cL_law 771 = .ok (.iconst 2, 1) := by decide +kernel
theorem dL_law_772 : decode cL_law 772 = .ok (.iadd, 1) := by decide +kernel
theorem dL_law_773 : decode cL_law 773 = .ok (.iaload, 1) := by decide +kernel
theorem dL_law_774 : decode cL_law 774 = .ok (.aload_n 0, 1) := by decide +kernel
theorem dL_law_775 : decode cL_law 775 = .ok (.iload_n 3, 1) := by decide +kernel
theorem dL_law_776 : decode cL_law 776 = .ok (.iconst 3, 1) := by decide +kernel
theorem dL_law_777 : decode cL_law 777 = .ok (.iadd, 1) := by decide +kernel
theorem dL_law_778 : decode cL_law 778 = .ok (.iaload, 1) := by decide +kernel
theorem dL_law_779 : decode cL_law 779 = .ok (.aload_n 0, 1) := by decide +kernel
theorem dL_law_780 : decode cL_law 780 = .ok (.iload_n 3, 1) := by decide +kernel
theorem dL_law_781 : decode cL_law 781 = .ok (.iconst 4, 1) := by decide +kernel
theorem dL_law_782 : decode cL_law 782 = .ok (.iadd, 1) := by decide +kernel
theorem dL_law_783 : decode cL_law 783 = .ok (.iaload, 1) := by decide +kernel
theorem dL_law_784 : decode cL_law 784 = .ok (.invokevirtual 97, 3) := by decide +kernel
theorem dL_law_787 : decode cL_law 787 = .ok (.aload_n 2, 1) := by decide +kernel
theorem dL_law_788 : decode cL_law 788 = .ok (.aload_n 0, 1) := by decide +kernel
theorem dL_law_789 : decode cL_law 789 = .ok (.iload_n 3, 1) := by decide +kernel
theorem dL_law_790 : decode cL_law 790 = .ok (.iconst 1, 1) := by decide +kernel
theorem dL_law_791 : decode cL_law 791 = .ok (.iadd, 1) := by decide +kernel
theorem dL_law_792 : decode cL_law 792 = .ok (.iaload, 1) := by decide +kernel
theorem dL_law_793 : decode cL_law 793 = .ok (.aload_n 0, 1) := by decide +kernel
theorem dL_law_794 : decode cL_law 794 = .ok (.iload_n 3, 1) := by decide +kernel
theorem dL_law_795 : decode cL_law 795 = .ok (.iconst 2, 1) := by decide +kernel
theorem dL_law_796 : decode cL_law 796 = .ok (.iadd, 1) := by decide +kernel
theorem dL_law_797 : decode cL_law 797 = .ok (.iaload, 1) := by decide +kernel
theorem dL_law_798 : decode cL_law 798 = .ok (.aload_n 0, 1) := by decide +kernel
theorem dL_law_799 : decode cL_law 799 = .ok (.iload_n 3, 1) := by decide +kernel
theorem dL_law_800 : decode cL_law 800 = .ok (.iconst 3, 1) := by decide +kernel
theorem dL_law_801 : decode cL_law 801 = .ok (.iadd, 1) := by decide +kernel
theorem dL_law_802 : decode cL_law 802 = .ok (.iaload, 1) := by decide +kernel
theorem dL_law_803 : decode cL_law 803 = .ok (.aload_n 0, 1) := by decide +kernel
theorem dL_law_804 : decode cL_law 804 = .ok (.iload_n 3, 1) := by decide +kernel
theorem dL_law_805 : decode cL_law 805 = .ok (.iconst 4, 1) := by decide +kernel
theorem dL_law_806 : decode cL_law 806 = .ok (.iadd, 1) := by decide +kernel
theorem dL_law_807 : decode cL_law 807 = .ok (.iaload, 1) := by decide +kernel
theorem dL_law_808 : decode cL_law 808 = .ok (.invokevirtual 100, 3) := by decide +kernel
theorem dL_law_811 : decode cL_law 811 = .ok (.if_icmp .eq 266, 3) := by decide +kernel
theorem dL_law_814 : decode cL_law 814 = .ok (.iconst 0, 1) := by decide +kernel
theorem dL_law_815 : decode cL_law 815 = .ok (.ireturn, 1) := by decide +kernel
theorem dL_law_816 : decode cL_law 816 = .ok (.aload_n 1, 1) := by decide +kernel
theorem dL_law_817 : decode cL_law 817 = .ok (.invokevirtual 101, 3) := by decide +kernel
theorem dL_law_820 : decode cL_law 820 = .ok (.aload_n 2, 1) := by decide +kernel
theorem dL_law_821 : decode cL_law 821 = .ok (.invokevirtual 104, 3) := by decide +kernel
theorem dL_law_824 : decode cL_law 824 = .ok (.if_icmp .eq 253, 3) := by decide +kernel
theorem dL_law_827 : decode cL_law 827 = .ok (.iconst 0, 1) := by decide +kernel
theorem dL_law_828 : decode cL_law 828 = .ok (.ireturn, 1) := by decide +kernel
theorem dL_law_829 : decode cL_law 829 = .ok (.aload_n 1, 1) := by decide +kernel
theorem dL_law_830 : decode cL_law 830 = .ok (.invokevirtual 105, 3) := by decide +kernel
theorem dL_law_833 : decode cL_law 833 = .ok (.aload_n 2, 1) := by decide +kernel
theorem dL_law_834 : decode cL_law 834 = .ok (.invokevirtual 108, 3) := by decide +kernel
theorem dL_law_837 : decode cL_law 837 = .ok (.if_icmp .eq 240, 3) := by decide +kernel
theorem dL_law_840 : decode cL_law 840 = .ok (.iconst 0, 1) := by decide +kernel
theorem dL_law_841 : decode cL_law 841 = .ok (.ireturn, 1) := by decide +kernel
theorem dL_law_842 : decode cL_law 842 = .ok (.aload_n 1, 1) := by decide +kernel
theorem dL_law_843 : decode cL_law 843 = .ok (.aload_n 0, 1) := by decide +kernel
theorem dL_law_844 : decode cL_law 844 = .ok (.iload_n 3, 1) := by decide +kernel
theorem dL_law_845 : decode cL_law 845 = .ok (.iconst 1, 1) := by decide +kernel
theorem dL_law_846 : decode cL_law 846 = .ok (.iadd, 1) := by decide +kernel
theorem dL_law_847 : decode cL_law 847 = .ok (.iaload, 1) := by decide +kernel
theorem dL_law_848 : decode cL_law 848 = .ok (.aload_n 0, 1) := by decide +kernel
theorem dL_law_849 : decode cL_law 849 = .ok (.iload_n 3, 1) := by decide +kernel
theorem dL_law_850 : decode cL_law 850 = .ok (.iconst 2, 1) := by decide +kernel
theorem dL_law_851 : decode cL_law 851 = .ok (.iadd, 1) := by decide +kernel
theorem dL_law_852 : decode cL_law 852 = .ok (.iaload, 1) := by decide +kernel
theorem dL_law_853 : decode cL_law 853 = .ok (.aload_n 0, 1) := by decide +kernel
theorem dL_law_854 : decode cL_law 854 = .ok (.iload_n 3, 1) := by decide +kernel
theorem dL_law_855 : decode cL_law 855 = .ok (.iconst 3, 1) := by decide +kernel
theorem dL_law_856 : decode cL_law 856 = .ok (.iadd, 1) := by decide +kernel
theorem dL_law_857 : decode cL_law 857 = .ok (.iaload, 1) := by decide +kernel
theorem dL_law_858 : decode cL_law 858 = .ok (.aload_n 0, 1) := by decide +kernel
theorem dL_law_859 : decode cL_law 859 = .ok (.iload_n 3, 1) := by decide +kernel
theorem dL_law_860 : decode cL_law 860 = .ok (.iconst 4, 1) := by decide +kernel
theorem dL_law_861 : decode cL_law 861 = .ok (.iadd, 1) := by decide +kernel
theorem dL_law_862 : decode cL_law 862 = .ok (.iaload, 1) := by decide +kernel
theorem dL_law_863 : decode cL_law 863 = .ok (.invokevirtual 109, 3) := by decide +kernel
theorem dL_law_866 : decode cL_law 866 = .ok (.aload_n 2, 1) := by decide +kernel
theorem dL_law_867 : decode cL_law 867 = .ok (.aload_n 0, 1) := by decide +kernel
theorem dL_law_868 : decode cL_law 868 = .ok (.iload_n 3, 1) := by decide +kernel
theorem dL_law_869 : decode cL_law 869 = .ok (.iconst 1, 1) := by decide +kernel
theorem dL_law_870 : decode cL_law 870 = .ok (.iadd, 1) := by decide +kernel
theorem dL_law_871 : decode cL_law 871 = .ok (.iaload, 1) := by decide +kernel
theorem dL_law_872 : decode cL_law 872 = .ok (.aload_n 0, 1) := by decide +kernel
theorem dL_law_873 : decode cL_law 873 = .ok (.iload_n 3, 1) := by decide +kernel
theorem dL_law_874 : decode cL_law 874 = .ok (.iconst 2, 1) := by decide +kernel
theorem dL_law_875 : decode cL_law 875 = .ok (.iadd, 1) := by decide +kernel
theorem dL_law_876 : decode cL_law 876 = .ok (.iaload, 1) := by decide +kernel
theorem dL_law_877 : decode cL_law 877 = .ok (.aload_n 0, 1) := by decide +kernel
theorem dL_law_878 : decode cL_law 878 = .ok (.iload_n 3, 1) := by decide +kernel
theorem dL_law_879 : decode cL_law 879 = .ok (.iconst 3, 1) := by decide +kernel
theorem dL_law_880 : decode cL_law 880 = .ok (.iadd, 1) := by decide +kernel
theorem dL_law_881 : decode cL_law 881 = .ok (.iaload, 1) := by decide +kernel
theorem dL_law_882 : decode cL_law 882 = .ok (.aload_n 0, 1) := by decide +kernel
theorem dL_law_883 : decode cL_law 883 = .ok (.iload_n 3, 1) := by decide +kernel
theorem dL_law_884 : decode cL_law 884 = .ok (.iconst 4, 1) := by decide +kernel
theorem dL_law_885 : decode cL_law 885 = .ok (.iadd, 1) := by decide +kernel
theorem dL_law_886 : decode cL_law 886 = .ok (.iaload, 1) := by decide +kernel
theorem dL_law_887 : decode cL_law 887 = .ok (.invokevirtual 112, 3) := by decide +kernel
theorem dL_law_890 : decode cL_law 890 = .ok (.if_icmp .eq 187, 3) := by decide +kernel
theorem dL_law_893 : decode cL_law 893 = .ok (.iconst 0, 1) := by decide +kernel
theorem dL_law_894 : decode cL_law 894 = .ok (.ireturn, 1) := by decide +kernel
theorem dL_law_895 : decode cL_law 895 = .ok (.aload_n 1, 1) := by decide +kernel
theorem dL_law_896 : decode cL_law 896 = .ok (.aload_n 0, 1) := by decide +kernel
theorem dL_law_897 : decode cL_law 897 = .ok (.iload_n 3, 1) := by decide +kernel
theorem dL_law_898 : decode cL_law 898 = .ok (.iconst 1, 1) := by decide +kernel
theorem dL_law_899 : decode cL_law 899 = .ok (.iadd, 1) := by decide +kernel
theorem dL_law_900 : decode cL_law 900 = .ok (.iaload, 1) := by decide +kernel
theorem dL_law_901 : decode cL_law 901 = .ok (.aload_n 0, 1) := by decide +kernel
theorem dL_law_902 : decode cL_law 902 = .ok (.iload_n 3, 1) := by decide +kernel
theorem dL_law_903 : decode cL_law 903 = .ok (.iconst 2, 1) := by decide +kernel
theorem dL_law_904 : decode cL_law 904 = .ok (.iadd, 1) := by decide +kernel
theorem dL_law_905 : decode cL_law 905 = .ok (.iaload, 1) := by decide +kernel
theorem dL_law_906 : decode cL_law 906 = .ok (.aload_n 0, 1) := by decide +kernel
theorem dL_law_907 : decode cL_law 907 = .ok (.iload_n 3, 1) := by decide +kernel
theorem dL_law_908 : decode cL_law 908 = .ok (.iconst 3, 1) := by decide +kernel
theorem dL_law_909 : decode cL_law 909 = .ok (.iadd, 1) := by decide +kernel
theorem dL_law_910 : decode cL_law 910 = .ok (.iaload, 1) := by decide +kernel
theorem dL_law_911 : decode cL_law 911 = .ok (.invokevirtual 113, 3) := by decide +kernel
theorem dL_law_914 : decode cL_law 914 = .ok (.aload_n 2, 1) := by decide +kernel
theorem dL_law_915 : decode cL_law 915 = .ok (.aload_n 0, 1) := by decide +kernel
theorem dL_law_916 : decode cL_law 916 = .ok (.iload_n 3, 1) := by decide +kernel
theorem dL_law_917 : decode cL_law 917 = .ok (.iconst 1, 1) := by decide +kernel
theorem dL_law_918 : decode cL_law 918 = .ok (.iadd, 1) := by decide +kernel
theorem dL_law_919 : decode cL_law 919 = .ok (.iaload, 1) := by decide +kernel
theorem dL_law_920 : decode cL_law 920 = .ok (.aload_n 0, 1) := by decide +kernel
theorem dL_law_921 : decode cL_law 921 = .ok (.iload_n 3, 1) := by decide +kernel
theorem dL_law_922 : decode cL_law 922 = .ok (.iconst 2, 1) := by decide +kernel
theorem dL_law_923 : decode cL_law 923 = .ok (.iadd, 1) := by decide +kernel
theorem dL_law_924 : decode cL_law 924 = .ok (.iaload, 1) := by decide +kernel
theorem dL_law_925 : decode cL_law 925 = .ok (.aload_n 0, 1) := by decide +kernel
theorem dL_law_926 : decode cL_law 926 = .ok (.iload_n 3, 1) := by decide +kernel
theorem dL_law_927 : decode cL_law 927 = .ok (.iconst 3, 1) := by decide +kernel
theorem dL_law_928 : decode cL_law 928 = .ok (.iadd, 1) := by decide +kernel
theorem dL_law_929 : decode cL_law 929 = .ok (.iaload, 1) := by decide +kernel
theorem dL_law_930 : decode cL_law 930 = .ok (.invokevirtual 116, 3) := by decide +kernel
theorem dL_law_933 : decode cL_law 933 = .ok (.if_icmp .eq 144, 3) := by decide +kernel
theorem dL_law_936 : decode cL_law 936 = .ok (.iconst 0, 1) := by decide +kernel
theorem dL_law_937 : decode cL_law 937 = .ok (.ireturn, 1) := by decide +kernel
theorem dL_law_938 : decode cL_law 938 = .ok (.aload_n 1, 1) := by decide +kernel
theorem dL_law_939 : decode cL_law 939 = .ok (.aload_n 0, 1) := by decide +kernel
theorem dL_law_940 : decode cL_law 940 = .ok (.iload_n 3, 1) := by decide +kernel
theorem dL_law_941 : decode cL_law 941 = .ok (.iconst 1, 1) := by decide +kernel
theorem dL_law_942 : decode cL_law 942 = .ok (.iadd, 1) := by decide +kernel
theorem dL_law_943 : decode cL_law 943 = .ok (.iaload, 1) := by decide +kernel
theorem dL_law_944 : decode cL_law 944 = .ok (.invokevirtual 117, 3) := by decide +kernel
theorem dL_law_947 : decode cL_law 947 = .ok (.aload_n 2, 1) := by decide +kernel
theorem dL_law_948 : decode cL_law 948 = .ok (.aload_n 0, 1) := by decide +kernel
theorem dL_law_949 : decode cL_law 949 = .ok (.iload_n 3, 1) := by decide +kernel
theorem dL_law_950 : decode cL_law 950 = .ok (.iconst 1, 1) := by decide +kernel
theorem dL_law_951 : decode cL_law 951 = .ok (.iadd, 1) := by decide +kernel
theorem dL_law_952 : decode cL_law 952 = .ok (.iaload, 1) := by decide +kernel
theorem dL_law_953 : decode cL_law 953 = .ok (.invokevirtual 120, 3) := by decide +kernel
theorem dL_law_956 : decode cL_law 956 = .ok (.if_icmp .eq 121, 3) := by decide +kernel
theorem dL_law_959 : decode cL_law 959 = .ok (.iconst 0, 1) := by decide +kernel
theorem dL_law_960 : decode cL_law 960 = .ok (.ireturn, 1) := by decide +kernel
theorem dL_law_961 : decode cL_law 961 = .ok (.aload_n 1, 1) := by decide +kernel
theorem dL_law_962 : decode cL_law 962 = .ok (.aload_n 0, 1) := by decide +kernel
theorem dL_law_963 : decode cL_law 963 = .ok (.iload_n 3, 1) := by decide +kernel
theorem dL_law_964 : decode cL_law 964 = .ok (.iconst 1, 1) := by decide +kernel
theorem dL_law_965 : decode cL_law 965 = .ok (.iadd, 1) := by decide +kernel
theorem dL_law_966 : decode cL_law 966 = .ok (.iaload, 1) := by decide +kernel
theorem dL_law_967 : decode cL_law 967 = .ok (.aload_n 0, 1) := by decide +kernel
theorem dL_law_968 : decode cL_law 968 = .ok (.iload_n 3, 1) := by decide +kernel
theorem dL_law_969 : decode cL_law 969 = .ok (.iconst 2, 1) := by decide +kernel
theorem dL_law_970 : decode cL_law 970 = .ok (.iadd, 1) := by decide +kernel
theorem dL_law_971 : decode cL_law 971 = .ok (.iaload, 1) := by decide +kernel
theorem dL_law_972 : decode cL_law 972 = .ok (.aload_n 0, 1) := by decide +kernel
theorem dL_law_973 : decode cL_law 973 = .ok (.iload_n 3, 1) := by decide +kernel
theorem dL_law_974 : decode cL_law 974 = .ok (.iconst 3, 1) := by decide +kernel
theorem dL_law_975 : decode cL_law 975 = .ok (.iadd, 1) := by decide +kernel
theorem dL_law_976 : decode cL_law 976 = .ok (.iaload, 1) := by decide +kernel
theorem dL_law_977 : decode cL_law 977 = .ok (.aload_n 0, 1) := by decide +kernel
theorem dL_law_978 : decode cL_law 978 = .ok (.iload_n 3, 1) := by decide +kernel
theorem dL_law_979 : decode cL_law 979 = .ok (.iconst 4, 1) := by decide +kernel
theorem dL_law_980 : decode cL_law 980 = .ok (.iadd, 1) := by decide +kernel
theorem dL_law_981 : decode cL_law 981 = .ok (.iaload, 1) := by decide +kernel
theorem dL_law_982 : decode cL_law 982 = .ok (.invokevirtual 121, 3) := by decide +kernel
theorem dL_law_985 : decode cL_law 985 = .ok (.aload_n 2, 1) := by decide +kernel
theorem dL_law_986 : decode cL_law 986 = .ok (.aload_n 0, 1) := by decide +kernel
theorem dL_law_987 : decode cL_law 987 = .ok (.iload_n 3, 1) := by decide +kernel
theorem dL_law_988 : decode cL_law 988 = .ok (.iconst 1, 1) := by decide +kernel
theorem dL_law_989 : decode cL_law 989 = .ok (.iadd, 1) := by decide +kernel
theorem dL_law_990 : decode cL_law 990 = .ok (.iaload, 1) := by decide +kernel
theorem dL_law_991 : decode cL_law 991 = .ok (.aload_n 0, 1) := by decide +kernel
theorem dL_law_992 : decode cL_law 992 = .ok (.iload_n 3, 1) := by decide +kernel
theorem dL_law_993 : decode cL_law 993 = .ok (.iconst 2, 1) := by decide +kernel
theorem dL_law_994 : decode cL_law 994 = .ok (.iadd, 1) := by decide +kernel
theorem dL_law_995 : decode cL_law 995 = .ok (.iaload, 1) := by decide +kernel
theorem dL_law_996 : decode cL_law 996 = .ok (.aload_n 0, 1) := by decide +kernel
theorem dL_law_997 : decode cL_law 997 = .ok (.iload_n 3, 1) := by decide +kernel
theorem dL_law_998 : decode cL_law 998 = .ok (.iconst 3, 1) := by decide +kernel
theorem dL_law_999 : decode cL_law 999 = .ok (.iadd, 1) := by decide +kernel
theorem dL_law_1000 : decode cL_law 1000 = .ok (.iaload, 1) := by decide +kernel
theorem dL_law_1001 : decode cL_law 1001 = .ok (.aload_n 0, 1) := by decide +kernel
theorem dL_law_1002 : decode cL_law 1002 = .ok (.iload_n 3, 1) := by decide +kernel
theorem dL_law_1003 : decode cL_law 1003 = .ok (.iconst 4, 1) := by decide +kernel
theorem dL_law_1004 : decode cL_law 1004 = .ok (.iadd, 1) := by decide +kernel
theorem dL_law_1005 : decode cL_law 1005 = .ok (.iaload, 1) := by decide +kernel
theorem dL_law_1006 : decode cL_law 1006 = .ok (.invokevirtual 124, 3) := by decide +kernel
theorem dL_law_1009 : decode cL_law 1009 = .ok (.if_icmp .eq 68, 3) := by decide +kernel
theorem dL_law_1012 : decode cL_law 1012 = .ok (.iconst 0, 1) := by decide +kernel
theorem dL_law_1013 : decode cL_law 1013 = .ok (.ireturn, 1) := by decide +kernel
theorem dL_law_1014 : decode cL_law 1014 = .ok (.aload_n 1, 1) := by decide +kernel
theorem dL_law_1015 : decode cL_law 1015 = .ok (.aload_n 0, 1) := by decide +kernel
theorem dL_law_1016 : decode cL_law 1016 = .ok (.iload_n 3, 1) := by decide +kernel
theorem dL_law_1017 : decode cL_law 1017 = .ok (.iconst 1, 1) := by decide +kernel
theorem dL_law_1018 : decode cL_law 1018 = .ok (.iadd, 1) := by decide +kernel
theorem dL_law_1019 : decode cL_law 1019 = .ok (.iaload, 1) := by decide +kernel
theorem dL_law_1020 : decode cL_law 1020 = .ok (.aload_n 0, 1) := by decide +kernel
theorem dL_law_1021 : decode cL_law 1021 = .ok (.iload_n 3, 1) := by decide +kernel
theorem dL_law_1022 : decode cL_law 1022 = .ok (.iconst 2, 1) := by decide +kernel
theorem dL_law_1023 : decode cL_law 1023 = .ok (.iadd, 1) := by decide +kernel
theorem dL_law_1024 : decode cL_law 1024 = .ok (.iaload, 1) := by decide +kernel
theorem dL_law_1025 : decode cL_law 1025 = .ok (.aload_n 0, 1) := by decide +kernel
theorem dL_law_1026 : decode cL_law 1026 = .ok (.iload_n 3, 1) := by decide +kernel
theorem dL_law_1027 : decode cL_law 1027 = .ok (.iconst 3, 1) := by decide +kernel
theorem dL_law_1028 : decode cL_law 1028 = .ok (.iadd, 1) := by decide +kernel
theorem dL_law_1029 : decode cL_law 1029 = .ok (.iaload, 1) := by decide +kernel
theorem dL_law_1030 : decode cL_law 1030 = .ok (.aload_n 0, 1) := by decide +kernel
theorem dL_law_1031 : decode cL_law 1031 = .ok (.iload_n 3, 1) := by decide +kernel
theorem dL_law_1032 : decode cL_law 1032 = .ok (.iconst 4, 1) := by decide +kernel
theorem dL_law_1033 : decode cL_law 1033 = .ok (.iadd, 1) := by decide +kernel
theorem dL_law_1034 : decode cL_law 1034 = .ok (.iaload, 1) := by decide +kernel
theorem dL_law_1035 : decode cL_law 1035 = .ok (.aload_n 0, 1) := by decide +kernel
theorem dL_law_1036 : decode cL_law 1036 = .ok (.iload_n 3, 1) := by decide +kernel
theorem dL_law_1037 : decode cL_law 1037 = .ok (.iconst 5, 1) := by decide +kernel
theorem dL_law_1038 : decode cL_law 1038 = .ok (.iadd, 1) := by decide +kernel
theorem dL_law_1039 : decode cL_law 1039 = .ok (.iaload, 1) := by decide +kernel
theorem dL_law_1040 : decode cL_law 1040 = .ok (.invokevirtual 125, 3) := by decide +kernel
theorem dL_law_1043 : decode cL_law 1043 = .ok (.aload_n 2, 1) := by decide +kernel
theorem dL_law_1044 : decode cL_law 1044 = .ok (.aload_n 0, 1) := by decide +kernel
theorem dL_law_1045 : decode cL_law 1045 = .ok (.iload_n 3, 1) := by decide +kernel
theorem dL_law_1046 : decode cL_law 1046 = .ok (.iconst 1, 1) := by decide +kernel
theorem dL_law_1047 : decode cL_law 1047 = .ok (.iadd, 1) := by decide +kernel
theorem dL_law_1048 : decode cL_law 1048 = .ok (.iaload, 1) := by decide +kernel
theorem dL_law_1049 : decode cL_law 1049 = .ok (.aload_n 0, 1) := by decide +kernel
theorem dL_law_1050 : decode cL_law 1050 = .ok (.iload_n 3, 1) := by decide +kernel
theorem dL_law_1051 : decode cL_law 1051 = .ok (.iconst 2, 1) := by decide +kernel
theorem dL_law_1052 : decode cL_law 1052 = .ok (.iadd, 1) := by decide +kernel
theorem dL_law_1053 : decode cL_law 1053 = .ok (.iaload, 1) := by decide +kernel
theorem dL_law_1054 : decode cL_law 1054 = .ok (.aload_n 0, 1) := by decide +kernel
theorem dL_law_1055 : decode cL_law 1055 = .ok (.iload_n 3, 1) := by decide +kernel
theorem dL_law_1056 : decode cL_law 1056 = .ok (.iconst 3, 1) := by decide +kernel
theorem dL_law_1057 : decode cL_law 1057 = .ok (.iadd, 1) := by decide +kernel
theorem dL_law_1058 : decode cL_law 1058 = .ok (.iaload, 1) := by decide +kernel
theorem dL_law_1059 : decode cL_law 1059 = .ok (.aload_n 0, 1) := by decide +kernel
theorem dL_law_1060 : decode cL_law 1060 = .ok (.iload_n 3, 1) := by decide +kernel
theorem dL_law_1061 : decode cL_law 1061 = .ok (.iconst 4, 1) := by decide +kernel
theorem dL_law_1062 : decode cL_law 1062 = .ok (.iadd, 1) := by decide +kernel
theorem dL_law_1063 : decode cL_law 1063 = .ok (.iaload, 1) := by decide +kernel
theorem dL_law_1064 : decode cL_law 1064 = .ok (.aload_n 0, 1) := by decide +kernel
theorem dL_law_1065 : decode cL_law 1065 = .ok (.iload_n 3, 1) := by decide +kernel
theorem dL_law_1066 : decode cL_law 1066 = .ok (.iconst 5, 1) := by decide +kernel
theorem dL_law_1067 : decode cL_law 1067 = .ok (.iadd, 1) := by decide +kernel
theorem dL_law_1068 : decode cL_law 1068 = .ok (.iaload, 1) := by decide +kernel
theorem dL_law_1069 : decode cL_law 1069 = .ok (.invokevirtual 129, 3) := by decide +kernel
theorem dL_law_1072 : decode cL_law 1072 = .ok (.if_icmp .eq 5, 3) := by decide +kernel
theorem dL_law_1075 : decode cL_law 1075 = .ok (.iconst 0, 1) := by decide +kernel
theorem dL_law_1076 : decode cL_law 1076 = .ok (.ireturn, 1) := by decide +kernel
theorem dL_law_1077 : decode cL_law 1077 = .ok (.iinc 3 6, 3) := by decide +kernel
theorem dL_law_1080 : decode cL_law 1080 = .ok (.goto (-1062), 3) := by decide +kernel
theorem dL_law_1083 : decode cL_law 1083 = .ok (.iconst 1, 1) := by decide +kernel
theorem dL_law_1084 : decode cL_law 1084 = .ok (.ireturn, 1) := by decide +kernel
end
section
/-- the objects, in the order of their making: kind, how many places, the references -/
def s_tab : List (Nat × Nat × List Int) := [(6, 13, [1, 11, 0, 21, 27, 28, 54, 80, 0, 0, 0, 0, 0]), (2, 7, [2, 6, 10, 0, 0, 0, 0]), (9, 3, [3, 4, 5]), (8, 3, []), (8, 3, []), (8, 3, []), (9, 3, [7, 8, 9]), (8, 14, []), (8, 14, []), (8, 14, []), (8, 7, []), (2, 7, [12, 16, 20, 0, 0, 0, 0]), (9, 3, [13, 14, 15]), (8, 3, []), (8, 3, []), (8, 3, []), (9, 3, [17, 18, 19]), (8, 14, []), (8, 14, []), (8, 14, []), (8, 7, []), (5, 5, [22, 0, 23, 0, 0]), (8, 80, []), (9, 3, [24, 25, 26]), (8, 8, []), (8, 8, []), (8, 8, []), (12, 4, [106, 108, 110, 112]), (0, 16, [29, 30, 31, 32, 33, 0, 0, 0, 0, 0, 0, 0, 0, 0, 0, 0]), (10, 14, [34, 35, 36, 37, 38, 39, 40, 41, 42, 43, 44, 45, 46, 47]), (11, 3, [48, 50, 52]), (8, 7, []), (8, 14, []), (8, 2, []), (3, 11, [0, 0, 0, 0, 0, 0, 0, 0, 0, 0, 0]), (3, 11, [0, 0, 0, 0, 0, 0, 0, 0, 0, 0, 0]), (3, 11, [0, 0, 0, 0, 0, 0, 0, 0, 0, 0, 0]), (3, 11, [0, 0, 0, 0, 0, 0, 0, 0, 0, 0, 0]), (3, 11, [0, 0, 0, 0, 0, 0, 0, 0, 0, 0, 0]), (3, 11, [0, 0, 0, 0, 0, 0, 0, 0, 0, 0, 0]), (3, 11, [0, 0, 0, 0, 0, 0, 0, 0, 0, 0, 0]), (3, 11, [0, 0, 0, 0, 0, 0, 0, 0, 0, 0, 0]), (3, 11, [0, 0, 0, 0, 0, 0, 0, 0, 0, 0, 0]), (3, 11, [0, 0, 0, 0, 0, 0, 0, 0, 0, 0, 0]), (3, 11, [0, 0, 0, 0, 0, 0, 0, 0, 0, 0, 0]), (3, 11, [0, 0, 0, 0, 0, 0, 0, 0, 0, 0, 0]), (3, 11, [0, 0, 0, 0, 0, 0, 0, 0, 0, 0, 0]), (3, 11, [0, 0, 0, 0, 0, 0, 0, 0, 0, 0, 0]), (1, 6, [49, 0, 0, 0, 0, 0]), (8, 20, []), (1, 6, [51, 0, 0, 0, 0, 0]), (8, 20, []), (1, 6, [53, 0, 0, 0, 0, 0]), (8, 20, []), (0, 16, [55, 56, 57, 58, 59, 0, 0, 0, 0, 0, 0, 0, 0, 0, 0, 0]), (10, 14, [60, 61, 62, 63, 64, 65, 66, 67, 68, 69, 70, 71, 72, 73]), (11, 3, [74, 76, 78]), (8, 7, []), (8, 14, []), (8, 2, []), (3, 11, [0, 0, 0, 0, 0, 0, 0, 0, 0, 0, 0]), (3, 11, [0, 0, 0, 0, 0, 0, 0, 0, 0, 0, 0]), (3, 11, [0, 0, 0, 0, 0, 0, 0, 0, 0, 0, 0]), (3, 11, [0, 0, 0, 0, 0, 0, 0, 0, 0, 0, 0]), (3, 11, [0, 0, 0, 0, 0, 0, 0, 0, 0, 0, 0]), (3, 11, [0, 0, 0, 0, 0, 0, 0, 0, 0, 0, 0]), (3, 11, [0, 0, 0, 0, 0, 0, 0, 0, 0, 0, 0]), (3, 11, [0, 0, 0, 0, 0, 0, 0, 0, 0, 0, 0]), (3, 11, [0, 0, 0, 0, 0, 0, 0, 0, 0, 0, 0]), (3, 11, [0, 0, 0, 0, 0, 0, 0, 0, 0, 0, 0]), (3, 11, [0, 0, 0, 0, 0, 0, 0, 0, 0, 0, 0]), (3, 11, [0, 0, 0, 0, 0, 0, 0, 0, 0, 0, 0]), (3, 11, [0, 0, 0, 0, 0, 0, 0, 0, 0, 0, 0]), (3, 11, [0, 0, 0, 0, 0, 0, 0, 0, 0, 0, 0]), (1, 6, [75, 0, 0, 0, 0, 0]), (8, 20, []), (1, 6, [77, 0, 0, 0, 0, 0]), (8, 20, []), (1, 6, [79, 0, 0, 0, 0, 0]), (8, 20, []), (0, 16, [81, 82, 83, 84, 85, 0, 0, 0, 0, 0, 0, 0, 0, 0, 0, 0]), (10, 14, [86, 87, 88, 89, 90, 91, 92, 93, 94, 95, 96, 97, 98, 99]), (11, 3, [100, 102, 104]), (8, 7, []), (8, 14, []), (8, 2, []), (3, 11, [0, 0, 0, 0, 0, 0, 0, 0, 0, 0, 0]), (3, 11, [0, 0, 0, 0, 0, 0, 0, 0, 0, 0, 0]), (3, 11, [0, 0, 0, 0, 0, 0, 0, 0, 0, 0, 0]), (3, 11, [0, 0, 0, 0, 0, 0, 0, 0, 0, 0, 0]), (3, 11, [0, 0, 0, 0, 0, 0, 0, 0, 0, 0, 0]), (3, 11, [0, 0, 0, 0, 0, 0, 0, 0, 0, 0, 0]), (3, 11, [0, 0, 0, 0, 0, 0, 0, 0, 0, 0, 0]), (3, 11, [0, 0, 0, 0, 0, 0, 0, 0, 0, 0, 0]), (3, 11, [0, 0, 0, 0, 0, 0, 0, 0, 0, 0, 0]), (3, 11, [0, 0, 0, 0, 0, 0, 0, 0, 0, 0, 0]), (3, 11, [0, 0, 0, 0, 0, 0, 0, 0, 0, 0, 0]), (3, 11, [0, 0, 0, 0, 0, 0, 0, 0, 0, 0, 0]), (3, 11, [0, 0, 0, 0, 0, 0, 0, 0, 0, 0, 0]), (3, 11, [0, 0, 0, 0, 0, 0, 0, 0, 0, 0, 0]), (1, 6, [101, 0, 0, 0, 0, 0]), (8, 20, []), (1, 6, [103, 0, 0, 0, 0, 0]), (8, 20, []), (1, 6, [105, 0, 0, 0, 0, 0]), (8, 20, []), (4, 4, [107, 0, 0, 0]), (8, 16, []), (4, 4, [109, 0, 0, 0]), (8, 16, []), (4, 4, [111, 0, 0, 0]), (8, 16, []), (4, 4, [113, 0, 0, 0]), (8, 16, []), (7, 44, [115, 0, 116, 0, 0, 0, 117, 118, 0, 0, 0, 119, 120, 121, 122, 0, 0, 0, 123, 124, 125, 126, 127, 128, 129, 130, 131, 132, 133, 134, 135, 0, 0, 0, 0, 136, 137, 138, 139, 0, 140, 141, 142, 143]), (8, 7, []), (8, 9, []), (8, 42, []), (8, 80, []), (8, 24, []), (8, 3, []), (8, 3, []), (8, 3, []), (8, 14, []), (8, 14, []), (8, 14, []), (8, 14, []), (8, 14, []), (8, 14, []), (8, 14, []), (8, 14, []), (8, 14, []), (8, 14, []), (8, 14, []), (8, 3, []), (8, 3, []), (8, 400, []), (8, 100, []), (8, 6000, []), (8, 80, []), (8, 4, []), (8, 4, []), (8, 64, []), (8, 16, [])]
abbrev s_NM : Int := 144
def s_at (k : Int) : Nat × Nat × List Int := s_tab.getD k.toNat (99, 0, [])
def s_kind (k : Int) : Nat := (s_at k).1
def s_len (k : Int) : Int := ((s_at k).2.1 : Int)
def s_rf (k j : Int) : Int := (s_at k).2.2.getD j.toNat 0
def s_ftyL : List (List Nat) := [[10, 11, 8, 8, 8, 20, 20, 20, 20, 20, 20, 20, 20, 20, 20, 20], [8, 20, 20, 20, 20, 20], [9, 9, 8, 20, 20, 20, 20], [20, 20, 20, 20, 20, 20, 20, 20, 20, 20, 22], [8, 22, 20, 20], [8, 20, 9, 20, 20], [2, 2, 22, 5, 12, 0, 0, 0, 22, 20, 20, 20, 20], [8, 20, 8, 20, 20, 20, 8, 8, 20, 20, 22, 8, 8, 8, 8, 20, 20, 20, 8, 8, 8, 8, 8, 8, 8, 8, 8, 8, 8, 8, 8, 20, 20, 20, 20, 8, 8, 8, 8, 22, 8, 8, 8, 8]]
def s_fty (c j : Nat) : Nat := (s_ftyL.getD c []).getD j 20
def s_aty (c : Nat) : Nat := if c = 9 then 8 else if c = 10 then 3 else if c = 11 then 1 else if c = 12 then 4 else 20
def s_isr (k : Int) (j : Nat) : Bool := if s_kind k < 8 then s_fty (s_kind k) j < 20 else s_aty (s_kind k) < 20
def s_stat : List (String × List Int) := [("STAIR_LOW", [3, 0, 1]), ("STAIR_HIGH", [10, 2, 2]), ("PERSON_HIGH", [99, 1, 4]), ("SETTING_LOW", [0, 1, 1, 2, 1, 0, 0]), ("SETTING_HIGH", [1, 9, 3, 40, 9, 9, 10]), ("SETTING_FIRST", [1, 4, 2, 12, 3, 2, 5]), ("WEIGHT", [2, 2, 4, 1, 2]), ("THREES", [1, 3, 9, 27]), ("TENS", [1, 10, 100])]
def s_sname (n : Nat) : String := (s_stat.getD n ("", [])).1
def s_slen (n : Nat) : Int := ((s_stat.getD n ("", [])).2.length : Int)
def s_sv (n : Nat) (j : Int) : Int := (s_stat.getD n ("", [])).2.getD j.toNat 0
end
section
/-! THE MEANING OF CODE as what it asks of its start (each word takes what must hold behind it), over one fixed world of cells; then: code that is laid like a word does what the word says. -/
abbrev jLo : Type := Nat → Int
abbrev jMm : Type := Int → Int → Int
abbrev jEx : Type := jLo → jMm → (Int → jMm → Prop) → Prop
abbrev jXs : Type := jLo → jMm → (List Int → jMm → Prop) → Prop
abbrev jCn : Type := jLo → jMm → (jMm → Prop) → (jMm → Prop) → Prop
abbrev jSt : Type := jLo → jMm → (jLo → jMm → Prop) → (Int → jMm → Prop) → Prop
abbrev jMd : Type := List Int → jMm → (Int → jMm → Prop) → Prop
abbrev jBo : Type := Int → Int → (Int → Prop) → Prop
def ir (x : Int) : Prop := -2147483648 ≤ x ∧ x ≤ 2147483647
def lr (x : Int) : Prop := -9223372036854775808 ≤ x ∧ x ≤ 9223372036854775807
def jup (L : jLo) (i : Nat) (v : Int) : jLo := fun j => if j = i then v else L j
def jwr (M : jMm) (k j v : Int) : jMm := fun a b => if a = k ∧ b = j then v else M a b
def jwR (M : jMm) (k j n : Int) (f : Int → Int) : jMm := fun a b => if a = k ∧ j ≤ b ∧ b < j + n then f b else M a b
-- numbers
def b_or (x y : Int) : Int := (Int32.ofInt x ||| Int32.ofInt y).toInt
def b_and (x y : Int) : Int := (Int32.ofInt x &&& Int32.ofInt y).toInt
def b_shl (x y : Int) : Int := (Int32.ofInt x <<< (Int32.ofInt y &&& 31)).toInt
def b_shr (x y : Int) : Int := (Int32.ofInt x >>> (Int32.ofInt y &&& 31)).toInt
def u_i2b (x : Int) : Int := (Int32.ofInt x).toInt8.toInt32.toInt
def u_i2s (x : Int) : Int := (Int32.ofInt x).toInt16.toInt32.toInt
def u_i2c (x : Int) : Int := ((Int32.ofInt x).toUInt32 % 65536).toInt32.toInt
def u_l2i (x : Int) : Int := (Int64.ofInt x).toInt32.toInt
def l_and (x y : Int) : Int := (Int64.ofInt x &&& Int64.ofInt y).toInt
def l_or (x y : Int) : Int := (Int64.ofInt x ||| Int64.ofInt y).toInt
def l_shr (x y : Int) : Int := (Int64.ofInt x >>> ((Int32.ofInt y).toInt64 &&& 63)).toInt
def l_shl (x y : Int) : Int := (Int64.ofInt x <<< ((Int32.ofInt y).toInt64 &&& 63)).toInt
def boAdd : jBo := fun x y Q => ir (x + y) ∧ Q (x + y)
def boSub : jBo := fun x y Q => ir (x - y) ∧ Q (x - y)
def boMul : jBo := fun x y Q => ir (x * y) ∧ Q (x * y)
def boDiv : jBo := fun x y Q => (0 ≤ x ∧ 0 < y) ∧ Q (x / y)
def boRem : jBo := fun x y Q => (0 ≤ x ∧ 0 < y) ∧ Q (x % y)
def boOr : jBo := fun x y Q => Q (b_or x y)
def boAnd : jBo := fun x y Q => Q (b_and x y)
def boShl : jBo := fun x y Q => Q (b_shl x y)
def boShr : jBo := fun x y Q => Q (b_shr x y)
def boMax : jBo := fun x y Q => Q (max x y)
def boMin : jBo := fun x y Q => Q (min x y)
def boLand : jBo := fun x y Q => Q (l_and x y)
def boLor : jBo := fun x y Q => Q (l_or x y)
def boLshr : jBo := fun x y Q => Q (l_shr x y)
def boLshl : jBo := fun x y Q => Q (l_shl x y)
def boLadd : jBo := fun x y Q => lr (x + y) ∧ Q (x + y)
-- words of value
def xC (n : Int) : jEx := fun _ M Q => Q n M
def xV (i : Nat) : jEx := fun L M Q => Q (L i) M
def xGf (o : jEx) (j : Int) : jEx := fun L M Q => o L M fun k M => Q (M k j) M
def xGr (o : jEx) (j : Int) : jEx := fun L M Q => o L M fun k M => Q (s_rf k j) M
def xAl (o i : jEx) : jEx := fun L M Q => o L M fun k M => i L M fun x M => (0 ≤ x ∧ x < s_len k) ∧ Q (M k x) M
def xAr (o i : jEx) : jEx := fun L M Q => o L M fun k M => i L M fun x M => (0 ≤ x ∧ x < s_len k) ∧ Q (s_rf k x) M
def xSt (n : Nat) (i : jEx) : jEx := fun L M Q => i L M fun x M => (0 ≤ x ∧ x < s_slen n) ∧ Q (s_sv n x) M
def xLen (o : jEx) : jEx := fun L M Q => o L M fun k M => Q (s_len k) M
def xBin (b : jBo) (a c : jEx) : jEx := fun L M Q => a L M fun x M => c L M fun y M => b x y fun v => Q v M
def xUn (u : Int → Int) (a : jEx) : jEx := fun L M Q => a L M fun x M => Q (u x) M
def xNeg (a : jEx) : jEx := fun L M Q => a L M fun x M => ir (-x) ∧ Q (-x) M
def xTern (c : jCn) (a b : jEx) : jEx := fun L M Q => c L M (fun M => a L M Q) (fun M => b L M Q)
def xsN : jXs := fun _ M Q => Q [] M
def xsC (e : jEx) (es : jXs) : jXs := fun L M Q => e L M fun v M => es L M fun vs M => Q (v :: vs) M
def xCall (f : jMd) (es : jXs) : jEx := fun L M Q => es L M fun vs M => f vs M Q
-- words of truth
def kR (r : Int → Int → Prop) (a b : jEx) : jCn := fun L M T F => a L M fun x M => b L M fun y M => (r x y → T M) ∧ (¬ r x y → F M)
def kZ (r : Int → Int → Prop) (a : jEx) : jCn := fun L M T F => a L M fun x M => (r x 0 → T M) ∧ (¬ r x 0 → F M)
def kAnd (a b : jCn) : jCn := fun L M T F => a L M (fun M => b L M T F) F
def kOr (a b : jCn) : jCn := fun L M T F => a L M T (fun M => b L M T F)
def kNot (a : jCn) : jCn := fun L M T F => a L M F T
-- words of deed
def tSkip : jSt := fun L M N _ => N L M
def tSeq (a b : jSt) : jSt := fun L M N R => a L M (fun L M => b L M N R) R
def tIf (c : jCn) (a b : jSt) : jSt := fun L M N R => c L M (fun M => a L M N R) (fun M => b L M N R)
def tSet (i : Nat) (e : jEx) : jSt := fun L M N _ => e L M fun v M => N (jup L i v) M
def tInc (i : Nat) (n : Int) : jSt := fun L M N _ => ir (L i + n) ∧ N (jup L i (L i + n)) M
def tPut (o : jEx) (j : Int) (e : jEx) : jSt := fun L M N _ => o L M fun k M => e L M fun v M => N L (jwr M k j v)
def tPutZ (o : jEx) (j : Int) (e : jEx) : jSt := fun L M N _ => o L M fun k M => e L M fun v M => (v = 0 ∨ v = 1) ∧ N L (jwr M k j v)
def tPutO (b : jBo) (o : jEx) (j : Int) (e : jEx) : jSt := fun L M N _ => o L M fun k M => e L M fun v M1 => b (M k j) v fun r => N L (jwr M1 k j r)
def tAst (o i e : jEx) : jSt := fun L M N _ => o L M fun k M => i L M fun x M => e L M fun v M => (0 ≤ x ∧ x < s_len k) ∧ N L (jwr M k x v)
def tAstO (b : jBo) (o i e : jEx) : jSt := fun L M N _ => o L M fun k M => i L M fun x M => (0 ≤ x ∧ x < s_len k) ∧ e L M fun v M1 => b (M k x) v fun r => N L (jwr M1 k x r)
def tDo (f : jMd) (es : jXs) : jSt := fun L M N _ => es L M fun vs M => f vs M fun _ M => N L M
def tRet (e : jEx) : jSt := fun L M _ R => e L M R
def tRetZ (e : jEx) : jSt := fun L M _ R => e L M fun v M => (v = 0 ∨ v = 1) ∧ R v M
def tRet0 : jSt := fun _ M _ R => R 0 M
def tWhN (c : jCn) (b : jSt) : Nat → jSt
  | 0 => fun _ _ _ _ => False
  | n + 1 => fun L M N R => c L M (fun M => b L M (fun L M => tWhN c b n L M N R) R) (fun M => N L M)
def tWh (c : jCn) (b : jSt) : jSt := fun L M N R => ∃ n, tWhN c b n L M N R
def tSwS (lo : Int) (ss : List jSt) (d : jSt) (v : Int) : jSt := match ss with
  | [] => d
  | s :: ss => fun L M N R => (v = lo → s L M N R) ∧ (¬ v = lo → tSwS (lo + 1) ss d v L M N R)
def tSw (lo : Int) (e : jEx) (ss : List jSt) (d : jSt) : jSt := fun L M N R => e L M fun v M => tSwS lo ss d v L M N R
def tCopy (a i b j n : jEx) : jSt := fun L M N _ => a L M fun k M => i L M fun x M => b L M fun h M => j L M fun y M => n L M fun z M => (0 ≤ x ∧ 0 ≤ y ∧ 0 ≤ z ∧ x + z ≤ s_len k ∧ y + z ≤ s_len h) ∧ N L (jwR M h y z (fun q => M k (q - y + x)))
-- a method
def jIn : List Nat → List Int → jLo
  | p :: ps, x :: xs => fun i => if i = p then x else jIn ps xs i
  | _, _ => fun _ => 0
def jMeth (ps : List Nat) (b : jSt) : jMd := fun xs M Q => b (jIn ps xs) M (fun _ _ => False) Q
end
section
/-! the world in the heap; an activation; code that keeps a word -/
abbrev jZ : Type := va_G × (Int → Nat) × Heap × (Nat → ClassId)
abbrev jAct : Type := Program × Launch × Env × Room × State × MethodId × Array Value × List Frame × Method × Code × Nat × Nat × (State → Prop)
/-- a method: name, code, locals, frames and words of room below it, the kind of its answer, that as a type, the kinds of what it takes, their places -/
abbrev jKm : Type := MethodName × ByteArray × Nat × Nat × Nat × Nat × Option FieldType × List Nat × List Nat
abbrev kmY (K : jKm) : MethodName := K.1
abbrev kmC (K : jKm) : ByteArray := K.2.1
abbrev kmN (K : jKm) : Nat := K.2.2.1
abbrev kmF (K : jKm) : Nat := K.2.2.2.1
abbrev kmW (K : jKm) : Nat := K.2.2.2.2.1
abbrev kmR (K : jKm) : Nat := K.2.2.2.2.2.1
abbrev kmT (K : jKm) : Option FieldType := K.2.2.2.2.2.2.1
abbrev kmA (K : jKm) : List Nat := K.2.2.2.2.2.2.2.1
abbrev kmP (K : jKm) : List Nat := K.2.2.2.2.2.2.2.2
abbrev jCt : Type := List (Nat × Nat)
def c_R (c : Nat) : String := (vwCl.getD c ("", fun _ => ("", "", "", false), 0)).1
def c_T (c : Nat) : u_T := (vwCl.getD c ("", fun _ => ("", "", "", false), 0)).2.1
def c_N (c : Nat) : Nat := (vwCl.getD c ("", fun _ => ("", "", "", false), 0)).2.2
theorem c_at {c : Nat} (h : c < 8) : vwCl[c]? = some (c_R c, c_T c, c_N c) := by
  match c, h with
  | 0, _ => rfl
  | 1, _ => rfl
  | 2, _ => rfl
  | 3, _ => rfl
  | 4, _ => rfl
  | 5, _ => rfl
  | 6, _ => rfl
  | 7, _ => rfl
def tG : List Cond := lw_tbl.filter goodWord
def nestW : List Cond := lw_tbl.filter (fun w => match w with | .methodLinkNest .. => true | .fieldLinkNest .. => true | _ => false)
def jtk (T : Nat) (v : Int) : Prop := if T = 21 then lr v else if T < 20 then 0 ≤ v ∧ v < s_NM ∧ s_kind v = T else if T = 22 then (v = 0 ∨ v = 1) else if T = 23 then v = 0 else ir v
def jcv (z : jZ) (T : Nat) (v : Int) : Value := if T = 21 then .long (Int64.ofInt v) else if T < 20 then .ref (z.2.1 v) else .int (Int32.ofInt v)
def jtks : List Nat → List Int → Prop
  | [], [] => True
  | T :: Ts, v :: vs => jtk T v ∧ jtks Ts vs
  | _, _ => False
def jcvs (z : jZ) : List Nat → List Int → List Value
  | T :: Ts, v :: vs => jcv z T v :: jcvs z Ts vs
  | _, _ => []
def jSv (z : jZ) (M : jMm) (k : Int) (j : Nat) : Value := if s_isr k j = true then .ref (z.2.1 (s_rf k j)) else .int (Int32.ofInt (M k j))
def jCell (z : jZ) (M : jMm) (k : Int) (H : Heap) : Prop := ∃ cell : Cell, H[z.2.1 k]? = some cell ∧ cell.vm = .none ∧
  (s_kind k < 8 → cell.cls = z.1.1 (s_kind k) ∧ ∀ j, j < c_N (s_kind k) → cell.slots[z.1.2 (s_kind k) j]? = some (jSv z M k j)) ∧
  (8 ≤ s_kind k → cell = arrV (z.2.2.2 (s_kind k)) (s_len k).toNat (jSv z M k))
def jI (z : jZ) (M : jMm) (H : Heap) : Prop := z.2.2.1.size ≤ H.size ∧ (∀ q : Nat, q < z.2.2.1.size → H[q]? = z.2.2.1[q]?) ∧ (∀ k : Int, 0 ≤ k → k < s_NM → jCell z M k H) ∧ ∀ k j, ir (M k j)
/-- the addresses are apart, and behind the start's -/
def jWz (z : jZ) : Prop := (∀ k h : Int, 0 ≤ k → k < s_NM → 0 ≤ h → h < s_NM → z.2.1 k = z.2.1 h → k = h) ∧ ∀ k : Int, 0 ≤ k → k < s_NM → z.2.2.1.size ≤ z.2.1 k
def jaty (c : Nat) : FieldType := if c = 9 then .array .int else if c = 10 then .object RX3 else if c = 11 then .object RX1 else if c = 12 then .object RX4 else .int
def jStat (z : jZ) (s : State) (n : Nat) : Prop := ∃ (a : Nat) (cell : Cell), va_Z RX6 (s_sname n) "[I" (.ref a) (fun q => z.2.2.1.size ≤ q) s z.2.2.1 ∧ z.2.2.1[a]? = some cell ∧ s.isArrayOf cell .int ∧ cell.vm ≠ .unknown ∧ (cell.slots.size : Int) = s_slen n ∧ ∀ j : Nat, (j : Int) < s_slen n → cell.slots[j]? = some (.int (Int32.ofInt (s_sv n j)))
def jK (z : jZ) (s : State) : Prop := va_K z.1 vwCl [] s ∧ (∀ c : Nat, 8 ≤ c → c < 13 → ArrOfT s (z.2.2.2 c) (jaty c)) ∧ (∀ w ∈ nestW, va_Nw w s) ∧ ∀ n : Nat, n < 9 → jStat z s n
def jG (z : jZ) (X : jAct) (pc : Nat) (ls : Array Slot) (st : List Value) (M : jMm) : Prop := ∀ (H : Heap) (locs : List Loc), jI z M H → (∀ q ∈ locs, z.2.2.1.size ≤ q.base) →
  W X.1 X.2.1 X.2.2.1 X.2.2.2.1 X.2.2.2.2.1 X.2.2.2.2.2.1 X.2.2.2.2.2.2.1 X.2.2.2.2.2.2.2.1 X.2.2.2.2.2.2.2.2.1 X.2.2.2.2.2.2.2.2.2.1 H locs X.2.2.2.2.2.2.2.2.2.2.1 X.2.2.2.2.2.2.2.2.2.2.2.1 X.2.2.2.2.2.2.2.2.2.2.2.2 (F0 X.2.2.2.2.2.1 pc ls st)
/-- an activation of K -/
def jO (K : jKm) (z : jZ) (X : jAct) : Prop := match X with
  | (p, _, _, R, s, m, args, _, _, c, ce, sl, _) => jWz z ∧ jK z s ∧ p.tables.exec = Jvm.exec ∧ c.code = kmC K ∧ c.maxLocals = kmN K ∧ s.vm.findClass (kmY K).cls = some m.cls ∧ (∀ w ∈ tG, w.before args s = true) ∧ kmF K ≤ R.frames ∧ kmW K ≤ R.locals ∧ ce ≤ R.cells ∧ sl ≤ R.slots
def jV (K : jKm) (z : jZ) (G : jCt) (L : jLo) (ls : Array Slot) : Prop := ls.size = kmN K ∧ lv_wf ls ∧ ∀ q ∈ G, ls[q.1]? = some (.val (jcv z q.2 (L q.1))) ∧ jtk q.2 (L q.1)
def cats (st : List Value) : Nat := (st.map fun v => v.category).sum
/-- code from pc to p lays the value of e -/
def jE (K : jKm) (G : jCt) (d pc p : Nat) (T : Nat) (e : jEx) : Prop := ∀ (z : jZ) (X : jAct), jO K z X → ∀ (L : jLo) (M : jMm) (Q : Int → jMm → Prop) (ls : Array Slot) (st : List Value), jV K z G L ls → cats st ≤ d → e L M Q → (∀ v M', jtk T v → Q v M' → jG z X p ls (jcv z T v :: st) M') → jG z X pc ls st M
def jEs (K : jKm) (G : jCt) (d pc p : Nat) (Ts : List Nat) (es : jXs) : Prop := ∀ (z : jZ) (X : jAct), jO K z X → ∀ (L : jLo) (M : jMm) (Q : List Int → jMm → Prop) (ls : Array Slot) (st : List Value), jV K z G L ls → cats st ≤ d → es L M Q → (∀ vs M', jtks Ts vs → Q vs M' → jG z X p ls ((jcvs z Ts vs).reverse ++ st) M') → jG z X pc ls st M
def jC (K : jKm) (G : jCt) (d pc t f : Nat) (c : jCn) : Prop := ∀ (z : jZ) (X : jAct), jO K z X → ∀ (L : jLo) (M : jMm) (T F : jMm → Prop) (ls : Array Slot) (st : List Value), jV K z G L ls → cats st ≤ d → c L M T F → (∀ M', T M' → jG z X t ls st M') → (∀ M', F M' → jG z X f ls st M') → jG z X pc ls st M
/-- the instruction at pc works as b -/
def jB (K : jKm) (d pc p : Nat) (T1 T2 T : Nat) (b : jBo) : Prop := ∀ (z : jZ) (X : jAct), jO K z X → ∀ (M : jMm) (Q : Int → Prop) (ls : Array Slot) (st : List Value) (x y : Int), ls.size = kmN K → cats st ≤ d → jtk T1 x → jtk T2 y → b x y Q → (∀ v, jtk T v → Q v → jG z X p ls (jcv z T v :: st) M) → jG z X pc ls (jcv z T2 y :: jcv z T1 x :: st) M
def jRi (T : Nat) : Instr := if T = 23 then .return_ else if T < 20 then .areturn else .ireturn
def jRs (z : jZ) (T : Nat) (v : Int) : List Value := if T = 23 then [] else [jcv z T v]
/-- code from pc to p does s -/
def jS (K : jKm) (G G' : jCt) (pc t : Nat) (s : jSt) : Prop := ∀ (z : jZ) (X : jAct), jO K z X → ∀ (L : jLo) (M : jMm) (N : jLo → jMm → Prop) (R : Int → jMm → Prop) (ls : Array Slot), jV K z G L ls → s L M N R → (∀ L' M' ls', jV K z G' L' ls' → N L' M' → jG z X t ls' [] M') → (∀ (pr : Nat) ls' v M', decode (kmC K) pr = .ok (jRi (kmR K), 1) → jtk (kmR K) v → R v M' → jG z X pr ls' (jRs z (kmR K) v) M') → jG z X pc ls [] M
end
section
/-! code that keeps a word: reading, reckoning -/
theorem ir_of32 (v : Int32) : ir v.toInt := ⟨Int32.le_toInt v, by have := Int32.toInt_lt v; omega⟩
theorem ir_to {x : Int} (h : ir x) : (Int32.ofInt x).toInt = x := Int32.toInt_ofInt_of_le (by have := h.1; omega) (by have := h.2; omega)
theorem lr_to {x : Int} (h : lr x) : (Int64.ofInt x).toInt = x := Int64.toInt_ofInt_of_le (by have := h.1; omega) (by have := h.2; omega)
theorem of_to (v : Int32) : Int32.ofInt v.toInt = v := Int32.ofInt_toInt v
theorem jtk20 {x : Int} : jtk 20 x ↔ ir x := Iff.rfl
theorem jtk21 {x : Int} : jtk 21 x ↔ lr x := Iff.rfl
theorem jtk22 {x : Int} : jtk 22 x ↔ (x = 0 ∨ x = 1) := Iff.rfl
theorem jtkr {T : Nat} {x : Int} (h : T < 20) : jtk T x ↔ (0 ≤ x ∧ x < s_NM ∧ s_kind x = T) := by
  unfold jtk
  rw [if_neg (by omega), if_pos h]
theorem jcv20 {z : jZ} {x : Int} : jcv z 20 x = .int (Int32.ofInt x) := rfl
theorem jcv22 {z : jZ} {x : Int} : jcv z 22 x = .int (Int32.ofInt x) := rfl
theorem jcv21 {z : jZ} {x : Int} : jcv z 21 x = .long (Int64.ofInt x) := rfl
theorem jcvr {z : jZ} {T : Nat} {x : Int} (h : T < 20) : jcv z T x = .ref (z.2.1 x) := by
  unfold jcv
  rw [if_neg (by omega), if_pos h]
theorem cats_cons (v : Value) (st : List Value) : cats (v :: st) = v.category + cats st := rfl
theorem jcv_cat (z : jZ) (T : Nat) (x : Int) : (jcv z T x).category ≤ 2 := by
  unfold jcv
  split
  · exact Nat.le_refl _
  · split <;> exact Nat.le_succ 1
theorem jcv_cat1 (z : jZ) {T : Nat} (x : Int) (h : T ≠ 21) : (jcv z T x).category = 1 := by
  unfold jcv
  rw [if_neg h]
  split <;> rfl
def kcat (T : Nat) : Nat := if T = 21 then 2 else 1
theorem jcv_kcat (z : jZ) (T : Nat) (x : Int) : (jcv z T x).category = kcat T := by
  unfold jcv kcat
  split
  · rfl
  · split <;> rfl
theorem cats_push {z : jZ} {T : Nat} {x : Int} {st : List Value} {d : Nat} (h : cats st ≤ d) : cats (jcv z T x :: st) ≤ d + kcat T := by
  rw [cats_cons, jcv_kcat]; omega
theorem jO_facts {K : jKm} {z : jZ} {p l e R s m args below meth c ce sl Qf} (h : jO K z (p, l, e, R, s, m, args, below, meth, c, ce, sl, Qf)) : jWz z ∧ jK z s ∧ p.tables.exec = Jvm.exec ∧ c.code = kmC K ∧ c.maxLocals = kmN K ∧ s.vm.findClass (kmY K).cls = some m.cls ∧ (∀ w ∈ tG, w.before args s = true) ∧ kmF K ≤ R.frames ∧ kmW K ≤ R.locals ∧ ce ≤ R.cells ∧ sl ≤ R.slots := h
/-- a step that touches neither heap nor tables -/
theorem jstep {K : jKm} {z : jZ} {X : jAct} {pc pc' : Nat} {ls ls' : Array Slot} {st st' : List Value} {M : jMm} (hO : jO K z X)
    (h : ∀ p l e R s m args below meth c ce sl Qf H locs, X = (p, l, e, R, s, m, args, below, meth, c, ce, sl, Qf) → p.tables.exec = Jvm.exec → c.code = kmC K → W p l e R s m args below meth c H locs ce sl Qf (F0 m pc' ls' st') → W p l e R s m args below meth c H locs ce sl Qf (F0 m pc ls st))
    (k : jG z X pc' ls' st' M) : jG z X pc ls st M := by
  obtain ⟨p, l, e, R, s, m, args, below, meth, c, ce, sl, Qf⟩ := X
  obtain ⟨-, -, hx, hb, -⟩ := jO_facts hO
  intro H locs hI hL
  exact h p l e R s m args below meth c ce sl Qf H locs rfl hx hb (k H locs hI hL)
-- constants
theorem jE_iconst {K : jKm} {G : jCt} {d pc p : Nat} {n : Int} (hd : decode (kmC K) pc = .ok (.iconst n, 1)) (hp : p = pc + 1) (hn : ir n) : jE K G d pc p 20 (xC n) := by
  subst hp
  intro z X hO L M Q ls st hV hc hq hk
  exact jstep hO (fun p l e R s m args below meth c ce sl Qf H locs _ hx hb k => lv_iconst (v := Int32.ofInt n) hx hb hd rfl k) (hk n M hn hq)
theorem jE_bipush {K : jKm} {G : jCt} {d pc p : Nat} {n : Int} (hd : decode (kmC K) pc = .ok (.bipush n, 2)) (hp : p = pc + 2) (hn : ir n) (hv : (Int8.ofInt n).toInt32 = Int32.ofInt n) : jE K G d pc p 20 (xC n) := by
  subst hp
  intro z X hO L M Q ls st hV hc hq hk
  exact jstep hO (fun p l e R s m args below meth c ce sl Qf H locs _ hx hb k => lv_bipush (v := Int32.ofInt n) hx hb hd hv k) (hk n M hn hq)
theorem jE_sipush {K : jKm} {G : jCt} {d pc p : Nat} {n : Int} (hd : decode (kmC K) pc = .ok (.sipush n, 3)) (hp : p = pc + 3) (hn : ir n) (hv : (Int16.ofInt n).toInt32 = Int32.ofInt n) : jE K G d pc p 20 (xC n) := by
  subst hp
  intro z X hO L M Q ls st hV hc hq hk
  exact jstep hO (fun p l e R s m args below meth c ce sl Qf H locs _ hx hb k => lv_sipush (v := Int32.ofInt n) hx hb hd hv k) (hk n M hn hq)
theorem jE_lconst {K : jKm} {G : jCt} {d pc p : Nat} {n : Fin 2} {v : Int} (hd : decode (kmC K) pc = .ok (.lconst n, 1)) (hp : p = pc + 1) (hn : lr v) (hv : Int64.ofNat (n : Nat) = Int64.ofInt v) : jE K G d pc p 21 (xC v) := by
  subst hp
  intro z X hO L M Q ls st hV hc hq hk
  exact jstep hO (fun p l e R s m args below meth c ce sl Qf H locs _ hx hb k => lv_lconst (v := Int64.ofInt v) hx hb hd hv k) (hk v M hn hq)
theorem jE_ldc {K : jKm} {G : jCt} {d pc p i : Nat} {n : Int} (hd : decode (kmC K) pc = .ok (.ldc i, 2)) (hp : p = pc + 2) (hn : ir n) (hw : Cond.constant (kmY K).cls i (Int32.ofInt n) ∈ tG) : jE K G d pc p 20 (xC n) := by
  subst hp
  intro z X hO L M Q ls st hV hc hq hk
  obtain ⟨p, l, e, R, s, m, args, below, meth, c, ce, sl, Qf⟩ := X
  obtain ⟨-, -, hx, hb, -, hown, hts, -⟩ := jO_facts hO
  intro H locs hI hL
  exact lv_ldc (v := Int32.ofInt n) hx hb hown (hts _ hw) hd (hk n M hn hq H locs hI hL)
theorem jE_ldcw {K : jKm} {G : jCt} {d pc p i : Nat} {n : Int} (hd : decode (kmC K) pc = .ok (.ldc_w i, 3)) (hp : p = pc + 3) (hn : ir n) (hw : Cond.constant (kmY K).cls i (Int32.ofInt n) ∈ tG) : jE K G d pc p 20 (xC n) := by
  subst hp
  intro z X hO L M Q ls st hV hc hq hk
  obtain ⟨p, l, e, R, s, m, args, below, meth, c, ce, sl, Qf⟩ := X
  obtain ⟨-, -, hx, hb, -, hown, hts, -⟩ := jO_facts hO
  intro H locs hI hL
  exact lv_ldcw (v := Int32.ofInt n) hx hb hown (hts _ hw) hd (hk n M hn hq H locs hI hL)
theorem jE_ldc2 {K : jKm} {G : jCt} {d pc p i : Nat} {n : Int} (hd : decode (kmC K) pc = .ok (.ldc2_w i, 3)) (hp : p = pc + 3) (hn : lr n) (hw : Cond.constantLong (kmY K).cls i (Int64.ofInt n) ∈ tG) : jE K G d pc p 21 (xC n) := by
  subst hp
  intro z X hO L M Q ls st hV hc hq hk
  obtain ⟨p, l, e, R, s, m, args, below, meth, c, ce, sl, Qf⟩ := X
  obtain ⟨-, -, hx, hb, -, hown, hts, -⟩ := jO_facts hO
  intro H locs hI hL
  exact lv_ldc2 (v := Int64.ofInt n) hx hb hown (hts _ hw) hd (hk n M hn hq H locs hI hL)
-- locals
theorem jE_iload_n {K : jKm} {G : jCt} {d pc p i : Nat} {k : Fin 4} (hd : decode (kmC K) pc = .ok (.iload_n k, 1)) (hi : (k : Nat) = i) (hp : p = pc + 1) (hm : (i, 20) ∈ G) : jE K G d pc p 20 (xV i) := by
  subst hp
  intro z X hO L M Q ls st hV hc hq hk
  exact jstep hO (fun p l e R s m args below meth c ce sl Qf H locs _ hx hb k => lv_iload_n hx hb hd hi (hV.2.2 _ hm).1 k) (hk _ M (hV.2.2 _ hm).2 hq)
theorem jE_iload {K : jKm} {G : jCt} {d pc p i : Nat} (hd : decode (kmC K) pc = .ok (.iload i, 2)) (hp : p = pc + 2) (hm : (i, 20) ∈ G) : jE K G d pc p 20 (xV i) := by
  subst hp
  intro z X hO L M Q ls st hV hc hq hk
  exact jstep hO (fun p l e R s m args below meth c ce sl Qf H locs _ hx hb k => lv_iload hx hb hd (hV.2.2 _ hm).1 k) (hk _ M (hV.2.2 _ hm).2 hq)
theorem jE_lload_n {K : jKm} {G : jCt} {d pc p i : Nat} {k : Fin 4} (hd : decode (kmC K) pc = .ok (.lload_n k, 1)) (hi : (k : Nat) = i) (hp : p = pc + 1) (hm : (i, 21) ∈ G) : jE K G d pc p 21 (xV i) := by
  subst hp
  intro z X hO L M Q ls st hV hc hq hk
  exact jstep hO (fun p l e R s m args below meth c ce sl Qf H locs _ hx hb k => lv_lload_n hx hb hd hi (hV.2.2 _ hm).1 k) (hk _ M (hV.2.2 _ hm).2 hq)
theorem jE_lload {K : jKm} {G : jCt} {d pc p i : Nat} (hd : decode (kmC K) pc = .ok (.lload i, 2)) (hp : p = pc + 2) (hm : (i, 21) ∈ G) : jE K G d pc p 21 (xV i) := by
  subst hp
  intro z X hO L M Q ls st hV hc hq hk
  exact jstep hO (fun p l e R s m args below meth c ce sl Qf H locs _ hx hb k => lv_lload hx hb hd (hV.2.2 _ hm).1 k) (hk _ M (hV.2.2 _ hm).2 hq)
theorem jE_aload_n {K : jKm} {G : jCt} {d pc p i T : Nat} {k : Fin 4} (hd : decode (kmC K) pc = .ok (.aload_n k, 1)) (hi : (k : Nat) = i) (hp : p = pc + 1) (hm : (i, T) ∈ G) (hT : T < 20) : jE K G d pc p T (xV i) := by
  subst hp
  intro z X hO L M Q ls st hV hc hq hk
  have h := hk _ M (hV.2.2 _ hm).2 hq
  have h2 := (hV.2.2 _ hm).1
  dsimp only at h h2
  rw [jcvr hT] at h h2
  exact jstep hO (fun p l e R s m args below meth c ce sl Qf H locs _ hx hb k => lv_aload_n hx hb hd hi h2 k) h
theorem jE_aload {K : jKm} {G : jCt} {d pc p i T : Nat} (hd : decode (kmC K) pc = .ok (.aload i, 2)) (hp : p = pc + 2) (hm : (i, T) ∈ G) (hT : T < 20) : jE K G d pc p T (xV i) := by
  subst hp
  intro z X hO L M Q ls st hV hc hq hk
  have h := hk _ M (hV.2.2 _ hm).2 hq
  have h2 := (hV.2.2 _ hm).1
  dsimp only at h h2
  rw [jcvr hT] at h h2
  exact jstep hO (fun p l e R s m args below meth c ce sl Qf H locs _ hx hb k => lv_aload hx hb hd h2 k) h
/-- a truth is a number -/
theorem jE_sub {K : jKm} {G : jCt} {d pc p : Nat} {e : jEx} (h : jE K G d pc p 22 e) : jE K G d pc p 20 e := by
  intro z X hO L M Q ls st hV hc hq hk
  refine h z X hO L M Q ls st hV hc hq (fun v M' hv hq' => ?_)
  refine hk v M' ?_ hq'
  rcases jtk22.mp hv with h | h <;> subst h <;> exact ⟨by decide, by decide⟩
-- reckoning
theorem jE_bin {K : jKm} {G : jCt} {d pc p1 p2 p T1 T2 T d2 : Nat} {a b : jEx} {o : jBo} (ha : jE K G d pc p1 T1 a) (hb : jE K G d2 p1 p2 T2 b) (ho : jB K d p2 p T1 T2 T o) (hd : d2 = d + kcat T1) : jE K G d pc p T (xBin o a b) := by
  subst hd
  intro z X hO L M Q ls st hV hc hq hk
  refine ha z X hO L M _ ls st hV hc hq (fun x M1 hx hq1 => ?_)
  refine hb z X hO L M1 _ ls _ hV (cats_push hc) hq1 (fun y M2 hy hq2 => ?_)
  exact ho z X hO M2 _ ls st x y hV.1 hc hx hy hq2 (fun v hv hq3 => hk v M2 hv hq3)
theorem jE_un {K : jKm} {G : jCt} {d pc p1 p T1 T : Nat} {a : jEx} {u : Int → Int} (ha : jE K G d pc p1 T1 a)
    (hu : ∀ (z : jZ) (X : jAct), jO K z X → ∀ (M : jMm) (ls : Array Slot) (st : List Value) (x : Int), jtk T1 x → (jtk T (u x) → jG z X p ls (jcv z T (u x) :: st) M) → jG z X p1 ls (jcv z T1 x :: st) M) : jE K G d pc p T (xUn u a) := by
  intro z X hO L M Q ls st hV hc hq hk
  refine ha z X hO L M _ ls st hV hc hq (fun x M1 hx hq1 => ?_)
  exact hu z X hO M1 ls st x hx (fun hv => hk _ M1 hv hq1)
theorem jE_i2b {K : jKm} {G : jCt} {d pc p1 p : Nat} {a : jEx} (ha : jE K G d pc p1 20 a) (hd : decode (kmC K) p1 = .ok (.i2b, 1)) (hp : p = p1 + 1) : jE K G d pc p 20 (xUn u_i2b a) := by
  subst hp
  refine jE_un ha (fun z X hO M ls st x hx k => ?_)
  exact jstep hO (fun p l e R s m args below meth c ce sl Qf H locs _ hx hb k => t_i2b hx hb hd (v := Int32.ofInt (u_i2b x)) (by unfold u_i2b; rw [of_to]) k) (k (ir_of32 _))
theorem jE_i2s {K : jKm} {G : jCt} {d pc p1 p : Nat} {a : jEx} (ha : jE K G d pc p1 20 a) (hd : decode (kmC K) p1 = .ok (.i2s, 1)) (hp : p = p1 + 1) : jE K G d pc p 20 (xUn u_i2s a) := by
  subst hp
  refine jE_un ha (fun z X hO M ls st x hx k => ?_)
  exact jstep hO (fun p l e R s m args below meth c ce sl Qf H locs _ hx hb k => t_i2s hx hb hd (v := Int32.ofInt (u_i2s x)) (by unfold u_i2s; rw [of_to]) k) (k (ir_of32 _))
theorem jE_i2c {K : jKm} {G : jCt} {d pc p1 p : Nat} {a : jEx} (ha : jE K G d pc p1 20 a) (hd : decode (kmC K) p1 = .ok (.i2c, 1)) (hp : p = p1 + 1) : jE K G d pc p 20 (xUn u_i2c a) := by
  subst hp
  refine jE_un ha (fun z X hO M ls st x hx k => ?_)
  exact jstep hO (fun p l e R s m args below meth c ce sl Qf H locs _ hx hb k => t_i2c hx hb hd (v := Int32.ofInt (u_i2c x)) (by unfold u_i2c; rw [of_to]) k) (k (ir_of32 _))
theorem jE_l2i {K : jKm} {G : jCt} {d pc p1 p : Nat} {a : jEx} (ha : jE K G d pc p1 21 a) (hd : decode (kmC K) p1 = .ok (.l2i, 1)) (hp : p = p1 + 1) : jE K G d pc p 20 (xUn u_l2i a) := by
  subst hp
  refine jE_un ha (fun z X hO M ls st x hx k => ?_)
  exact jstep hO (fun p l e R s m args below meth c ce sl Qf H locs _ hx hb k => t_l2i hx hb hd (v := Int32.ofInt (u_l2i x)) (by unfold u_l2i; rw [of_to]) k) (k (ir_of32 _))
theorem i2l_of {x : Int} (h : ir x) : (Int32.ofInt x).toInt64 = Int64.ofInt x := by
  rw [← Int64.toInt_inj, Int32.toInt_toInt64, ir_to h, lr_to ⟨by have := h.1; omega, by have := h.2; omega⟩]
theorem jE_i2l {K : jKm} {G : jCt} {d pc p1 p : Nat} {a : jEx} (ha : jE K G d pc p1 20 a) (hd : decode (kmC K) p1 = .ok (.i2l, 1)) (hp : p = p1 + 1) : jE K G d pc p 21 (xUn (fun x => x) a) := by
  subst hp
  refine jE_un ha (fun z X hO M ls st x hx k => ?_)
  have h := jtk20.mp hx
  exact jstep hO (fun p l e R s m args below meth c ce sl Qf H locs _ hx hb k => t_i2l hx hb hd (v := Int64.ofInt x) (i2l_of h) k) (k ⟨by have := h.1; omega, by have := h.2; omega⟩)
theorem jE_neg {K : jKm} {G : jCt} {d pc p1 p : Nat} {a : jEx} (ha : jE K G d pc p1 20 a) (hd : decode (kmC K) p1 = .ok (.ineg, 1)) (hp : p = p1 + 1) : jE K G d pc p 20 (xNeg a) := by
  subst hp
  intro z X hO L M Q ls st hV hc hq hk
  refine ha z X hO L M _ ls st hV hc hq (fun x M1 hx hq1 => ?_)
  refine jstep hO (fun p l e R s m args below meth c ce sl Qf H locs _ hx hb k => ?_) (hk (-x) M1 hq1.1 hq1.2)
  rw [jcv20, Int32.ofInt_neg] at k
  refine lv_ineg hx hb hd ?_
  first | exact k | (rw [Int32.zero_sub]; exact k)
end
section
/-! code that keeps a word: instructions of two -/
theorem jtk_ir {x : Int} (h : jtk 20 x) : ir x := h
theorem jB_of {K : jKm} {d pc p : Nat} {b : jBo} (h : ∀ (z : jZ) (X : jAct), jO K z X → ∀ (M : jMm) (ls : Array Slot) (st : List Value) (x y : Int), ls.size = kmN K → cats st ≤ d → ir x → ir y → ∀ Q : Int → Prop, b x y Q → ∃ v, ir v ∧ Q v ∧ (jG z X p ls (.int (Int32.ofInt v) :: st) M → jG z X pc ls (.int (Int32.ofInt y) :: .int (Int32.ofInt x) :: st) M)) : jB K d pc p 20 20 20 b := by
  intro z X hO M Q ls st x y hsz hc hx hy hq hk
  obtain ⟨v, hv, hqv, k⟩ := h z X hO M ls st x y hsz hc hx hy Q hq
  exact k (hk v hv hqv)
theorem jB_iadd {K : jKm} {d pc p : Nat} (hd : decode (kmC K) pc = .ok (.iadd, 1)) (hp : p = pc + 1) : jB K d pc p 20 20 20 boAdd := by
  subst hp
  refine jB_of (fun z X hO M ls st x y hsz hc hx hy Q hq => ⟨x + y, hq.1, hq.2, fun k => ?_⟩)
  refine jstep hO (fun p l e R s m args below meth c ce sl Qf H locs _ hx hb k => lv_iadd hx hb hd ?_) k
  rw [← Int32.ofInt_add]; exact k
theorem jB_isub {K : jKm} {d pc p : Nat} (hd : decode (kmC K) pc = .ok (.isub, 1)) (hp : p = pc + 1) : jB K d pc p 20 20 20 boSub := by
  subst hp
  refine jB_of (fun z X hO M ls st x y hsz hc hx hy Q hq => ⟨x - y, hq.1, hq.2, fun k => ?_⟩)
  refine jstep hO (fun p l e R s m args below meth c ce sl Qf H locs _ hx hb k => lv_isub hx hb hd ?_) k
  rw [← Int32.ofInt_sub]; exact k
theorem jB_imul {K : jKm} {d pc p : Nat} (hd : decode (kmC K) pc = .ok (.imul, 1)) (hp : p = pc + 1) : jB K d pc p 20 20 20 boMul := by
  subst hp
  refine jB_of (fun z X hO M ls st x y hsz hc hx hy Q hq => ⟨x * y, hq.1, hq.2, fun k => ?_⟩)
  refine jstep hO (fun p l e R s m args below meth c ce sl Qf H locs _ hx hb k => lv_imul hx hb hd ?_) k
  rw [← Int32.ofInt_mul]; exact k
theorem ne0_of {y : Int} (h : 0 < y) (hy : ir y) : ¬ Int32.ofInt y = 0 := by
  intro e
  have := congrArg Int32.toInt e
  rw [ir_to hy] at this
  simp at this
  omega
theorem div_of {x y : Int} (hx : ir x) (hy : ir y) (h0 : 0 ≤ x) (h1 : 0 < y) : Int32.ofInt x / Int32.ofInt y = Int32.ofInt (x / y) := by
  rw [← Int32.toInt_inj, Int32.toInt_div, ir_to hx, ir_to hy]
  have h2 : x.tdiv y = x / y := Int.tdiv_eq_ediv_of_nonneg h0
  have h3 : 0 ≤ x / y := Int.ediv_nonneg h0 (by omega)
  have h4 : x / y ≤ x := Int.ediv_le_self y h0
  have h5 : ir (x / y) := ⟨by omega, by have := hx.2; omega⟩
  rw [h2, ir_to h5]
  rw [← Int32.toInt_ofInt (n := x / y), ir_to h5]
theorem rng_div {x y : Int} (hx : ir x) (h0 : 0 ≤ x) (h1 : 0 < y) : ir (x / y) := by
  have h3 : 0 ≤ x / y := Int.ediv_nonneg h0 (by omega)
  have h4 : x / y ≤ x := Int.ediv_le_self y h0
  exact ⟨by omega, by have := hx.2; omega⟩
theorem rng_mod {x y : Int} (hx : ir x) (hy : ir y) (h0 : 0 ≤ x) (h1 : 0 < y) : ir (x % y) := by
  have h3 : 0 ≤ x % y := Int.emod_nonneg x (by omega)
  have h4 : x % y < y := Int.emod_lt_of_pos x h1
  exact ⟨by omega, by have := hy.2; omega⟩
theorem jB_idiv {K : jKm} {d pc p : Nat} (hd : decode (kmC K) pc = .ok (.idiv, 1)) (hp : p = pc + 1) : jB K d pc p 20 20 20 boDiv := by
  subst hp
  refine jB_of (fun z X hO M ls st x y hsz hc hx hy Q hq => ⟨x / y, rng_div hx hq.1.1 hq.1.2, hq.2, fun k => ?_⟩)
  refine jstep hO (fun p l e R s m args below meth c ce sl Qf H locs _ hx' hb k => lv_idiv hx' hb hd (ne0_of hq.1.2 hy) ?_) k
  rw [div_of hx hy hq.1.1 hq.1.2]; exact k
theorem jB_irem {K : jKm} {d pc p : Nat} (hd : decode (kmC K) pc = .ok (.irem, 1)) (hp : p = pc + 1) : jB K d pc p 20 20 20 boRem := by
  subst hp
  refine jB_of (fun z X hO M ls st x y hsz hc hx hy Q hq => ⟨x % y, rng_mod hx hy hq.1.1 hq.1.2, hq.2, fun k => ?_⟩)
  refine jstep hO (fun p l e R s m args below meth c ce sl Qf H locs _ hx' hb k => lv_irem hx' hb hd (ne0_of hq.1.2 hy) ?_) k
  rw [div_of hx hy hq.1.1 hq.1.2, ← Int32.ofInt_mul, ← Int32.ofInt_sub]
  have : x - x / y * y = x % y := by have := Int.mul_ediv_add_emod x y; rw [Int.mul_comm] at this; omega
  rw [this]; exact k
theorem jB_ior {K : jKm} {d pc p : Nat} (hd : decode (kmC K) pc = .ok (.ior, 1)) (hp : p = pc + 1) : jB K d pc p 20 20 20 boOr := by
  subst hp
  refine jB_of (fun z X hO M ls st x y hsz hc hx hy Q hq => ⟨b_or x y, ir_of32 _, hq, fun k => ?_⟩)
  refine jstep hO (fun p l e R s m args below meth c ce sl Qf H locs _ hx hb k => lv_ior hx hb hd ?_) k
  unfold b_or at k; rw [of_to] at k; exact k
theorem jB_iand {K : jKm} {d pc p : Nat} (hd : decode (kmC K) pc = .ok (.iand, 1)) (hp : p = pc + 1) : jB K d pc p 20 20 20 boAnd := by
  subst hp
  refine jB_of (fun z X hO M ls st x y hsz hc hx hy Q hq => ⟨b_and x y, ir_of32 _, hq, fun k => ?_⟩)
  refine jstep hO (fun p l e R s m args below meth c ce sl Qf H locs _ hx hb k => lv_iand hx hb hd ?_) k
  unfold b_and at k; rw [of_to] at k; exact k
theorem jB_ishl {K : jKm} {d pc p : Nat} (hd : decode (kmC K) pc = .ok (.ishl, 1)) (hp : p = pc + 1) : jB K d pc p 20 20 20 boShl := by
  subst hp
  refine jB_of (fun z X hO M ls st x y hsz hc hx hy Q hq => ⟨b_shl x y, ir_of32 _, hq, fun k => ?_⟩)
  refine jstep hO (fun p l e R s m args below meth c ce sl Qf H locs _ hx hb k => lv_ishl hx hb hd ?_) k
  unfold b_shl at k; rw [of_to] at k; exact k
theorem jB_ishr {K : jKm} {d pc p : Nat} (hd : decode (kmC K) pc = .ok (.ishr, 1)) (hp : p = pc + 1) : jB K d pc p 20 20 20 boShr := by
  subst hp
  refine jB_of (fun z X hO M ls st x y hsz hc hx hy Q hq => ⟨b_shr x y, ir_of32 _, hq, fun k => ?_⟩)
  refine jstep hO (fun p l e R s m args below meth c ce sl Qf H locs _ hx hb k => lv_ishr hx hb hd ?_) k
  unfold b_shr at k; rw [of_to] at k; exact k
theorem lt32 {x y : Int} (hx : ir x) (hy : ir y) : Int32.ofInt x < Int32.ofInt y ↔ x < y := by
  rw [Int32.lt_iff_toInt_lt, ir_to hx, ir_to hy]
theorem le32 {x y : Int} (hx : ir x) (hy : ir y) : Int32.ofInt x ≤ Int32.ofInt y ↔ x ≤ y := by
  rw [Int32.le_iff_toInt_le, ir_to hx, ir_to hy]
theorem eq32 {x y : Int} (hx : ir x) (hy : ir y) : Int32.ofInt x = Int32.ofInt y ↔ x = y := by
  rw [← Int32.toInt_inj, ir_to hx, ir_to hy]
theorem jB_max {K : jKm} {d pc p i : Nat} (hd : decode (kmC K) pc = .ok (.invokestatic i, 3)) (hp : p = pc + 3) (hw : Cond.methodLink (kmY K).cls i Lib.Math.max.name ∈ tG ∧ Cond.static Lib.Math.max.name ∈ tG ∧ Cond.initialized "java/lang/Math" ∈ tG ∧ Cond.code Lib.Math.max.name Lib.Math.max.code 2 (some .int) ∈ tG) (hr : 1 ≤ kmF K ∧ d + 13 ≤ kmW K) : jB K d pc p 20 20 20 boMax := by
  subst hp
  refine jB_of (fun z X hO M ls st x y hsz hc hx hy Q hq => ⟨max x y, ?_, hq, fun k => ?_⟩)
  · have := hx.1; have := hx.2; have := hy.1; have := hy.2
    constructor <;> omega
  · obtain ⟨p, l, e, R, s, m, args, below, meth, c, ce, sl, Qf⟩ := X
    obtain ⟨-, -, hx', hb, hml, hown, hts, hf, hw', hce, hsl⟩ := jO_facts hO
    intro H locs hI hL
    refine va_mmax hx' hb (hml.trans hsz.symm) hown (hts _ hw.1) (hts _ hw.2.1) (hts _ hw.2.2.1) (hts _ hw.2.2.2) (Nat.le_trans hr.1 hf) ?_ hce hsl hd ?_
    · have : cats st + 13 ≤ R.locals := by omega
      exact this
    · have h := k H locs hI hL
      have e1 : (if Int32.ofInt x < Int32.ofInt y then Int32.ofInt y else Int32.ofInt x) = Int32.ofInt (max x y) := by
        by_cases h : x < y
        · rw [if_pos ((lt32 hx hy).mpr h), Int.max_eq_right (by omega)]
        · rw [if_neg (fun q => h ((lt32 hx hy).mp q)), Int.max_eq_left (by omega)]
      rw [e1]; exact h
theorem jB_min {K : jKm} {d pc p i : Nat} (hd : decode (kmC K) pc = .ok (.invokestatic i, 3)) (hp : p = pc + 3) (hw : Cond.methodLink (kmY K).cls i Lib.Math.min.name ∈ tG ∧ Cond.static Lib.Math.min.name ∈ tG ∧ Cond.initialized "java/lang/Math" ∈ tG ∧ Cond.code Lib.Math.min.name Lib.Math.min.code 2 (some .int) ∈ tG) (hr : 1 ≤ kmF K ∧ d + 13 ≤ kmW K) : jB K d pc p 20 20 20 boMin := by
  subst hp
  refine jB_of (fun z X hO M ls st x y hsz hc hx hy Q hq => ⟨min x y, ?_, hq, fun k => ?_⟩)
  · have := hx.1; have := hx.2; have := hy.1; have := hy.2
    constructor <;> omega
  · obtain ⟨p, l, e, R, s, m, args, below, meth, c, ce, sl, Qf⟩ := X
    obtain ⟨-, -, hx', hb, hml, hown, hts, hf, hw', hce, hsl⟩ := jO_facts hO
    intro H locs hI hL
    refine va_mmin hx' hb (hml.trans hsz.symm) hown (hts _ hw.1) (hts _ hw.2.1) (hts _ hw.2.2.1) (hts _ hw.2.2.2) (Nat.le_trans hr.1 hf) ?_ hce hsl hd ?_
    · have : cats st + 13 ≤ R.locals := by omega
      exact this
    · have h := k H locs hI hL
      have e1 : (if Int32.ofInt y < Int32.ofInt x then Int32.ofInt y else Int32.ofInt x) = Int32.ofInt (min x y) := by
        by_cases h : y < x
        · rw [if_pos ((lt32 hy hx).mpr h), Int.min_eq_right (by omega)]
        · rw [if_neg (fun q => h ((lt32 hy hx).mp q)), Int.min_eq_left (by omega)]
      rw [e1]; exact h
-- longs
theorem lr_of64 (v : Int64) : lr v.toInt := ⟨Int64.le_toInt v, by have := Int64.toInt_lt v; omega⟩
theorem of_to64 (v : Int64) : Int64.ofInt v.toInt = v := Int64.ofInt_toInt v
theorem jB_land {K : jKm} {d pc p : Nat} (hd : decode (kmC K) pc = .ok (.land, 1)) (hp : p = pc + 1) : jB K d pc p 21 21 21 boLand := by
  subst hp
  intro z X hO M Q ls st x y hsz hc hx hy hq hk
  exact jstep hO (fun p l e R s m args below meth c ce sl Qf H locs _ hx hb k => t_land hx hb hd (v := Int64.ofInt (l_and x y)) (by unfold l_and; rw [of_to64]) k) (hk _ (lr_of64 _) hq)
theorem jB_lor {K : jKm} {d pc p : Nat} (hd : decode (kmC K) pc = .ok (.lor, 1)) (hp : p = pc + 1) : jB K d pc p 21 21 21 boLor := by
  subst hp
  intro z X hO M Q ls st x y hsz hc hx hy hq hk
  exact jstep hO (fun p l e R s m args below meth c ce sl Qf H locs _ hx hb k => t_lor hx hb hd (v := Int64.ofInt (l_or x y)) (by unfold l_or; rw [of_to64]) k) (hk _ (lr_of64 _) hq)
theorem jB_ladd {K : jKm} {d pc p : Nat} (hd : decode (kmC K) pc = .ok (.ladd, 1)) (hp : p = pc + 1) : jB K d pc p 21 21 21 boLadd := by
  subst hp
  intro z X hO M Q ls st x y hsz hc hx hy hq hk
  exact jstep hO (fun p l e R s m args below meth c ce sl Qf H locs _ hx hb k => t_ladd hx hb hd (v := Int64.ofInt (x + y)) (Int64.ofInt_add ..).symm k) (hk _ hq.1 hq.2)
theorem jB_lshl {K : jKm} {d pc p : Nat} (hd : decode (kmC K) pc = .ok (.lshl, 1)) (hp : p = pc + 1) : jB K d pc p 21 20 21 boLshl := by
  subst hp
  intro z X hO M Q ls st x y hsz hc hx hy hq hk
  exact jstep hO (fun p l e R s m args below meth c ce sl Qf H locs _ hx hb k => t_lshl hx hb hd (v := Int64.ofInt (l_shl x y)) (by unfold l_shl; rw [of_to64]) k) (hk _ (lr_of64 _) hq)
theorem jB_lshr {K : jKm} {d pc p : Nat} (hd : decode (kmC K) pc = .ok (.lshr, 1)) (hp : p = pc + 1) : jB K d pc p 21 20 21 boLshr := by
  subst hp
  intro z X hO M Q ls st x y hsz hc hx hy hq hk
  exact jstep hO (fun p l e R s m args below meth c ce sl Qf H locs _ hx hb k => lv_lshr hx hb hd (v := Int64.ofInt (l_shr x y)) (by unfold l_shr; rw [of_to64]) k) (hk _ (lr_of64 _) hq)
end
section
/-! code that keeps a word: the heap -/
set_option maxRecDepth 100000 in
theorem tG_lay : ∀ c, c < 8 → ∀ w ∈ u_ws (c_R c) (c_T c) (c_N c), w ∈ tG := by decide +kernel
theorem c_desc : ∀ c, c < 8 → ∀ j, j < c_N c → 20 ≤ s_fty c j → parseFieldDescriptor (c_T c j).2.2.1 = some (if s_fty c j = 22 then .boolean else .int) := by decide +kernel
theorem c_apart : ∀ c, c < 8 → ∀ a, a < c_N c → ∀ b, b < c_N c → a ≠ b → (c_T c a).2.1 ≠ (c_T c b).2.1 := by decide +kernel
theorem c_parse : ∀ c, c < 8 → ∀ j, j < c_N c → ∃ t, parseFieldDescriptor (c_T c j).2.2.1 = some t := by
  have h : ∀ c, c < 8 → ∀ j, j < c_N c → (parseFieldDescriptor (c_T c j).2.2.1).isSome = true := by decide +kernel
  intro c hc j hj
  exact Option.isSome_iff_exists.mp (h c hc j hj)
set_option maxRecDepth 100000 in
theorem s_wfN1 : ∀ k : Nat, k < 144 → s_kind (k : Int) < 8 → ∀ j : Nat, j < c_N (s_kind (k : Int)) → s_fty (s_kind (k : Int)) j < 20 → (0 ≤ s_rf k j ∧ s_rf k j < s_NM ∧ s_kind (s_rf k j) = s_fty (s_kind (k : Int)) j) := by decide +kernel
set_option maxRecDepth 100000 in
theorem s_wfN2 : ∀ k : Nat, k < 144 → s_aty (s_kind (k : Int)) < 20 → ∀ j : Nat, j < (s_len k).toNat → (0 ≤ s_rf k j ∧ s_rf k j < s_NM ∧ s_kind (s_rf k j) = s_aty (s_kind (k : Int))) := by decide +kernel
theorem s_wfN3 : ∀ k : Nat, k < 144 → s_kind (k : Int) < 13 := by decide +kernel
theorem s_wf {k : Int} (h0 : 0 ≤ k) (h1 : k < s_NM) : (s_kind k < 8 → ∀ j : Nat, j < c_N (s_kind k) → s_fty (s_kind k) j < 20 → 0 ≤ s_rf k j ∧ s_rf k j < s_NM ∧ s_kind (s_rf k j) = s_fty (s_kind k) j) ∧ (s_aty (s_kind k) < 20 → ∀ x : Int, 0 ≤ x → x < s_len k → 0 ≤ s_rf k x ∧ s_rf k x < s_NM ∧ s_kind (s_rf k x) = s_aty (s_kind k)) ∧ s_kind k < 13 := by
  obtain ⟨n, rfl⟩ := Int.eq_ofNat_of_zero_le h0
  have hn : n < 144 := by have : (n : Int) < 144 := h1; omega
  refine ⟨s_wfN1 n hn, fun ht x x0 x1 => ?_, s_wfN3 n hn⟩
  obtain ⟨j, rfl⟩ := Int.eq_ofNat_of_zero_le x0
  exact s_wfN2 n hn ht j (by omega)
theorem clamp32 {x : Int} (h0 : 0 ≤ x) (h : ir x) : (Int32.ofInt x).toNatClampNeg = x.toNat := by
  show (Int32.ofInt x).toInt.toNat = _
  rw [ir_to h]
theorem neg32 {x : Int} (h0 : 0 ≤ x) (h : ir x) : ¬ Int32.ofInt x < 0 := by
  intro q
  rw [show (0 : Int32) = Int32.ofInt 0 from rfl, lt32 h ⟨by decide, by decide⟩] at q
  omega
theorem in32 {x n : Int} (h0 : 0 ≤ x) (h1 : x < n) (h : ir x) : ¬ (Int32.ofInt x < 0 ∨ n.toNat ≤ (Int32.ofInt x).toNatClampNeg) := by
  rw [clamp32 h0 h]
  rintro (q | q)
  · exact neg32 h0 h q
  · omega
theorem jI_upd {z : jZ} {M M' : jMm} {H H' : Heap} {k : Int} (hI : jI z M H) (hz : jWz z) (h0 : 0 ≤ k) (h1 : k < s_NM) (hM : ∀ a b, a ≠ k → M' a b = M a b) (hs : H'.size = H.size) (ho : ∀ q : Nat, q ≠ z.2.1 k → H'[q]? = H[q]?) (hc : jCell z M' k H') (hr : ∀ j, ir (M' k j)) : jI z M' H' := by
  obtain ⟨a, b, c, d⟩ := hI
  refine ⟨by rw [hs]; exact a, fun q hq => ?_, fun h g0 g1 => ?_, fun h j => ?_⟩
  · rw [ho q (fun e => ?_)]
    · exact b q hq
    · have := hz.2 k h0 h1
      omega
  · by_cases e : h = k
    · subst e; exact hc
    · obtain ⟨cell, q1, q2, q3, q4⟩ := c h g0 g1
      have hv : jSv z M' h = jSv z M h := by
        funext j
        unfold jSv
        rw [hM h j e]
      refine ⟨cell, by rw [ho _ (fun x => e (hz.1 h k g0 g1 h0 h1 x))]; exact q1, q2, fun x => ⟨(q3 x).1, fun j hj => ?_⟩, fun x => ?_⟩
      · rw [hv]; exact (q3 x).2 j hj
      · rw [hv]; exact q4 x
  · by_cases e : h = k
    · subst e; exact hr j
    · rw [hM h j e]; exact d h j
theorem jwr_at (M : jMm) (k j v : Int) : jwr M k j v k j = v := if_pos ⟨rfl, rfl⟩
theorem jwr_ne (M : jMm) {k j v a b : Int} (h : ¬ (a = k ∧ b = j)) : jwr M k j v a b = M a b := if_neg h
theorem s_isr_f {k : Int} {C j : Nat} (h : s_kind k = C) (hC : C < 8) : s_isr k j = decide (s_fty C j < 20) := by
  unfold s_isr; rw [h, if_pos hC]
theorem s_isr_a {k : Int} {A j : Nat} (h : s_kind k = A) (hA : 8 ≤ A) : s_isr k j = decide (s_aty A < 20) := by
  unfold s_isr; rw [h, if_neg (by omega)]
theorem jSv_i {z : jZ} {M : jMm} {k : Int} {j : Nat} (h : s_isr k j = false) : jSv z M k j = .int (Int32.ofInt (M k j)) := by
  unfold jSv; rw [h]; rfl
theorem jSv_r {z : jZ} {M : jMm} {k : Int} {j : Nat} (h : s_isr k j = true) : jSv z M k j = .ref (z.2.1 (s_rf k j)) := by
  unfold jSv; rw [h]; rfl
-- fields
theorem jE_getf {K : jKm} {G : jCt} {d pc p1 p C j i : Nat} {ji : Int} {o : jEx} (ho : jE K G d pc p1 C o) (hd : decode (kmC K) p1 = .ok (.getfield i, 3)) (hp : p = p1 + 3) (hj : ji = (j : Int)) (hC : C < 8) (hN : j < c_N C) (hf : 20 ≤ s_fty C j) (hw : Cond.fieldLink (kmY K).cls i (c_T C j).1 (c_T C j).2.1 (c_T C j).2.2.1 ∈ tG) : jE K G d pc p 20 (xGf o ji) := by
  subst hp; subst hj
  intro z X hO L M Q ls st hV hc hq hk
  refine ho z X hO L M _ ls st hV hc hq (fun k M1 hk1 hq1 => ?_)
  obtain ⟨k0, k1, k2⟩ := (jtkr (by omega)).mp hk1
  rw [jcvr (T := C) (x := k) (by omega)]
  obtain ⟨p, l, e, R, s, m, args, below, meth, c, ce, sl, Qf⟩ := X
  obtain ⟨hz, hKs, hx, hb, -, hown, hts, -⟩ := jO_facts hO
  intro H locs hI hL
  obtain ⟨cell, q1, q2, q3, -⟩ := hI.2.2.1 k k0 k1
  rw [k2] at q3
  obtain ⟨q4, q5⟩ := q3 hC
  obtain ⟨hS, hfc, kC, hkC, hkind⟩ := hKs.1.1 C _ (c_at hC)
  obtain ⟨cf, kf, fi, f, hi, hsl⟩ := hS j hN
  refine W.getf hx hb hown (hts _ hw) hi (u_facts hfc hkC (u_lays hts (tG_lay C hC) hN) hi).1 q1 (by rw [q2]; exact fun h => by cases h) (v := jSv z M1 k j) ?_ rfl rfl hd ?_
  · rw [hsl]; exact q5 j hN
  · have hv : jSv z M1 k j = .int (Int32.ofInt (M1 k j)) := jSv_i (by rw [s_isr_f k2 hC]; exact decide_eq_false (by omega))
    rw [hv]
    exact hk _ M1 (hI.2.2.2 k j) hq1 H locs hI hL
theorem jE_getr {K : jKm} {G : jCt} {d pc p1 p C j i T : Nat} {ji : Int} {o : jEx} (ho : jE K G d pc p1 C o) (hd : decode (kmC K) p1 = .ok (.getfield i, 3)) (hp : p = p1 + 3) (hj : ji = (j : Int)) (hC : C < 8) (hN : j < c_N C) (hf : s_fty C j = T) (hT : T < 20) (hw : Cond.fieldLink (kmY K).cls i (c_T C j).1 (c_T C j).2.1 (c_T C j).2.2.1 ∈ tG) : jE K G d pc p T (xGr o ji) := by
  subst hp; subst hj
  intro z X hO L M Q ls st hV hc hq hk
  refine ho z X hO L M _ ls st hV hc hq (fun k M1 hk1 hq1 => ?_)
  obtain ⟨k0, k1, k2⟩ := (jtkr (by omega)).mp hk1
  rw [jcvr (T := C) (x := k) (by omega)]
  obtain ⟨p, l, e, R, s, m, args, below, meth, c, ce, sl, Qf⟩ := X
  obtain ⟨hz, hKs, hx, hb, -, hown, hts, -⟩ := jO_facts hO
  intro H locs hI hL
  obtain ⟨cell, q1, q2, q3, -⟩ := hI.2.2.1 k k0 k1
  rw [k2] at q3
  obtain ⟨q4, q5⟩ := q3 hC
  obtain ⟨hS, hfc, kC, hkC, hkind⟩ := hKs.1.1 C _ (c_at hC)
  obtain ⟨cf, kf, fi, f, hi, hsl⟩ := hS j hN
  have hwf := (s_wf k0 k1).1 (by omega) j (by rw [k2]; exact hN) (by rw [k2]; omega)
  rw [k2, hf] at hwf
  refine W.getf hx hb hown (hts _ hw) hi (u_facts hfc hkC (u_lays hts (tG_lay C hC) hN) hi).1 q1 (by rw [q2]; exact fun h => by cases h) (v := jSv z M1 k j) ?_ rfl rfl hd ?_
  · rw [hsl]; exact q5 j hN
  · have hv : jSv z M1 k j = .ref (z.2.1 (s_rf k j)) := jSv_r (by rw [s_isr_f k2 hC]; exact decide_eq_true (by omega))
    rw [hv]
    have h := hk _ M1 ((jtkr hT).mpr hwf) hq1 H locs hI hL
    rw [jcvr hT] at h
    exact h
-- arrays
theorem jE_iald {K : jKm} {G : jCt} {d pc p1 p2 p d2 : Nat} {o i : jEx} (ho : jE K G d pc p1 8 o) (hi : jE K G d2 p1 p2 20 i) (hd : decode (kmC K) p2 = .ok (.iaload, 1)) (hp : p = p2 + 1) (hd2 : d2 = d + 1) : jE K G d pc p 20 (xAl o i) := by
  subst hp; subst hd2
  intro z X hO L M Q ls st hV hc hq hk
  refine ho z X hO L M _ ls st hV hc hq (fun k M1 hk1 hq1 => ?_)
  refine hi z X hO L M1 _ ls _ hV (cats_push hc) hq1 (fun x M2 hx1 hq2 => ?_)
  obtain ⟨k0, k1, k2⟩ := (jtkr (by omega)).mp hk1
  rw [jcvr (T := 8) (x := k) (by omega)]
  obtain ⟨p, l, e, R, s, m, args, below, meth, c, ce, sl, Qf⟩ := X
  obtain ⟨hz, hKs, hx, hb, -, hown, hts, -⟩ := jO_facts hO
  intro H locs hI hL
  obtain ⟨cell, q1, q2, -, q3⟩ := hI.2.2.1 k k0 k1
  have q4 := q3 (by omega)
  rw [k2] at q4
  have hr := jtk20.mp hx1
  refine W.iald hx hb q1 (by rw [q4]; exact hKs.2.1 8 (by decide) (by decide) _ _) (by rw [q2]; exact fun h => by cases h) (v := jSv z M2 k x.toNat) ?_ ?_ rfl rfl hd ?_
  · rw [q4, arrV_size]; exact in32 hq2.1.1 hq2.1.2 hr
  · rw [q4, clamp32 hq2.1.1 hr, arrV_read]
    have := hq2.1; omega
  · have hv : jSv z M2 k x.toNat = .int (Int32.ofInt (M2 k x)) := by
      rw [jSv_i (by rw [s_isr_a k2 (by decide)]; rfl), Int.toNat_of_nonneg hq2.1.1]
    rw [hv]
    exact hk _ M2 (hI.2.2.2 k x) hq2.2 H locs hI hL
theorem jaty_ref : ∀ c, c < 13 → s_aty c < 20 → (jaty c).isReference = true ∧ 8 ≤ c := by decide +kernel
theorem jE_aald {K : jKm} {G : jCt} {d pc p1 p2 p A T d2 : Nat} {o i : jEx} (ho : jE K G d pc p1 A o) (hi : jE K G d2 p1 p2 20 i) (hd : decode (kmC K) p2 = .ok (.aaload, 1)) (hp : p = p2 + 1) (hA : A < 13) (hT : s_aty A = T) (hT2 : T < 20) (hd2 : d2 = d + 1) : jE K G d pc p T (xAr o i) := by
  subst hp; subst hd2
  intro z X hO L M Q ls st hV hc hq hk
  refine ho z X hO L M _ ls st hV hc hq (fun k M1 hk1 hq1 => ?_)
  have hk1c : kcat A = 1 := by unfold kcat; rw [if_neg (by omega)]
  refine hi z X hO L M1 _ ls _ hV (by have := cats_push (z := z) (T := A) (x := k) hc; omega) hq1 (fun x M2 hx1 hq2 => ?_)
  obtain ⟨k0, k1, k2⟩ := (jtkr (by omega)).mp hk1
  rw [jcvr (T := A) (x := k) (by omega)]
  obtain ⟨p, l, e, R, s, m, args, below, meth, c, ce, sl, Qf⟩ := X
  obtain ⟨hz, hKs, hx, hb, -, hown, hts, -⟩ := jO_facts hO
  intro H locs hI hL
  obtain ⟨cell, q1, q2, -, q3⟩ := hI.2.2.1 k k0 k1
  subst hT
  obtain ⟨hA1, hA2⟩ := jaty_ref A hA hT2
  have q4 := q3 (by omega)
  rw [k2] at q4
  have hr := jtk20.mp hx1
  have hwf := (s_wf k0 k1).2.1 (by rw [k2]; exact hT2) x hq2.1.1 hq2.1.2
  rw [k2] at hwf
  refine W.aald hx hb q1 (by rw [q4]; exact hKs.2.1 A hA2 hA _ _) hA1 (by rw [q2]; exact fun h => by cases h) (v := jSv z M2 k x.toNat) ?_ ?_ rfl rfl hd ?_
  · rw [q4, arrV_size]; exact in32 hq2.1.1 hq2.1.2 hr
  · rw [q4, clamp32 hq2.1.1 hr, arrV_read]
    have := hq2.1; omega
  · have hv : jSv z M2 k x.toNat = .ref (z.2.1 (s_rf k x)) := by
      rw [jSv_r (by rw [s_isr_a k2 hA2]; exact decide_eq_true hT2), Int.toNat_of_nonneg hq2.1.1]
    rw [hv]
    have h := hk _ M2 ((jtkr hT2).mpr hwf) hq2.2 H locs hI hL
    rw [jcvr hT2] at h
    exact h
theorem len32 (k : Int) : (s_len k).toNat = s_len k := by unfold s_len; omega
theorem s_lenN : ∀ k : Nat, k < 144 → s_len k ≤ 6000 := by decide +kernel
theorem jE_len {K : jKm} {G : jCt} {d pc p1 p A : Nat} {o : jEx} (ho : jE K G d pc p1 A o) (hd : decode (kmC K) p1 = .ok (.arraylength, 1)) (hp : p = p1 + 1) (hA : A < 13) (hA2 : 8 ≤ A) : jE K G d pc p 20 (xLen o) := by
  subst hp
  intro z X hO L M Q ls st hV hc hq hk
  refine ho z X hO L M _ ls st hV hc hq (fun k M1 hk1 hq1 => ?_)
  obtain ⟨k0, k1, k2⟩ := (jtkr (by omega)).mp hk1
  rw [jcvr (T := A) (x := k) (by omega)]
  obtain ⟨p, l, e, R, s, m, args, below, meth, c, ce, sl, Qf⟩ := X
  obtain ⟨hz, hKs, hx, hb, -, hown, hts, -⟩ := jO_facts hO
  intro H locs hI hL
  obtain ⟨cell, q1, q2, -, q3⟩ := hI.2.2.1 k k0 k1
  have q4 := q3 (by omega)
  rw [k2] at q4
  have hl : s_len k ≤ 6000 := by
    obtain ⟨n, rfl⟩ := Int.eq_ofNat_of_zero_le k0
    exact s_lenN n (by have : (n : Int) < 144 := k1; omega)
  have hl0 := len32 k
  refine W.alen hx hb (n := Int32.ofInt (s_len k)) q1 (by rw [q4]; exact hKs.2.1 A hA2 hA _ _) ?_ rfl rfl hd ?_
  · rw [q4, arrV_size]
    show Int32.ofNat _ = _
    rw [← hl0]; rfl
  · exact hk _ M1 ⟨by omega, by omega⟩ hq1 H locs hI hL
end
section
/-! code that keeps a word: the heap written, truths, deeds -/
theorem jG_put {K : jKm} {z : jZ} {X : jAct} {pc C j i : Nat} {k v : Int} {M : jMm} {ls : Array Slot} {st : List Value} (hO : jO K z X) (hd : decode (kmC K) pc = .ok (.putfield i, 3)) (hC : C < 8) (hN : j < c_N C) (hf : 20 ≤ s_fty C j) (hfin : (c_T C j).2.2.2 = false) (hw : Cond.fieldLink (kmY K).cls i (c_T C j).1 (c_T C j).2.1 (c_T C j).2.2.1 ∈ tG) (hk : jtk C k) (hv : ir v) (hb2 : s_fty C j = 22 → v = 0 ∨ v = 1)
    (kk : jG z X (pc + 3) ls st (jwr M k j v)) : jG z X pc ls (.int (Int32.ofInt v) :: .ref (z.2.1 k) :: st) M := by
  obtain ⟨k0, k1, k2⟩ := (jtkr (by omega)).mp hk
  obtain ⟨p, l, e, R, s, m, args, below, meth, c, ce, sl, Qf⟩ := X
  obtain ⟨hz, hKs, hx, hb, -, hown, hts, -⟩ := jO_facts hO
  intro H locs hI hL
  obtain ⟨cell, q1, q2, q3, -⟩ := hI.2.2.1 k k0 k1
  rw [k2] at q3
  obtain ⟨q4, q5⟩ := q3 hC
  have hap := va_apart (own := "") hts (tG_lay C hC) (fun j => (parseFieldDescriptor (c_T C j).2.2.1).getD .int) (fun j hj => by obtain ⟨t, ht⟩ := c_parse C hC j hj; rw [ht]; rfl) (c_apart C hC) hKs.1 (c_at hC)
  obtain ⟨hS, hfc, kC, hkC, hkind⟩ := hKs.1.1 C _ (c_at hC)
  obtain ⟨cf, kf, fi, f, hi, hsl⟩ := hS j hN
  have hlay := hts _ (tG_lay C hC _ (u_in_lay hN))
  unfold u_lay at hlay
  rw [if_neg (by rw [hfin]; decide)] at hlay
  have hst := (u_facts hfc hkC (u_lays hts (tG_lay C hC) hN) hi).1
  have hnf : narrow (if s_fty C j = 22 then .boolean else .int) (.int (Int32.ofInt v)) = .int (Int32.ofInt v) ∧ fits (if s_fty C j = 22 then .boolean else .int) (.int (Int32.ofInt v)) = true := by
    by_cases h : s_fty C j = 22
    · rw [if_pos h]
      rcases hb2 h with e | e <;> subst e <;> exact ⟨by decide, by decide⟩
    · rw [if_neg h]
      exact ⟨rfl, rfl⟩
  refine W.putK hx hb (f := f) ⟨hown, hts _ hw, ⟨_, _, _, hi⟩, hst⟩ (by rw [q4]; exact u_store hfc hkC hkind hlay hi (c_desc C hC j hN hf) hnf.1 hnf.2) q1 q2 (by rw [hsl]; exact k2_hasslot (q5 j hN)) rfl rfl hd (fun H' e1 e2 e3 => ?_)
  refine kk H' _ (jI_upd hI hz k0 k1 (fun a b h => jwr_ne M (fun q => h q.1)) e2 e3 ⟨_, e1, q2, fun _ => ⟨by rw [k2]; exact q4, fun j' hj' => ?_⟩, fun h => by omega⟩ (fun j' => ?_)) (fun q hq => ?_)
  · rw [k2] at hj' ⊢
    have h := t_set q5 hap hN (.int (Int32.ofInt v)) j' hj'
    rw [hsl, h]
    congr 1
    unfold updV
    by_cases e : j' = j
    · subst e
      rw [if_pos rfl, jSv_i (by rw [s_isr_f k2 hC]; exact decide_eq_false (by omega)), jwr_at]
    · rw [if_neg e]
      unfold jSv
      rw [jwr_ne M (fun q => e (by have := q.2; omega))]
  · by_cases e : j' = j
    · subst e; rw [jwr_at]; exact hv
    · rw [jwr_ne M (fun q => e q.2)]; exact hI.2.2.2 k j'
  · rcases List.mem_append.mp hq with h | h
    · exact hL q h
    · rw [List.mem_singleton.mp h]; exact hz.2 k k0 k1
theorem jS_put {K : jKm} {G : jCt} {pc p1 p2 t C j i d1 : Nat} {ji : Int} {o e : jEx} (ho : jE K G 0 pc p1 C o) (he : jE K G d1 p1 p2 20 e) (hd : decode (kmC K) p2 = .ok (.putfield i, 3)) (hp : t = p2 + 3) (hj : ji = (j : Int)) (hC : C < 8) (hN : j < c_N C) (hf : s_fty C j = 20) (hfin : (c_T C j).2.2.2 = false) (hw : Cond.fieldLink (kmY K).cls i (c_T C j).1 (c_T C j).2.1 (c_T C j).2.2.1 ∈ tG) (hd1 : d1 = 1) : jS K G G pc t (tPut o ji e) := by
  subst hp; subst hj; subst hd1
  intro z X hO L M N R ls hV hq hN' hR
  refine ho z X hO L M _ ls [] hV (Nat.le_refl 0) hq (fun k M1 hk1 hq1 => ?_)
  refine he z X hO L M1 _ ls _ hV (by have := cats_push (z := z) (T := C) (x := k) (Nat.le_refl (cats [])); rw [show kcat C = 1 by unfold kcat; rw [if_neg (by omega)]] at this; exact this) hq1 (fun v M2 hv hq2 => ?_)
  rw [jcvr (T := C) (x := k) (by omega)]
  exact jG_put hO hd hC hN (by omega) hfin hw hk1 hv (fun h => by omega) (hN' L _ ls hV hq2)
theorem jS_putZ {K : jKm} {G : jCt} {pc p1 p2 t C j i d1 : Nat} {ji : Int} {o e : jEx} (ho : jE K G 0 pc p1 C o) (he : jE K G d1 p1 p2 20 e) (hd : decode (kmC K) p2 = .ok (.putfield i, 3)) (hp : t = p2 + 3) (hj : ji = (j : Int)) (hC : C < 8) (hN : j < c_N C) (hf : s_fty C j = 22) (hfin : (c_T C j).2.2.2 = false) (hw : Cond.fieldLink (kmY K).cls i (c_T C j).1 (c_T C j).2.1 (c_T C j).2.2.1 ∈ tG) (hd1 : d1 = 1) : jS K G G pc t (tPutZ o ji e) := by
  subst hp; subst hj; subst hd1
  intro z X hO L M N R ls hV hq hN' hR
  refine ho z X hO L M _ ls [] hV (Nat.le_refl 0) hq (fun k M1 hk1 hq1 => ?_)
  refine he z X hO L M1 _ ls _ hV (by have := cats_push (z := z) (T := C) (x := k) (Nat.le_refl (cats [])); rw [show kcat C = 1 by unfold kcat; rw [if_neg (by omega)]] at this; exact this) hq1 (fun v M2 hv hq2 => ?_)
  rw [jcvr (T := C) (x := k) (by omega)]
  exact jG_put hO hd hC hN (by omega) hfin hw hk1 hv (fun _ => hq2.1) (hN' L _ ls hV hq2.2)
theorem jG_getf {K : jKm} {z : jZ} {X : jAct} {pc C j i : Nat} {k : Int} {M : jMm} {ls : Array Slot} {st : List Value} (hO : jO K z X) (hd : decode (kmC K) pc = .ok (.getfield i, 3)) (hC : C < 8) (hN : j < c_N C) (hf : 20 ≤ s_fty C j) (hw : Cond.fieldLink (kmY K).cls i (c_T C j).1 (c_T C j).2.1 (c_T C j).2.2.1 ∈ tG) (hk : jtk C k)
    (kk : ir (M k j) → jG z X (pc + 3) ls (.int (Int32.ofInt (M k j)) :: st) M) : jG z X pc ls (.ref (z.2.1 k) :: st) M := by
  obtain ⟨k0, k1, k2⟩ := (jtkr (by omega)).mp hk
  obtain ⟨p, l, e, R, s, m, args, below, meth, c, ce, sl, Qf⟩ := X
  obtain ⟨hz, hKs, hx, hb, -, hown, hts, -⟩ := jO_facts hO
  intro H locs hI hL
  obtain ⟨cell, q1, q2, q3, -⟩ := hI.2.2.1 k k0 k1
  rw [k2] at q3
  obtain ⟨q4, q5⟩ := q3 hC
  obtain ⟨hS, hfc, kC, hkC, hkind⟩ := hKs.1.1 C _ (c_at hC)
  obtain ⟨cf, kf, fi, f, hi, hsl⟩ := hS j hN
  refine W.getf hx hb hown (hts _ hw) hi (u_facts hfc hkC (u_lays hts (tG_lay C hC) hN) hi).1 q1 (by rw [q2]; exact fun h => by cases h) (v := jSv z M k j) ?_ rfl rfl hd ?_
  · rw [hsl]; exact q5 j hN
  · rw [jSv_i (by rw [s_isr_f k2 hC]; exact decide_eq_false (by omega))]
    exact kk (hI.2.2.2 k j) H locs hI hL
theorem jG_iald {K : jKm} {z : jZ} {X : jAct} {pc : Nat} {k x : Int} {M : jMm} {ls : Array Slot} {st : List Value} (hO : jO K z X) (hd : decode (kmC K) pc = .ok (.iaload, 1)) (hk : jtk 8 k) (hx1 : ir x) (hin : 0 ≤ x ∧ x < s_len k)
    (kk : ir (M k x) → jG z X (pc + 1) ls (.int (Int32.ofInt (M k x)) :: st) M) : jG z X pc ls (.int (Int32.ofInt x) :: .ref (z.2.1 k) :: st) M := by
  obtain ⟨k0, k1, k2⟩ := (jtkr (by omega)).mp hk
  obtain ⟨p, l, e, R, s, m, args, below, meth, c, ce, sl, Qf⟩ := X
  obtain ⟨hz, hKs, hx, hb, -, hown, hts, -⟩ := jO_facts hO
  intro H locs hI hL
  obtain ⟨cell, q1, q2, -, q3⟩ := hI.2.2.1 k k0 k1
  have q4 := q3 (by omega)
  rw [k2] at q4
  refine W.iald hx hb q1 (by rw [q4]; exact hKs.2.1 8 (by decide) (by decide) _ _) (by rw [q2]; exact fun h => by cases h) (v := jSv z M k x.toNat) ?_ ?_ rfl rfl hd ?_
  · rw [q4, arrV_size]; exact in32 hin.1 hin.2 hx1
  · rw [q4, clamp32 hin.1 hx1, arrV_read]
    have := hin; omega
  · rw [jSv_i (by rw [s_isr_a k2 (by decide)]; rfl), Int.toNat_of_nonneg hin.1]
    exact kk (hI.2.2.2 k x) H locs hI hL
theorem jG_iast {K : jKm} {z : jZ} {X : jAct} {pc : Nat} {k x v : Int} {M : jMm} {ls : Array Slot} {st : List Value} (hO : jO K z X) (hd : decode (kmC K) pc = .ok (.iastore, 1)) (hk : jtk 8 k) (hx1 : ir x) (hv : ir v) (hin : 0 ≤ x ∧ x < s_len k)
    (kk : jG z X (pc + 1) ls st (jwr M k x v)) : jG z X pc ls (.int (Int32.ofInt v) :: .int (Int32.ofInt x) :: .ref (z.2.1 k) :: st) M := by
  obtain ⟨k0, k1, k2⟩ := (jtkr (by omega)).mp hk
  obtain ⟨p, l, e, R, s, m, args, below, meth, c, ce, sl, Qf⟩ := X
  obtain ⟨hz, hKs, hx, hb, -, hown, hts, -⟩ := jO_facts hO
  intro H locs hI hL
  obtain ⟨cell, q1, q2, -, q3⟩ := hI.2.2.1 k k0 k1
  have q4 := q3 (by omega)
  refine W.iast hx hb q1 (by rw [q4, k2]; exact hKs.2.1 8 (by decide) (by decide) _ _) (by rw [q2]; exact fun h => by cases h) (by rw [q4, arrV_size]; exact in32 hin.1 hin.2 hx1) rfl rfl hd (fun H' e1 e2 e3 => ?_)
  refine kk H' _ (jI_upd hI hz k0 k1 (fun a b h => jwr_ne M (fun q => h q.1)) e2 e3 ⟨_, e1, q2, fun h => by omega, fun _ => ?_⟩ (fun j' => ?_)) (fun q hq => ?_)
  · rw [q4, arrV_store]
    congr 1
    funext j
    unfold updV
    rw [clamp32 hin.1 hx1]
    by_cases e : j = x.toNat
    · rw [if_pos e, jSv_i (by rw [s_isr_a k2 (by decide)]; rfl), e, Int.toNat_of_nonneg hin.1, jwr_at]
    · rw [if_neg e, jSv_i (by rw [s_isr_a k2 (by decide)]; rfl), jSv_i (by rw [s_isr_a k2 (by decide)]; rfl), jwr_ne M (fun q => e (by have := q.2; omega))]
  · by_cases e : j' = x
    · subst e; rw [jwr_at]; exact hv
    · rw [jwr_ne M (fun q => e q.2)]; exact hI.2.2.2 k j'
  · rcases List.mem_append.mp hq with h | h
    · exact hL q h
    · rw [List.mem_singleton.mp h]; exact hz.2 k k0 k1
/-- o.f op= e: o; dup; getfield; e; op; putfield -/
theorem jS_putO {K : jKm} {G : jCt} {pc p1 p2 p3 p4 t C j i d2 : Nat} {ji : Int} {o e : jEx} {b : jBo} (ho : jE K G 0 pc p1 C o) (hdup : decode (kmC K) p1 = .ok (.dup, 1)) (hg : decode (kmC K) (p1 + 1) = .ok (.getfield i, 3)) (hp2 : p2 = p1 + 4) (he : jE K G d2 p2 p3 20 e) (hb : jB K 1 p3 p4 20 20 20 b) (hd : decode (kmC K) p4 = .ok (.putfield i, 3)) (hp : t = p4 + 3) (hj : ji = (j : Int)) (hC : C < 8) (hN : j < c_N C) (hf : s_fty C j = 20) (hfin : (c_T C j).2.2.2 = false) (hw : Cond.fieldLink (kmY K).cls i (c_T C j).1 (c_T C j).2.1 (c_T C j).2.2.1 ∈ tG) (hd2 : d2 = 2) : jS K G G pc t (tPutO b o ji e) := by
  subst hp; subst hj; subst hd2; subst hp2
  intro z X hO L M N R ls hV hq hN' hR
  refine ho z X hO L M _ ls [] hV (Nat.le_refl 0) hq (fun k M1 hk1 hq1 => ?_)
  rw [jcvr (T := C) (x := k) (by omega)]
  refine jstep hO (pc' := p1 + 1) (ls' := ls) (st' := [.ref (z.2.1 k), .ref (z.2.1 k)]) (fun p l e R s m args below meth c ce sl Qf H locs _ hx hb k => lv_dup hx hb hdup rfl k) ?_
  refine jG_getf hO hg hC hN (by omega) hw hk1 (fun hr => ?_)
  refine he z X hO L M1 _ ls [.int (Int32.ofInt (M1 k j)), .ref (z.2.1 k)] hV (Nat.le_refl 2) hq1 (fun v M2 hv hq2 => ?_)
  refine hb z X hO M2 _ ls [.ref (z.2.1 k)] (M1 k j) v hV.1 (Nat.le_refl 1) hr hv hq2 (fun r hr2 hq3 => ?_)
  exact jG_put hO hd hC hN (by omega) hfin hw hk1 hr2 (fun h => by omega) (hN' L _ ls hV hq3)
theorem jS_ast {K : jKm} {G : jCt} {pc p1 p2 p3 t d1 d2 : Nat} {o i e : jEx} (ho : jE K G 0 pc p1 8 o) (hi : jE K G d1 p1 p2 20 i) (he : jE K G d2 p2 p3 20 e) (hd : decode (kmC K) p3 = .ok (.iastore, 1)) (hp : t = p3 + 1) (hd1 : d1 = 1) (hd2 : d2 = 2) : jS K G G pc t (tAst o i e) := by
  subst hp; subst hd1; subst hd2
  intro z X hO L M N R ls hV hq hN' hR
  refine ho z X hO L M _ ls [] hV (Nat.le_refl 0) hq (fun k M1 hk1 hq1 => ?_)
  refine hi z X hO L M1 _ ls [jcv z 8 k] hV (Nat.le_refl 1) hq1 (fun x M2 hx hq2 => ?_)
  refine he z X hO L M2 _ ls [jcv z 20 x, jcv z 8 k] hV (Nat.le_refl 2) hq2 (fun v M3 hv hq3 => ?_)
  exact jG_iast hO hd hk1 hx hv hq3.1 (hN' L _ ls hV hq3.2)
/-- o[i] op= e: o; i; dup2; iaload; e; op; iastore -/
theorem jS_astO {K : jKm} {G : jCt} {pc p1 p2 p3 p4 p5 t d1 d3 : Nat} {o i e : jEx} {b : jBo} (ho : jE K G 0 pc p1 8 o) (hi : jE K G d1 p1 p2 20 i) (hdup : decode (kmC K) p2 = .ok (.dup2, 1)) (hg : decode (kmC K) (p2 + 1) = .ok (.iaload, 1)) (hp3 : p3 = p2 + 2) (he : jE K G d3 p3 p4 20 e) (hb : jB K 2 p4 p5 20 20 20 b) (hd : decode (kmC K) p5 = .ok (.iastore, 1)) (hp : t = p5 + 1) (hd1 : d1 = 1) (hd3 : d3 = 3) : jS K G G pc t (tAstO b o i e) := by
  subst hp; subst hd1; subst hd3; subst hp3
  intro z X hO L M N R ls hV hq hN' hR
  refine ho z X hO L M _ ls [] hV (Nat.le_refl 0) hq (fun k M1 hk1 hq1 => ?_)
  refine hi z X hO L M1 _ ls [jcv z 8 k] hV (Nat.le_refl 1) hq1 (fun x M2 hx hq2 => ?_)
  refine jstep hO (pc' := p2 + 1) (ls' := ls) (st' := [.int (Int32.ofInt x), .ref (z.2.1 k), .int (Int32.ofInt x), .ref (z.2.1 k)]) (fun p l e R s m args below meth c ce sl Qf H locs _ hx hb k => lv_dup2_11 hx hb hdup rfl rfl k) ?_
  refine jG_iald hO hg hk1 hx hq2.1 (fun hr => ?_)
  refine he z X hO L M2 _ ls [.int (Int32.ofInt (M2 k x)), .int (Int32.ofInt x), .ref (z.2.1 k)] hV (Nat.le_refl 3) hq2.2 (fun v M3 hv hq3 => ?_)
  refine hb z X hO M3 _ ls [.int (Int32.ofInt x), .ref (z.2.1 k)] (M2 k x) v hV.1 (Nat.le_refl 2) hr hv hq3 (fun r hr2 hq4 => ?_)
  exact jG_iast hO hd hk1 hx hr2 hq2.1 (hN' L _ ls hV hq4)
theorem jV_set {K : jKm} {z : jZ} {G G' : jCt} {L : jLo} {ls ls' : Array Slot} {i T : Nat} {v : Int} (hV : jV K z G L ls) (hT : T ≠ 21) (hv : jtk T v) (hi : i < kmN K) (hs : storeLocals ls i (jcv z T v) = some ls') (hG : G' = (i, T) :: G.filter (fun q => q.1 != i)) (hno : G.all (fun q => q.2 != 21 || q.1 + 1 != i) = true) : jV K z G' (jup L i v) ls' := by
  subst hG
  have hc : (jcv z T v).category = 1 := jcv_cat1 z v hT
  have all : ∀ l, lv_has ls (kmN K) l → lv_has ls' (kmN K) ((i, jcv z T v) :: l.filter (fun q => !(q.1 == i) && !(q.1 + 1 == i && q.2.category == 2))) := by
    intro l hl
    obtain ⟨l2, e, h⟩ := lv_store1 hl hi hc
    rw [hs] at e
    cases e
    exact h
  have h0 := all [] ⟨hV.1, hV.2.1, fun _ h => by cases h⟩
  refine ⟨h0.1, h0.2.1, fun q hq => ?_⟩
  rcases List.mem_cons.mp hq with h | h
  · subst h
    refine ⟨?_, ?_⟩
    · rw [show jup L i v i = v from if_pos rfl]
      exact h0.2.2 _ List.mem_cons_self
    · rw [show jup L i v i = v from if_pos rfl]; exact hv
  · obtain ⟨h1, h2⟩ := List.mem_filter.mp h
    have hne : q.1 ≠ i := by simpa using h2
    obtain ⟨g1, g2⟩ := hV.2.2 q h1
    rw [show jup L i v q.1 = L q.1 from if_neg hne]
    refine ⟨?_, g2⟩
    have h3 := all [(q.1, jcv z q.2 (L q.1))] ⟨hV.1, hV.2.1, fun r hr => by rw [List.mem_singleton.mp hr]; exact g1⟩
    refine h3.2.2 (q.1, jcv z q.2 (L q.1)) (List.mem_cons_of_mem _ (List.mem_filter.mpr ⟨List.mem_singleton.mpr rfl, ?_⟩))
    have h4 := List.all_eq_true.mp hno q h1
    have hq1 : (q.1 == i) = false := by simpa using hne
    simp only [hq1, Bool.not_false, Bool.true_and, Bool.not_eq_true', Bool.and_eq_false_iff]
    simp only [Bool.or_eq_true, bne_iff_ne, ne_eq] at h4
    rcases h4 with h4 | h4
    · right
      rw [jcv_cat1 z _ h4]; rfl
    · left
      simpa using h4
theorem jS_istore_n {K : jKm} {G G2 : jCt} {pc p1 t i : Nat} {k : Fin 4} {e : jEx} (he : jE K G 0 pc p1 20 e) (hd : decode (kmC K) p1 = .ok (.istore_n k, 1)) (hik : (k : Nat) = i) (hp : t = p1 + 1) (hi : i < kmN K) (hG : G2 = (i, 20) :: G.filter (fun q => q.1 != i)) (hno : G.all (fun q => q.2 != 21 || q.1 + 1 != i) = true) : jS K G G2 pc t (tSet i e) := by
  subst hp
  intro z X hO L M N R ls hV hq hN' hR
  refine he z X hO L M _ ls [] hV (Nat.le_refl 0) hq (fun v M1 hv hq1 => ?_)
  obtain ⟨ls', hs, hh⟩ := lv_store1 (l := []) ⟨hV.1, hV.2.1, fun _ h => by cases h⟩ hi (jcv_cat1 z (T := 20) v (by omega))
  have h := hN' _ M1 ls' (jV_set (T := 20) hV (by omega) hv hi hs hG hno) hq1
  rw [jcv20] at hs ⊢
  refine jstep hO (fun p l e R s m args below meth c ce sl Qf H locs _ hx hb kk => ?_) h
  intro T1 hT1 X1
  obtain ⟨t, a, b⟩ := kk T1 hT1 X1
  refine ⟨t, ?_, b⟩
  subst hik
  jvm_step X1.here [X1.here.top, ↓top_set X1.here.top, hx, hb, hd, hs]
  exact a
theorem jS_istore {K : jKm} {G G2 : jCt} {pc p1 t i : Nat} {e : jEx} (he : jE K G 0 pc p1 20 e) (hd : decode (kmC K) p1 = .ok (.istore i, 2)) (hp : t = p1 + 2) (hi : i < kmN K) (hG : G2 = (i, 20) :: G.filter (fun q => q.1 != i)) (hno : G.all (fun q => q.2 != 21 || q.1 + 1 != i) = true) : jS K G G2 pc t (tSet i e) := by
  subst hp
  intro z X hO L M N R ls hV hq hN' hR
  refine he z X hO L M _ ls [] hV (Nat.le_refl 0) hq (fun v M1 hv hq1 => ?_)
  obtain ⟨ls', hs, hh⟩ := lv_store1 (l := []) ⟨hV.1, hV.2.1, fun _ h => by cases h⟩ hi (jcv_cat1 z (T := 20) v (by omega))
  have h := hN' _ M1 ls' (jV_set (T := 20) hV (by omega) hv hi hs hG hno) hq1
  rw [jcv20] at hs ⊢
  refine jstep hO (fun p l e R s m args below meth c ce sl Qf H locs _ hx hb kk => ?_) h
  intro T1 hT1 X1
  obtain ⟨t, a, b⟩ := kk T1 hT1 X1
  refine ⟨t, ?_, b⟩
  jvm_step X1.here [X1.here.top, ↓top_set X1.here.top, hx, hb, hd, hs]
  exact a
theorem jS_astore_n {K : jKm} {G G2 : jCt} {pc p1 t i : Nat} {k : Fin 4} {T : Nat} {e : jEx} (he : jE K G 0 pc p1 T e) (hd : decode (kmC K) p1 = .ok (.astore_n k, 1)) (hik : (k : Nat) = i) (hT : T < 20) (hp : t = p1 + 1) (hi : i < kmN K) (hG : G2 = (i, T) :: G.filter (fun q => q.1 != i)) (hno : G.all (fun q => q.2 != 21 || q.1 + 1 != i) = true) : jS K G G2 pc t (tSet i e) := by
  subst hp
  intro z X hO L M N R ls hV hq hN' hR
  refine he z X hO L M _ ls [] hV (Nat.le_refl 0) hq (fun v M1 hv hq1 => ?_)
  obtain ⟨ls', hs, hh⟩ := lv_store1 (l := []) ⟨hV.1, hV.2.1, fun _ h => by cases h⟩ hi (jcv_cat1 z (T := T) v (by omega))
  have h := hN' _ M1 ls' (jV_set (T := T) hV (by omega) hv hi hs hG hno) hq1
  rw [jcvr (T := T) (x := v) (by omega)] at hs ⊢
  refine jstep hO (fun p l e R s m args below meth c ce sl Qf H locs _ hx hb kk => ?_) h
  intro T1 hT1 X1
  obtain ⟨t, a, b⟩ := kk T1 hT1 X1
  refine ⟨t, ?_, b⟩
  subst hik
  jvm_step X1.here [X1.here.top, ↓top_set X1.here.top, hx, hb, hd, hs, Value.isRef]
  exact a
theorem jS_astore {K : jKm} {G G2 : jCt} {pc p1 t i : Nat} {T : Nat} {e : jEx} (he : jE K G 0 pc p1 T e) (hd : decode (kmC K) p1 = .ok (.astore i, 2)) (hT : T < 20) (hp : t = p1 + 2) (hi : i < kmN K) (hG : G2 = (i, T) :: G.filter (fun q => q.1 != i)) (hno : G.all (fun q => q.2 != 21 || q.1 + 1 != i) = true) : jS K G G2 pc t (tSet i e) := by
  subst hp
  intro z X hO L M N R ls hV hq hN' hR
  refine he z X hO L M _ ls [] hV (Nat.le_refl 0) hq (fun v M1 hv hq1 => ?_)
  obtain ⟨ls', hs, hh⟩ := lv_store1 (l := []) ⟨hV.1, hV.2.1, fun _ h => by cases h⟩ hi (jcv_cat1 z (T := T) v (by omega))
  have h := hN' _ M1 ls' (jV_set (T := T) hV (by omega) hv hi hs hG hno) hq1
  rw [jcvr (T := T) (x := v) (by omega)] at hs ⊢
  refine jstep hO (fun p l e R s m args below meth c ce sl Qf H locs _ hx hb kk => ?_) h
  intro T1 hT1 X1
  obtain ⟨t, a, b⟩ := kk T1 hT1 X1
  refine ⟨t, ?_, b⟩
  jvm_step X1.here [X1.here.top, ↓top_set X1.here.top, hx, hb, hd, hs, Value.isRef]
  exact a
theorem jS_iinc {K : jKm} {G : jCt} {pc t i : Nat} {n : Int} (hd : decode (kmC K) pc = .ok (.iinc i n, 3)) (hp : t = pc + 3) (hi : i < kmN K) (hm : (i, 20) ∈ G) (hno : G.all (fun q => q.1 != i || q.2 == 20) = true) (hno2 : G.all (fun q => q.2 != 21 || q.1 + 1 != i) = true) : jS K G G pc t (tInc i n) := by
  subst hp
  intro z X hO L M N R ls hV hq hN' hR
  have hg := (hV.2.2 _ hm).1
  obtain ⟨ls', hs, hh⟩ := lv_store1 (l := []) ⟨hV.1, hV.2.1, fun _ h => by cases h⟩ hi (jcv_cat1 z (T := 20) (L i + n) (by decide))
  have hV2 := jV_set (T := 20) hV (by decide) hq.1 hi hs rfl hno2
  have hV3 : jV K z G (jup L i (L i + n)) ls' := by
    refine ⟨hV2.1, hV2.2.1, fun q hqG => ?_⟩
    by_cases e : q.1 = i
    · have h4 := List.all_eq_true.mp hno q hqG
      have h5 : q.2 = 20 := by simpa [e] using h4
      have : q = (i, 20) := Prod.ext e h5
      rw [this]; exact hV2.2.2 _ List.mem_cons_self
    · exact hV2.2.2 q (List.mem_cons_of_mem _ (List.mem_filter.mpr ⟨hqG, by simpa using e⟩))
  have h := hN' _ M ls' hV3 hq.2
  refine jstep hO (fun p l e R s m args below meth c ce sl Qf H locs _ hx hb kk => ?_) h
  intro T1 hT1 X1
  obtain ⟨t, a, b⟩ := kk T1 hT1 X1
  refine ⟨t, ?_, b⟩
  dsimp only at hg
  rw [jcv20] at hg hs
  rw [Int32.ofInt_add] at hs
  jvm_step X1.here [X1.here.top, ↓top_set X1.here.top, hx, hb, hd, hg, hs]
  exact a
end
section
/-! code that keeps a word: truths, the order of deeds, calls -/
theorem jC_icmp_eq_p {K : jKm} {G : jCt} {d d1 pc p1 p2 p3 tgt : Nat} {a b : jEx} {off : Int} (ha : jE K G d pc p1 20 a) (hb : jE K G d1 p1 p2 20 b) (hd : decode (kmC K) p2 = .ok (.if_icmp .eq off, 3)) (hp : p3 = p2 + 3) (ht : (p2 : Int) + off = (tgt : Int)) (hd1 : d1 = d + 1) : jC K G d pc tgt p3 (kR (fun x y => x = y) a b) := by
  subst hp; subst hd1
  intro z X hO L M T F ls st hV hc hq hT hF
  refine ha z X hO L M _ ls st hV hc hq (fun x M1 hv1 hq1 => ?_)
  refine hb z X hO L M1 _ ls _ hV (cats_push hc) hq1 (fun y M2 hv2 hq2 => ?_)
  rw [jtk20] at hv1 hv2
  obtain ⟨p, l, e, R, s, m, args, below, meth, c, ce, sl, Qf⟩ := X
  obtain ⟨-, -, hx, hb, -⟩ := jO_facts hO
  intro H locs hI hL
  refine lv_icmp_eq hx hb hd ht (fun q => ?_) (fun q => ?_)
  · have q : x = y := (eq32 hv1 hv2).mp q
    exact hT M2 (hq2.1 q) H locs hI hL
  · have q : ¬ x = y := fun h => q ((eq32 hv1 hv2).mpr h)
    exact hF M2 (hq2.2 q) H locs hI hL
theorem jC_if_eq_p {K : jKm} {G : jCt} {d pc p1 p3 tgt : Nat} {a : jEx} {off : Int} (ha : jE K G d pc p1 20 a) (hd : decode (kmC K) p1 = .ok (.ifCond .eq off, 3)) (hp : p3 = p1 + 3) (ht : (p1 : Int) + off = (tgt : Int)) : jC K G d pc tgt p3 (kZ (fun x y => x = y) a) := by
  subst hp
  intro z X hO L M T F ls st hV hc hq hT hF
  refine ha z X hO L M _ ls st hV hc hq (fun x M2 hv1 hq2 => ?_)
  rw [jtk20] at hv1
  have hv2 : ir 0 := ⟨by decide, by decide⟩
  obtain ⟨p, l, e, R, s, m, args, below, meth, c, ce, sl, Qf⟩ := X
  obtain ⟨-, -, hx, hb, -⟩ := jO_facts hO
  intro H locs hI hL
  refine lv_if_eq hx hb hd ht (fun q => ?_) (fun q => ?_)
  · have q : x = 0 := (eq32 hv1 hv2).mp q
    exact hT M2 (hq2.1 q) H locs hI hL
  · have q : ¬ x = 0 := fun h => q ((eq32 hv1 hv2).mpr h)
    exact hF M2 (hq2.2 q) H locs hI hL
theorem jC_icmp_eq_n {K : jKm} {G : jCt} {d d1 pc p1 p2 p3 tgt : Nat} {a b : jEx} {off : Int} (ha : jE K G d pc p1 20 a) (hb : jE K G d1 p1 p2 20 b) (hd : decode (kmC K) p2 = .ok (.if_icmp .eq off, 3)) (hp : p3 = p2 + 3) (ht : (p2 : Int) + off = (tgt : Int)) (hd1 : d1 = d + 1) : jC K G d pc p3 tgt (kR (fun x y => x ≠ y) a b) := by
  subst hp; subst hd1
  intro z X hO L M T F ls st hV hc hq hT hF
  refine ha z X hO L M _ ls st hV hc hq (fun x M1 hv1 hq1 => ?_)
  refine hb z X hO L M1 _ ls _ hV (cats_push hc) hq1 (fun y M2 hv2 hq2 => ?_)
  rw [jtk20] at hv1 hv2
  obtain ⟨p, l, e, R, s, m, args, below, meth, c, ce, sl, Qf⟩ := X
  obtain ⟨-, -, hx, hb, -⟩ := jO_facts hO
  intro H locs hI hL
  refine lv_icmp_eq hx hb hd ht (fun q => ?_) (fun q => ?_)
  · have q : x = y := (eq32 hv1 hv2).mp q
    exact hF M2 (hq2.2 (fun h => h q)) H locs hI hL
  · have q : ¬ x = y := fun h => q ((eq32 hv1 hv2).mpr h)
    exact hT M2 (hq2.1 q) H locs hI hL
theorem jC_if_eq_n {K : jKm} {G : jCt} {d pc p1 p3 tgt : Nat} {a : jEx} {off : Int} (ha : jE K G d pc p1 20 a) (hd : decode (kmC K) p1 = .ok (.ifCond .eq off, 3)) (hp : p3 = p1 + 3) (ht : (p1 : Int) + off = (tgt : Int)) : jC K G d pc p3 tgt (kZ (fun x y => x ≠ y) a) := by
  subst hp
  intro z X hO L M T F ls st hV hc hq hT hF
  refine ha z X hO L M _ ls st hV hc hq (fun x M2 hv1 hq2 => ?_)
  rw [jtk20] at hv1
  have hv2 : ir 0 := ⟨by decide, by decide⟩
  obtain ⟨p, l, e, R, s, m, args, below, meth, c, ce, sl, Qf⟩ := X
  obtain ⟨-, -, hx, hb, -⟩ := jO_facts hO
  intro H locs hI hL
  refine lv_if_eq hx hb hd ht (fun q => ?_) (fun q => ?_)
  · have q : x = 0 := (eq32 hv1 hv2).mp q
    exact hF M2 (hq2.2 (fun h => h q)) H locs hI hL
  · have q : ¬ x = 0 := fun h => q ((eq32 hv1 hv2).mpr h)
    exact hT M2 (hq2.1 q) H locs hI hL
theorem jC_icmp_ne_p {K : jKm} {G : jCt} {d d1 pc p1 p2 p3 tgt : Nat} {a b : jEx} {off : Int} (ha : jE K G d pc p1 20 a) (hb : jE K G d1 p1 p2 20 b) (hd : decode (kmC K) p2 = .ok (.if_icmp .ne off, 3)) (hp : p3 = p2 + 3) (ht : (p2 : Int) + off = (tgt : Int)) (hd1 : d1 = d + 1) : jC K G d pc tgt p3 (kR (fun x y => x ≠ y) a b) := by
  subst hp; subst hd1
  intro z X hO L M T F ls st hV hc hq hT hF
  refine ha z X hO L M _ ls st hV hc hq (fun x M1 hv1 hq1 => ?_)
  refine hb z X hO L M1 _ ls _ hV (cats_push hc) hq1 (fun y M2 hv2 hq2 => ?_)
  rw [jtk20] at hv1 hv2
  obtain ⟨p, l, e, R, s, m, args, below, meth, c, ce, sl, Qf⟩ := X
  obtain ⟨-, -, hx, hb, -⟩ := jO_facts hO
  intro H locs hI hL
  refine lv_icmp_ne hx hb hd ht (fun q => ?_) (fun q => ?_)
  · have q : ¬ x = y := fun h => q ((eq32 hv1 hv2).mpr h)
    exact hT M2 (hq2.1 q) H locs hI hL
  · have q : x = y := (eq32 hv1 hv2).mp q
    exact hF M2 (hq2.2 (fun h => h q)) H locs hI hL
theorem jC_if_ne_p {K : jKm} {G : jCt} {d pc p1 p3 tgt : Nat} {a : jEx} {off : Int} (ha : jE K G d pc p1 20 a) (hd : decode (kmC K) p1 = .ok (.ifCond .ne off, 3)) (hp : p3 = p1 + 3) (ht : (p1 : Int) + off = (tgt : Int)) : jC K G d pc tgt p3 (kZ (fun x y => x ≠ y) a) := by
  subst hp
  intro z X hO L M T F ls st hV hc hq hT hF
  refine ha z X hO L M _ ls st hV hc hq (fun x M2 hv1 hq2 => ?_)
  rw [jtk20] at hv1
  have hv2 : ir 0 := ⟨by decide, by decide⟩
  obtain ⟨p, l, e, R, s, m, args, below, meth, c, ce, sl, Qf⟩ := X
  obtain ⟨-, -, hx, hb, -⟩ := jO_facts hO
  intro H locs hI hL
  refine lv_if_ne hx hb hd ht (fun q => ?_) (fun q => ?_)
  · have q : ¬ x = 0 := fun h => q ((eq32 hv1 hv2).mpr h)
    exact hT M2 (hq2.1 q) H locs hI hL
  · have q : x = 0 := (eq32 hv1 hv2).mp q
    exact hF M2 (hq2.2 (fun h => h q)) H locs hI hL
theorem jC_icmp_ne_n {K : jKm} {G : jCt} {d d1 pc p1 p2 p3 tgt : Nat} {a b : jEx} {off : Int} (ha : jE K G d pc p1 20 a) (hb : jE K G d1 p1 p2 20 b) (hd : decode (kmC K) p2 = .ok (.if_icmp .ne off, 3)) (hp : p3 = p2 + 3) (ht : (p2 : Int) + off = (tgt : Int)) (hd1 : d1 = d + 1) : jC K G d pc p3 tgt (kR (fun x y => x = y) a b) := by
  subst hp; subst hd1
  intro z X hO L M T F ls st hV hc hq hT hF
  refine ha z X hO L M _ ls st hV hc hq (fun x M1 hv1 hq1 => ?_)
  refine hb z X hO L M1 _ ls _ hV (cats_push hc) hq1 (fun y M2 hv2 hq2 => ?_)
  rw [jtk20] at hv1 hv2
  obtain ⟨p, l, e, R, s, m, args, below, meth, c, ce, sl, Qf⟩ := X
  obtain ⟨-, -, hx, hb, -⟩ := jO_facts hO
  intro H locs hI hL
  refine lv_icmp_ne hx hb hd ht (fun q => ?_) (fun q => ?_)
  · have q : ¬ x = y := fun h => q ((eq32 hv1 hv2).mpr h)
    exact hF M2 (hq2.2 q) H locs hI hL
  · have q : x = y := (eq32 hv1 hv2).mp q
    exact hT M2 (hq2.1 q) H locs hI hL
theorem jC_if_ne_n {K : jKm} {G : jCt} {d pc p1 p3 tgt : Nat} {a : jEx} {off : Int} (ha : jE K G d pc p1 20 a) (hd : decode (kmC K) p1 = .ok (.ifCond .ne off, 3)) (hp : p3 = p1 + 3) (ht : (p1 : Int) + off = (tgt : Int)) : jC K G d pc p3 tgt (kZ (fun x y => x = y) a) := by
  subst hp
  intro z X hO L M T F ls st hV hc hq hT hF
  refine ha z X hO L M _ ls st hV hc hq (fun x M2 hv1 hq2 => ?_)
  rw [jtk20] at hv1
  have hv2 : ir 0 := ⟨by decide, by decide⟩
  obtain ⟨p, l, e, R, s, m, args, below, meth, c, ce, sl, Qf⟩ := X
  obtain ⟨-, -, hx, hb, -⟩ := jO_facts hO
  intro H locs hI hL
  refine lv_if_ne hx hb hd ht (fun q => ?_) (fun q => ?_)
  · have q : ¬ x = 0 := fun h => q ((eq32 hv1 hv2).mpr h)
    exact hF M2 (hq2.2 q) H locs hI hL
  · have q : x = 0 := (eq32 hv1 hv2).mp q
    exact hT M2 (hq2.1 q) H locs hI hL
theorem jC_icmp_lt_p {K : jKm} {G : jCt} {d d1 pc p1 p2 p3 tgt : Nat} {a b : jEx} {off : Int} (ha : jE K G d pc p1 20 a) (hb : jE K G d1 p1 p2 20 b) (hd : decode (kmC K) p2 = .ok (.if_icmp .lt off, 3)) (hp : p3 = p2 + 3) (ht : (p2 : Int) + off = (tgt : Int)) (hd1 : d1 = d + 1) : jC K G d pc tgt p3 (kR (fun x y => x < y) a b) := by
  subst hp; subst hd1
  intro z X hO L M T F ls st hV hc hq hT hF
  refine ha z X hO L M _ ls st hV hc hq (fun x M1 hv1 hq1 => ?_)
  refine hb z X hO L M1 _ ls _ hV (cats_push hc) hq1 (fun y M2 hv2 hq2 => ?_)
  rw [jtk20] at hv1 hv2
  obtain ⟨p, l, e, R, s, m, args, below, meth, c, ce, sl, Qf⟩ := X
  obtain ⟨-, -, hx, hb, -⟩ := jO_facts hO
  intro H locs hI hL
  refine lv_icmp_lt hx hb hd ht (fun q => ?_) (fun q => ?_)
  · have q := (lt32 hv1 hv2).mp q
    exact hT M2 (hq2.1 (by omega)) H locs hI hL
  · have q : ¬ (x < y) := fun h => q ((lt32 hv1 hv2).mpr h)
    exact hF M2 (hq2.2 (by omega)) H locs hI hL
theorem jC_if_lt_p {K : jKm} {G : jCt} {d pc p1 p3 tgt : Nat} {a : jEx} {off : Int} (ha : jE K G d pc p1 20 a) (hd : decode (kmC K) p1 = .ok (.ifCond .lt off, 3)) (hp : p3 = p1 + 3) (ht : (p1 : Int) + off = (tgt : Int)) : jC K G d pc tgt p3 (kZ (fun x y => x < y) a) := by
  subst hp
  intro z X hO L M T F ls st hV hc hq hT hF
  refine ha z X hO L M _ ls st hV hc hq (fun x M2 hv1 hq2 => ?_)
  rw [jtk20] at hv1
  have hv2 : ir 0 := ⟨by decide, by decide⟩
  obtain ⟨p, l, e, R, s, m, args, below, meth, c, ce, sl, Qf⟩ := X
  obtain ⟨-, -, hx, hb, -⟩ := jO_facts hO
  intro H locs hI hL
  refine lv_if_lt hx hb hd ht (fun q => ?_) (fun q => ?_)
  · have q := (lt32 hv1 hv2).mp q
    exact hT M2 (hq2.1 (by omega)) H locs hI hL
  · have q : ¬ (x < 0) := fun h => q ((lt32 hv1 hv2).mpr h)
    exact hF M2 (hq2.2 (by omega)) H locs hI hL
theorem jC_icmp_lt_n {K : jKm} {G : jCt} {d d1 pc p1 p2 p3 tgt : Nat} {a b : jEx} {off : Int} (ha : jE K G d pc p1 20 a) (hb : jE K G d1 p1 p2 20 b) (hd : decode (kmC K) p2 = .ok (.if_icmp .lt off, 3)) (hp : p3 = p2 + 3) (ht : (p2 : Int) + off = (tgt : Int)) (hd1 : d1 = d + 1) : jC K G d pc p3 tgt (kR (fun x y => x ≥ y) a b) := by
  subst hp; subst hd1
  intro z X hO L M T F ls st hV hc hq hT hF
  refine ha z X hO L M _ ls st hV hc hq (fun x M1 hv1 hq1 => ?_)
  refine hb z X hO L M1 _ ls _ hV (cats_push hc) hq1 (fun y M2 hv2 hq2 => ?_)
  rw [jtk20] at hv1 hv2
  obtain ⟨p, l, e, R, s, m, args, below, meth, c, ce, sl, Qf⟩ := X
  obtain ⟨-, -, hx, hb, -⟩ := jO_facts hO
  intro H locs hI hL
  refine lv_icmp_lt hx hb hd ht (fun q => ?_) (fun q => ?_)
  · have q := (lt32 hv1 hv2).mp q
    exact hF M2 (hq2.2 (by omega)) H locs hI hL
  · have q : ¬ (x < y) := fun h => q ((lt32 hv1 hv2).mpr h)
    exact hT M2 (hq2.1 (by omega)) H locs hI hL
theorem jC_if_lt_n {K : jKm} {G : jCt} {d pc p1 p3 tgt : Nat} {a : jEx} {off : Int} (ha : jE K G d pc p1 20 a) (hd : decode (kmC K) p1 = .ok (.ifCond .lt off, 3)) (hp : p3 = p1 + 3) (ht : (p1 : Int) + off = (tgt : Int)) : jC K G d pc p3 tgt (kZ (fun x y => x ≥ y) a) := by
  subst hp
  intro z X hO L M T F ls st hV hc hq hT hF
  refine ha z X hO L M _ ls st hV hc hq (fun x M2 hv1 hq2 => ?_)
  rw [jtk20] at hv1
  have hv2 : ir 0 := ⟨by decide, by decide⟩
  obtain ⟨p, l, e, R, s, m, args, below, meth, c, ce, sl, Qf⟩ := X
  obtain ⟨-, -, hx, hb, -⟩ := jO_facts hO
  intro H locs hI hL
  refine lv_if_lt hx hb hd ht (fun q => ?_) (fun q => ?_)
  · have q := (lt32 hv1 hv2).mp q
    exact hF M2 (hq2.2 (by omega)) H locs hI hL
  · have q : ¬ (x < 0) := fun h => q ((lt32 hv1 hv2).mpr h)
    exact hT M2 (hq2.1 (by omega)) H locs hI hL
theorem jC_icmp_ge_p {K : jKm} {G : jCt} {d d1 pc p1 p2 p3 tgt : Nat} {a b : jEx} {off : Int} (ha : jE K G d pc p1 20 a) (hb : jE K G d1 p1 p2 20 b) (hd : decode (kmC K) p2 = .ok (.if_icmp .ge off, 3)) (hp : p3 = p2 + 3) (ht : (p2 : Int) + off = (tgt : Int)) (hd1 : d1 = d + 1) : jC K G d pc tgt p3 (kR (fun x y => x ≥ y) a b) := by
  subst hp; subst hd1
  intro z X hO L M T F ls st hV hc hq hT hF
  refine ha z X hO L M _ ls st hV hc hq (fun x M1 hv1 hq1 => ?_)
  refine hb z X hO L M1 _ ls _ hV (cats_push hc) hq1 (fun y M2 hv2 hq2 => ?_)
  rw [jtk20] at hv1 hv2
  obtain ⟨p, l, e, R, s, m, args, below, meth, c, ce, sl, Qf⟩ := X
  obtain ⟨-, -, hx, hb, -⟩ := jO_facts hO
  intro H locs hI hL
  refine lv_icmp_ge hx hb hd ht (fun q => ?_) (fun q => ?_)
  · have q := (le32 hv2 hv1).mp q
    exact hT M2 (hq2.1 (by omega)) H locs hI hL
  · have q : ¬ (y ≤ x) := fun h => q ((le32 hv2 hv1).mpr h)
    exact hF M2 (hq2.2 (by omega)) H locs hI hL
theorem jC_if_ge_p {K : jKm} {G : jCt} {d pc p1 p3 tgt : Nat} {a : jEx} {off : Int} (ha : jE K G d pc p1 20 a) (hd : decode (kmC K) p1 = .ok (.ifCond .ge off, 3)) (hp : p3 = p1 + 3) (ht : (p1 : Int) + off = (tgt : Int)) : jC K G d pc tgt p3 (kZ (fun x y => x ≥ y) a) := by
  subst hp
  intro z X hO L M T F ls st hV hc hq hT hF
  refine ha z X hO L M _ ls st hV hc hq (fun x M2 hv1 hq2 => ?_)
  rw [jtk20] at hv1
  have hv2 : ir 0 := ⟨by decide, by decide⟩
  obtain ⟨p, l, e, R, s, m, args, below, meth, c, ce, sl, Qf⟩ := X
  obtain ⟨-, -, hx, hb, -⟩ := jO_facts hO
  intro H locs hI hL
  refine lv_if_ge hx hb hd ht (fun q => ?_) (fun q => ?_)
  · have q := (le32 hv2 hv1).mp q
    exact hT M2 (hq2.1 (by omega)) H locs hI hL
  · have q : ¬ (0 ≤ x) := fun h => q ((le32 hv2 hv1).mpr h)
    exact hF M2 (hq2.2 (by omega)) H locs hI hL
theorem jC_icmp_ge_n {K : jKm} {G : jCt} {d d1 pc p1 p2 p3 tgt : Nat} {a b : jEx} {off : Int} (ha : jE K G d pc p1 20 a) (hb : jE K G d1 p1 p2 20 b) (hd : decode (kmC K) p2 = .ok (.if_icmp .ge off, 3)) (hp : p3 = p2 + 3) (ht : (p2 : Int) + off = (tgt : Int)) (hd1 : d1 = d + 1) : jC K G d pc p3 tgt (kR (fun x y => x < y) a b) := by
  subst hp; subst hd1
  intro z X hO L M T F ls st hV hc hq hT hF
  refine ha z X hO L M _ ls st hV hc hq (fun x M1 hv1 hq1 => ?_)
  refine hb z X hO L M1 _ ls _ hV (cats_push hc) hq1 (fun y M2 hv2 hq2 => ?_)
  rw [jtk20] at hv1 hv2
  obtain ⟨p, l, e, R, s, m, args, below, meth, c, ce, sl, Qf⟩ := X
  obtain ⟨-, -, hx, hb, -⟩ := jO_facts hO
  intro H locs hI hL
  refine lv_icmp_ge hx hb hd ht (fun q => ?_) (fun q => ?_)
  · have q := (le32 hv2 hv1).mp q
    exact hF M2 (hq2.2 (by omega)) H locs hI hL
  · have q : ¬ (y ≤ x) := fun h => q ((le32 hv2 hv1).mpr h)
    exact hT M2 (hq2.1 (by omega)) H locs hI hL
theorem jC_if_ge_n {K : jKm} {G : jCt} {d pc p1 p3 tgt : Nat} {a : jEx} {off : Int} (ha : jE K G d pc p1 20 a) (hd : decode (kmC K) p1 = .ok (.ifCond .ge off, 3)) (hp : p3 = p1 + 3) (ht : (p1 : Int) + off = (tgt : Int)) : jC K G d pc p3 tgt (kZ (fun x y => x < y) a) := by
  subst hp
  intro z X hO L M T F ls st hV hc hq hT hF
  refine ha z X hO L M _ ls st hV hc hq (fun x M2 hv1 hq2 => ?_)
  rw [jtk20] at hv1
  have hv2 : ir 0 := ⟨by decide, by decide⟩
  obtain ⟨p, l, e, R, s, m, args, below, meth, c, ce, sl, Qf⟩ := X
  obtain ⟨-, -, hx, hb, -⟩ := jO_facts hO
  intro H locs hI hL
  refine lv_if_ge hx hb hd ht (fun q => ?_) (fun q => ?_)
  · have q := (le32 hv2 hv1).mp q
    exact hF M2 (hq2.2 (by omega)) H locs hI hL
  · have q : ¬ (0 ≤ x) := fun h => q ((le32 hv2 hv1).mpr h)
    exact hT M2 (hq2.1 (by omega)) H locs hI hL
theorem jC_icmp_gt_p {K : jKm} {G : jCt} {d d1 pc p1 p2 p3 tgt : Nat} {a b : jEx} {off : Int} (ha : jE K G d pc p1 20 a) (hb : jE K G d1 p1 p2 20 b) (hd : decode (kmC K) p2 = .ok (.if_icmp .gt off, 3)) (hp : p3 = p2 + 3) (ht : (p2 : Int) + off = (tgt : Int)) (hd1 : d1 = d + 1) : jC K G d pc tgt p3 (kR (fun x y => x > y) a b) := by
  subst hp; subst hd1
  intro z X hO L M T F ls st hV hc hq hT hF
  refine ha z X hO L M _ ls st hV hc hq (fun x M1 hv1 hq1 => ?_)
  refine hb z X hO L M1 _ ls _ hV (cats_push hc) hq1 (fun y M2 hv2 hq2 => ?_)
  rw [jtk20] at hv1 hv2
  obtain ⟨p, l, e, R, s, m, args, below, meth, c, ce, sl, Qf⟩ := X
  obtain ⟨-, -, hx, hb, -⟩ := jO_facts hO
  intro H locs hI hL
  refine lv_icmp_gt hx hb hd ht (fun q => ?_) (fun q => ?_)
  · have q := (lt32 hv2 hv1).mp q
    exact hT M2 (hq2.1 (by omega)) H locs hI hL
  · have q : ¬ (y < x) := fun h => q ((lt32 hv2 hv1).mpr h)
    exact hF M2 (hq2.2 (by omega)) H locs hI hL
theorem jC_if_gt_p {K : jKm} {G : jCt} {d pc p1 p3 tgt : Nat} {a : jEx} {off : Int} (ha : jE K G d pc p1 20 a) (hd : decode (kmC K) p1 = .ok (.ifCond .gt off, 3)) (hp : p3 = p1 + 3) (ht : (p1 : Int) + off = (tgt : Int)) : jC K G d pc tgt p3 (kZ (fun x y => x > y) a) := by
  subst hp
  intro z X hO L M T F ls st hV hc hq hT hF
  refine ha z X hO L M _ ls st hV hc hq (fun x M2 hv1 hq2 => ?_)
  rw [jtk20] at hv1
  have hv2 : ir 0 := ⟨by decide, by decide⟩
  obtain ⟨p, l, e, R, s, m, args, below, meth, c, ce, sl, Qf⟩ := X
  obtain ⟨-, -, hx, hb, -⟩ := jO_facts hO
  intro H locs hI hL
  refine lv_if_gt hx hb hd ht (fun q => ?_) (fun q => ?_)
  · have q := (lt32 hv2 hv1).mp q
    exact hT M2 (hq2.1 (by omega)) H locs hI hL
  · have q : ¬ (0 < x) := fun h => q ((lt32 hv2 hv1).mpr h)
    exact hF M2 (hq2.2 (by omega)) H locs hI hL
theorem jC_icmp_gt_n {K : jKm} {G : jCt} {d d1 pc p1 p2 p3 tgt : Nat} {a b : jEx} {off : Int} (ha : jE K G d pc p1 20 a) (hb : jE K G d1 p1 p2 20 b) (hd : decode (kmC K) p2 = .ok (.if_icmp .gt off, 3)) (hp : p3 = p2 + 3) (ht : (p2 : Int) + off = (tgt : Int)) (hd1 : d1 = d + 1) : jC K G d pc p3 tgt (kR (fun x y => x ≤ y) a b) := by
  subst hp; subst hd1
  intro z X hO L M T F ls st hV hc hq hT hF
  refine ha z X hO L M _ ls st hV hc hq (fun x M1 hv1 hq1 => ?_)
  refine hb z X hO L M1 _ ls _ hV (cats_push hc) hq1 (fun y M2 hv2 hq2 => ?_)
  rw [jtk20] at hv1 hv2
  obtain ⟨p, l, e, R, s, m, args, below, meth, c, ce, sl, Qf⟩ := X
  obtain ⟨-, -, hx, hb, -⟩ := jO_facts hO
  intro H locs hI hL
  refine lv_icmp_gt hx hb hd ht (fun q => ?_) (fun q => ?_)
  · have q := (lt32 hv2 hv1).mp q
    exact hF M2 (hq2.2 (by omega)) H locs hI hL
  · have q : ¬ (y < x) := fun h => q ((lt32 hv2 hv1).mpr h)
    exact hT M2 (hq2.1 (by omega)) H locs hI hL
theorem jC_if_gt_n {K : jKm} {G : jCt} {d pc p1 p3 tgt : Nat} {a : jEx} {off : Int} (ha : jE K G d pc p1 20 a) (hd : decode (kmC K) p1 = .ok (.ifCond .gt off, 3)) (hp : p3 = p1 + 3) (ht : (p1 : Int) + off = (tgt : Int)) : jC K G d pc p3 tgt (kZ (fun x y => x ≤ y) a) := by
  subst hp
  intro z X hO L M T F ls st hV hc hq hT hF
  refine ha z X hO L M _ ls st hV hc hq (fun x M2 hv1 hq2 => ?_)
  rw [jtk20] at hv1
  have hv2 : ir 0 := ⟨by decide, by decide⟩
  obtain ⟨p, l, e, R, s, m, args, below, meth, c, ce, sl, Qf⟩ := X
  obtain ⟨-, -, hx, hb, -⟩ := jO_facts hO
  intro H locs hI hL
  refine lv_if_gt hx hb hd ht (fun q => ?_) (fun q => ?_)
  · have q := (lt32 hv2 hv1).mp q
    exact hF M2 (hq2.2 (by omega)) H locs hI hL
  · have q : ¬ (0 < x) := fun h => q ((lt32 hv2 hv1).mpr h)
    exact hT M2 (hq2.1 (by omega)) H locs hI hL
theorem jC_icmp_le_p {K : jKm} {G : jCt} {d d1 pc p1 p2 p3 tgt : Nat} {a b : jEx} {off : Int} (ha : jE K G d pc p1 20 a) (hb : jE K G d1 p1 p2 20 b) (hd : decode (kmC K) p2 = .ok (.if_icmp .le off, 3)) (hp : p3 = p2 + 3) (ht : (p2 : Int) + off = (tgt : Int)) (hd1 : d1 = d + 1) : jC K G d pc tgt p3 (kR (fun x y => x ≤ y) a b) := by
  subst hp; subst hd1
  intro z X hO L M T F ls st hV hc hq hT hF
  refine ha z X hO L M _ ls st hV hc hq (fun x M1 hv1 hq1 => ?_)
  refine hb z X hO L M1 _ ls _ hV (cats_push hc) hq1 (fun y M2 hv2 hq2 => ?_)
  rw [jtk20] at hv1 hv2
  obtain ⟨p, l, e, R, s, m, args, below, meth, c, ce, sl, Qf⟩ := X
  obtain ⟨-, -, hx, hb, -⟩ := jO_facts hO
  intro H locs hI hL
  refine lv_icmp_le hx hb hd ht (fun q => ?_) (fun q => ?_)
  · have q := (le32 hv1 hv2).mp q
    exact hT M2 (hq2.1 (by omega)) H locs hI hL
  · have q : ¬ (x ≤ y) := fun h => q ((le32 hv1 hv2).mpr h)
    exact hF M2 (hq2.2 (by omega)) H locs hI hL
theorem jC_if_le_p {K : jKm} {G : jCt} {d pc p1 p3 tgt : Nat} {a : jEx} {off : Int} (ha : jE K G d pc p1 20 a) (hd : decode (kmC K) p1 = .ok (.ifCond .le off, 3)) (hp : p3 = p1 + 3) (ht : (p1 : Int) + off = (tgt : Int)) : jC K G d pc tgt p3 (kZ (fun x y => x ≤ y) a) := by
  subst hp
  intro z X hO L M T F ls st hV hc hq hT hF
  refine ha z X hO L M _ ls st hV hc hq (fun x M2 hv1 hq2 => ?_)
  rw [jtk20] at hv1
  have hv2 : ir 0 := ⟨by decide, by decide⟩
  obtain ⟨p, l, e, R, s, m, args, below, meth, c, ce, sl, Qf⟩ := X
  obtain ⟨-, -, hx, hb, -⟩ := jO_facts hO
  intro H locs hI hL
  refine lv_if_le hx hb hd ht (fun q => ?_) (fun q => ?_)
  · have q := (le32 hv1 hv2).mp q
    exact hT M2 (hq2.1 (by omega)) H locs hI hL
  · have q : ¬ (x ≤ 0) := fun h => q ((le32 hv1 hv2).mpr h)
    exact hF M2 (hq2.2 (by omega)) H locs hI hL
theorem jC_icmp_le_n {K : jKm} {G : jCt} {d d1 pc p1 p2 p3 tgt : Nat} {a b : jEx} {off : Int} (ha : jE K G d pc p1 20 a) (hb : jE K G d1 p1 p2 20 b) (hd : decode (kmC K) p2 = .ok (.if_icmp .le off, 3)) (hp : p3 = p2 + 3) (ht : (p2 : Int) + off = (tgt : Int)) (hd1 : d1 = d + 1) : jC K G d pc p3 tgt (kR (fun x y => x > y) a b) := by
  subst hp; subst hd1
  intro z X hO L M T F ls st hV hc hq hT hF
  refine ha z X hO L M _ ls st hV hc hq (fun x M1 hv1 hq1 => ?_)
  refine hb z X hO L M1 _ ls _ hV (cats_push hc) hq1 (fun y M2 hv2 hq2 => ?_)
  rw [jtk20] at hv1 hv2
  obtain ⟨p, l, e, R, s, m, args, below, meth, c, ce, sl, Qf⟩ := X
  obtain ⟨-, -, hx, hb, -⟩ := jO_facts hO
  intro H locs hI hL
  refine lv_icmp_le hx hb hd ht (fun q => ?_) (fun q => ?_)
  · have q := (le32 hv1 hv2).mp q
    exact hF M2 (hq2.2 (by omega)) H locs hI hL
  · have q : ¬ (x ≤ y) := fun h => q ((le32 hv1 hv2).mpr h)
    exact hT M2 (hq2.1 (by omega)) H locs hI hL
theorem jC_if_le_n {K : jKm} {G : jCt} {d pc p1 p3 tgt : Nat} {a : jEx} {off : Int} (ha : jE K G d pc p1 20 a) (hd : decode (kmC K) p1 = .ok (.ifCond .le off, 3)) (hp : p3 = p1 + 3) (ht : (p1 : Int) + off = (tgt : Int)) : jC K G d pc p3 tgt (kZ (fun x y => x > y) a) := by
  subst hp
  intro z X hO L M T F ls st hV hc hq hT hF
  refine ha z X hO L M _ ls st hV hc hq (fun x M2 hv1 hq2 => ?_)
  rw [jtk20] at hv1
  have hv2 : ir 0 := ⟨by decide, by decide⟩
  obtain ⟨p, l, e, R, s, m, args, below, meth, c, ce, sl, Qf⟩ := X
  obtain ⟨-, -, hx, hb, -⟩ := jO_facts hO
  intro H locs hI hL
  refine lv_if_le hx hb hd ht (fun q => ?_) (fun q => ?_)
  · have q := (le32 hv1 hv2).mp q
    exact hF M2 (hq2.2 (by omega)) H locs hI hL
  · have q : ¬ (x ≤ 0) := fun h => q ((le32 hv1 hv2).mpr h)
    exact hT M2 (hq2.1 (by omega)) H locs hI hL
theorem lt64 {x y : Int} (hx : lr x) (hy : lr y) : Int64.ofInt x < Int64.ofInt y ↔ x < y := by
  rw [Int64.lt_iff_toInt_lt, lr_to hx, lr_to hy]
theorem le64 {x y : Int} (hx : lr x) (hy : lr y) : Int64.ofInt x ≤ Int64.ofInt y ↔ x ≤ y := by
  rw [Int64.le_iff_toInt_le, lr_to hx, lr_to hy]
theorem jC_lcmp_lt_p {K : jKm} {G : jCt} {d d1 pc p1 p2 p3 tgt : Nat} {a b : jEx} {off : Int} (ha : jE K G d pc p1 21 a) (hb : jE K G d1 p1 p2 21 b) (hd0 : decode (kmC K) p2 = .ok (.lcmp, 1)) (hd : decode (kmC K) (p2 + 1) = .ok (.ifCond .lt off, 3)) (hp : p3 = p2 + 4) (ht : ((p2 + 1 : Nat) : Int) + off = (tgt : Int)) (hd1 : d1 = d + 2) : jC K G d pc tgt p3 (kR (fun x y => x < y) a b) := by
  subst hp; subst hd1
  intro z X hO L M T F ls st hV hc hq hT hF
  refine ha z X hO L M _ ls st hV hc hq (fun x M1 hv1 hq1 => ?_)
  refine hb z X hO L M1 _ ls _ hV (cats_push hc) hq1 (fun y M2 hv2 hq2 => ?_)
  rw [jtk21] at hv1 hv2
  obtain ⟨p, l, e, R, s, m, args, below, meth, c, ce, sl, Qf⟩ := X
  obtain ⟨-, -, hx, hb, -⟩ := jO_facts hO
  intro H locs hI hL
  refine W.lcmp hx hb hd0 ?_
  refine lv_if_lt hx hb hd ht (fun q => ?_) (fun q => ?_)
  · have q := (lt64 hv1 hv2).mp ((lg_cmp_lt _ _).mp q)
    exact hT M2 (hq2.1 (by omega)) H locs hI hL
  · have q : ¬ (x < y) := fun h => q ((lg_cmp_lt _ _).mpr ((lt64 hv1 hv2).mpr h))
    exact hF M2 (hq2.2 (by omega)) H locs hI hL
theorem jC_lcmp_lt_n {K : jKm} {G : jCt} {d d1 pc p1 p2 p3 tgt : Nat} {a b : jEx} {off : Int} (ha : jE K G d pc p1 21 a) (hb : jE K G d1 p1 p2 21 b) (hd0 : decode (kmC K) p2 = .ok (.lcmp, 1)) (hd : decode (kmC K) (p2 + 1) = .ok (.ifCond .lt off, 3)) (hp : p3 = p2 + 4) (ht : ((p2 + 1 : Nat) : Int) + off = (tgt : Int)) (hd1 : d1 = d + 2) : jC K G d pc p3 tgt (kR (fun x y => x ≥ y) a b) := by
  subst hp; subst hd1
  intro z X hO L M T F ls st hV hc hq hT hF
  refine ha z X hO L M _ ls st hV hc hq (fun x M1 hv1 hq1 => ?_)
  refine hb z X hO L M1 _ ls _ hV (cats_push hc) hq1 (fun y M2 hv2 hq2 => ?_)
  rw [jtk21] at hv1 hv2
  obtain ⟨p, l, e, R, s, m, args, below, meth, c, ce, sl, Qf⟩ := X
  obtain ⟨-, -, hx, hb, -⟩ := jO_facts hO
  intro H locs hI hL
  refine W.lcmp hx hb hd0 ?_
  refine lv_if_lt hx hb hd ht (fun q => ?_) (fun q => ?_)
  · have q := (lt64 hv1 hv2).mp ((lg_cmp_lt _ _).mp q)
    exact hF M2 (hq2.2 (by omega)) H locs hI hL
  · have q : ¬ (x < y) := fun h => q ((lg_cmp_lt _ _).mpr ((lt64 hv1 hv2).mpr h))
    exact hT M2 (hq2.1 (by omega)) H locs hI hL
theorem jC_lcmp_gt_p {K : jKm} {G : jCt} {d d1 pc p1 p2 p3 tgt : Nat} {a b : jEx} {off : Int} (ha : jE K G d pc p1 21 a) (hb : jE K G d1 p1 p2 21 b) (hd0 : decode (kmC K) p2 = .ok (.lcmp, 1)) (hd : decode (kmC K) (p2 + 1) = .ok (.ifCond .gt off, 3)) (hp : p3 = p2 + 4) (ht : ((p2 + 1 : Nat) : Int) + off = (tgt : Int)) (hd1 : d1 = d + 2) : jC K G d pc tgt p3 (kR (fun x y => x > y) a b) := by
  subst hp; subst hd1
  intro z X hO L M T F ls st hV hc hq hT hF
  refine ha z X hO L M _ ls st hV hc hq (fun x M1 hv1 hq1 => ?_)
  refine hb z X hO L M1 _ ls _ hV (cats_push hc) hq1 (fun y M2 hv2 hq2 => ?_)
  rw [jtk21] at hv1 hv2
  obtain ⟨p, l, e, R, s, m, args, below, meth, c, ce, sl, Qf⟩ := X
  obtain ⟨-, -, hx, hb, -⟩ := jO_facts hO
  intro H locs hI hL
  refine W.lcmp hx hb hd0 ?_
  refine lv_if_gt hx hb hd ht (fun q => ?_) (fun q => ?_)
  · have q := (lt64 hv2 hv1).mp ((lg_cmp_gt _ _).mp q)
    exact hT M2 (hq2.1 (by omega)) H locs hI hL
  · have q : ¬ (y < x) := fun h => q ((lg_cmp_gt _ _).mpr ((lt64 hv2 hv1).mpr h))
    exact hF M2 (hq2.2 (by omega)) H locs hI hL
theorem jC_lcmp_gt_n {K : jKm} {G : jCt} {d d1 pc p1 p2 p3 tgt : Nat} {a b : jEx} {off : Int} (ha : jE K G d pc p1 21 a) (hb : jE K G d1 p1 p2 21 b) (hd0 : decode (kmC K) p2 = .ok (.lcmp, 1)) (hd : decode (kmC K) (p2 + 1) = .ok (.ifCond .gt off, 3)) (hp : p3 = p2 + 4) (ht : ((p2 + 1 : Nat) : Int) + off = (tgt : Int)) (hd1 : d1 = d + 2) : jC K G d pc p3 tgt (kR (fun x y => x ≤ y) a b) := by
  subst hp; subst hd1
  intro z X hO L M T F ls st hV hc hq hT hF
  refine ha z X hO L M _ ls st hV hc hq (fun x M1 hv1 hq1 => ?_)
  refine hb z X hO L M1 _ ls _ hV (cats_push hc) hq1 (fun y M2 hv2 hq2 => ?_)
  rw [jtk21] at hv1 hv2
  obtain ⟨p, l, e, R, s, m, args, below, meth, c, ce, sl, Qf⟩ := X
  obtain ⟨-, -, hx, hb, -⟩ := jO_facts hO
  intro H locs hI hL
  refine W.lcmp hx hb hd0 ?_
  refine lv_if_gt hx hb hd ht (fun q => ?_) (fun q => ?_)
  · have q := (lt64 hv2 hv1).mp ((lg_cmp_gt _ _).mp q)
    exact hF M2 (hq2.2 (by omega)) H locs hI hL
  · have q : ¬ (y < x) := fun h => q ((lg_cmp_gt _ _).mpr ((lt64 hv2 hv1).mpr h))
    exact hT M2 (hq2.1 (by omega)) H locs hI hL
theorem jC_lcmp_ge_p {K : jKm} {G : jCt} {d d1 pc p1 p2 p3 tgt : Nat} {a b : jEx} {off : Int} (ha : jE K G d pc p1 21 a) (hb : jE K G d1 p1 p2 21 b) (hd0 : decode (kmC K) p2 = .ok (.lcmp, 1)) (hd : decode (kmC K) (p2 + 1) = .ok (.ifCond .ge off, 3)) (hp : p3 = p2 + 4) (ht : ((p2 + 1 : Nat) : Int) + off = (tgt : Int)) (hd1 : d1 = d + 2) : jC K G d pc tgt p3 (kR (fun x y => x ≥ y) a b) := by
  subst hp; subst hd1
  intro z X hO L M T F ls st hV hc hq hT hF
  refine ha z X hO L M _ ls st hV hc hq (fun x M1 hv1 hq1 => ?_)
  refine hb z X hO L M1 _ ls _ hV (cats_push hc) hq1 (fun y M2 hv2 hq2 => ?_)
  rw [jtk21] at hv1 hv2
  obtain ⟨p, l, e, R, s, m, args, below, meth, c, ce, sl, Qf⟩ := X
  obtain ⟨-, -, hx, hb, -⟩ := jO_facts hO
  intro H locs hI hL
  refine W.lcmp hx hb hd0 ?_
  refine lv_if_ge hx hb hd ht (fun q => ?_) (fun q => ?_)
  · have q := (le64 hv2 hv1).mp ((lg_cmp_ge _ _).mp q)
    exact hT M2 (hq2.1 (by omega)) H locs hI hL
  · have q : ¬ (y ≤ x) := fun h => q ((lg_cmp_ge _ _).mpr ((le64 hv2 hv1).mpr h))
    exact hF M2 (hq2.2 (by omega)) H locs hI hL
theorem jC_lcmp_ge_n {K : jKm} {G : jCt} {d d1 pc p1 p2 p3 tgt : Nat} {a b : jEx} {off : Int} (ha : jE K G d pc p1 21 a) (hb : jE K G d1 p1 p2 21 b) (hd0 : decode (kmC K) p2 = .ok (.lcmp, 1)) (hd : decode (kmC K) (p2 + 1) = .ok (.ifCond .ge off, 3)) (hp : p3 = p2 + 4) (ht : ((p2 + 1 : Nat) : Int) + off = (tgt : Int)) (hd1 : d1 = d + 2) : jC K G d pc p3 tgt (kR (fun x y => x < y) a b) := by
  subst hp; subst hd1
  intro z X hO L M T F ls st hV hc hq hT hF
  refine ha z X hO L M _ ls st hV hc hq (fun x M1 hv1 hq1 => ?_)
  refine hb z X hO L M1 _ ls _ hV (cats_push hc) hq1 (fun y M2 hv2 hq2 => ?_)
  rw [jtk21] at hv1 hv2
  obtain ⟨p, l, e, R, s, m, args, below, meth, c, ce, sl, Qf⟩ := X
  obtain ⟨-, -, hx, hb, -⟩ := jO_facts hO
  intro H locs hI hL
  refine W.lcmp hx hb hd0 ?_
  refine lv_if_ge hx hb hd ht (fun q => ?_) (fun q => ?_)
  · have q := (le64 hv2 hv1).mp ((lg_cmp_ge _ _).mp q)
    exact hF M2 (hq2.2 (by omega)) H locs hI hL
  · have q : ¬ (y ≤ x) := fun h => q ((lg_cmp_ge _ _).mpr ((le64 hv2 hv1).mpr h))
    exact hT M2 (hq2.1 (by omega)) H locs hI hL
theorem jC_lcmp_le_p {K : jKm} {G : jCt} {d d1 pc p1 p2 p3 tgt : Nat} {a b : jEx} {off : Int} (ha : jE K G d pc p1 21 a) (hb : jE K G d1 p1 p2 21 b) (hd0 : decode (kmC K) p2 = .ok (.lcmp, 1)) (hd : decode (kmC K) (p2 + 1) = .ok (.ifCond .le off, 3)) (hp : p3 = p2 + 4) (ht : ((p2 + 1 : Nat) : Int) + off = (tgt : Int)) (hd1 : d1 = d + 2) : jC K G d pc tgt p3 (kR (fun x y => x ≤ y) a b) := by
  subst hp; subst hd1
  intro z X hO L M T F ls st hV hc hq hT hF
  refine ha z X hO L M _ ls st hV hc hq (fun x M1 hv1 hq1 => ?_)
  refine hb z X hO L M1 _ ls _ hV (cats_push hc) hq1 (fun y M2 hv2 hq2 => ?_)
  rw [jtk21] at hv1 hv2
  obtain ⟨p, l, e, R, s, m, args, below, meth, c, ce, sl, Qf⟩ := X
  obtain ⟨-, -, hx, hb, -⟩ := jO_facts hO
  intro H locs hI hL
  refine W.lcmp hx hb hd0 ?_
  refine lv_if_le hx hb hd ht (fun q => ?_) (fun q => ?_)
  · have q := (le64 hv1 hv2).mp ((lg_cmp_le _ _).mp q)
    exact hT M2 (hq2.1 (by omega)) H locs hI hL
  · have q : ¬ (x ≤ y) := fun h => q ((lg_cmp_le _ _).mpr ((le64 hv1 hv2).mpr h))
    exact hF M2 (hq2.2 (by omega)) H locs hI hL
theorem jC_lcmp_le_n {K : jKm} {G : jCt} {d d1 pc p1 p2 p3 tgt : Nat} {a b : jEx} {off : Int} (ha : jE K G d pc p1 21 a) (hb : jE K G d1 p1 p2 21 b) (hd0 : decode (kmC K) p2 = .ok (.lcmp, 1)) (hd : decode (kmC K) (p2 + 1) = .ok (.ifCond .le off, 3)) (hp : p3 = p2 + 4) (ht : ((p2 + 1 : Nat) : Int) + off = (tgt : Int)) (hd1 : d1 = d + 2) : jC K G d pc p3 tgt (kR (fun x y => x > y) a b) := by
  subst hp; subst hd1
  intro z X hO L M T F ls st hV hc hq hT hF
  refine ha z X hO L M _ ls st hV hc hq (fun x M1 hv1 hq1 => ?_)
  refine hb z X hO L M1 _ ls _ hV (cats_push hc) hq1 (fun y M2 hv2 hq2 => ?_)
  rw [jtk21] at hv1 hv2
  obtain ⟨p, l, e, R, s, m, args, below, meth, c, ce, sl, Qf⟩ := X
  obtain ⟨-, -, hx, hb, -⟩ := jO_facts hO
  intro H locs hI hL
  refine W.lcmp hx hb hd0 ?_
  refine lv_if_le hx hb hd ht (fun q => ?_) (fun q => ?_)
  · have q := (le64 hv1 hv2).mp ((lg_cmp_le _ _).mp q)
    exact hF M2 (hq2.2 (by omega)) H locs hI hL
  · have q : ¬ (x ≤ y) := fun h => q ((lg_cmp_le _ _).mpr ((le64 hv1 hv2).mpr h))
    exact hT M2 (hq2.1 (by omega)) H locs hI hL
theorem jC_and {K : jKm} {G : jCt} {d pc p1 t f : Nat} {a b : jCn} (ha : jC K G d pc p1 f a) (hb : jC K G d p1 t f b) : jC K G d pc t f (kAnd a b) := by
  intro z X hO L M T F ls st hV hc hq hT hF
  exact ha z X hO L M _ _ ls st hV hc hq (fun M1 h => hb z X hO L M1 _ _ ls st hV hc h hT hF) hF
theorem jC_or {K : jKm} {G : jCt} {d pc p1 t f : Nat} {a b : jCn} (ha : jC K G d pc t p1 a) (hb : jC K G d p1 t f b) : jC K G d pc t f (kOr a b) := by
  intro z X hO L M T F ls st hV hc hq hT hF
  exact ha z X hO L M _ _ ls st hV hc hq hT (fun M1 h => hb z X hO L M1 _ _ ls st hV hc h hT hF)
theorem jC_not {K : jKm} {G : jCt} {d pc t f : Nat} {a : jCn} (ha : jC K G d pc f t a) : jC K G d pc t f (kNot a) := by
  intro z X hO L M T F ls st hV hc hq hT hF
  exact ha z X hO L M _ _ ls st hV hc hq hF hT
theorem jE_goto {K : jKm} {G : jCt} {d pc p t T : Nat} {e : jEx} {off : Int} (h : jE K G d pc p T e) (hd : decode (kmC K) p = .ok (.goto off, 3)) (ht : (p : Int) + off = (t : Int)) : jE K G d pc t T e := by
  intro z X hO L M Q ls st hV hc hq hk
  exact h z X hO L M Q ls st hV hc hq (fun v M1 hv hq1 => jstep hO (fun p l e R s m args below meth c ce sl Qf H locs _ hx hb kk => lv_goto hx hb hd ht kk) (hk v M1 hv hq1))
theorem jE_tern {K : jKm} {G : jCt} {d pc pa pb p T : Nat} {c : jCn} {a b : jEx} (hc : jC K G d pc pa pb c) (ha : jE K G d pa p T a) (hb : jE K G d pb p T b) : jE K G d pc p T (xTern c a b) := by
  intro z X hO L M Q ls st hV hcs hq hk
  exact hc z X hO L M _ _ ls st hV hcs hq (fun M1 h => ha z X hO L M1 Q ls st hV hcs h hk) (fun M1 h => hb z X hO L M1 Q ls st hV hcs h hk)
-- the order of deeds
theorem jS_goto {K : jKm} {G G' : jCt} {pc p t : Nat} {s : jSt} {off : Int} (h : jS K G G' pc p s) (hd : decode (kmC K) p = .ok (.goto off, 3)) (ht : (p : Int) + off = (t : Int)) : jS K G G' pc t s := by
  intro z X hO L M N R ls hV hq hN hR
  exact h z X hO L M N R ls hV hq (fun L1 M1 ls1 hV1 hq1 => jstep hO (fun p l e R s m args below meth c ce sl Qf H locs _ hx hb kk => lv_goto hx hb hd ht kk) (hN L1 M1 ls1 hV1 hq1)) hR
theorem jS_skip {K : jKm} {G : jCt} {pc : Nat} : jS K G G pc pc tSkip := by
  intro z X hO L M N R ls hV hq hN hR
  exact hN L M ls hV hq
theorem jV_sub {K : jKm} {z : jZ} {G G' : jCt} {L : jLo} {ls : Array Slot} (h : jV K z G L ls) (hs : ∀ q ∈ G', q ∈ G) : jV K z G' L ls := ⟨h.1, h.2.1, fun q hq => h.2.2 q (hs q hq)⟩
def ctSub (G' G : jCt) : Bool := G'.all (fun q => G.any (fun r => r.1 == q.1 && r.2 == q.2))
theorem ctSub_ok {G' G : jCt} (h : ctSub G' G = true) : ∀ q ∈ G', q ∈ G := by
  intro q hq
  obtain ⟨r, hr, he⟩ := List.any_eq_true.mp (List.all_eq_true.mp h q hq)
  simp only [Bool.and_eq_true, beq_iff_eq] at he
  rw [show q = r from Prod.ext he.1.symm he.2.symm]; exact hr
/-- fewer known locals ahead, or behind -/
theorem jS_pre {K : jKm} {G G1 G' : jCt} {pc t : Nat} {s : jSt} (h : jS K G1 G' pc t s) (hs : ctSub G1 G = true) : jS K G G' pc t s := by
  intro z X hO L M N R ls hV hq hN hR
  exact h z X hO L M N R ls (jV_sub hV (ctSub_ok hs)) hq hN hR
theorem jS_post {K : jKm} {G G1 G' : jCt} {pc t : Nat} {s : jSt} (h : jS K G G1 pc t s) (hs : ctSub G' G1 = true) : jS K G G' pc t s := by
  intro z X hO L M N R ls hV hq hN hR
  exact h z X hO L M N R ls hV hq (fun L1 M1 ls1 hV1 hq1 => hN L1 M1 ls1 (jV_sub hV1 (ctSub_ok hs)) hq1) hR
theorem jS_seq {K : jKm} {G G1 G2 : jCt} {pc p t : Nat} {a b : jSt} (ha : jS K G G1 pc p a) (hb : jS K G1 G2 p t b) : jS K G G2 pc t (tSeq a b) := by
  intro z X hO L M N R ls hV hq hN hR
  exact ha z X hO L M _ _ ls hV hq (fun L1 M1 ls1 hV1 hq1 => hb z X hO L1 M1 N R ls1 hV1 hq1 hN hR) hR
theorem jS_if {K : jKm} {G G' : jCt} {pc pa pb t : Nat} {c : jCn} {a b : jSt} (hc : jC K G 0 pc pa pb c) (ha : jS K G G' pa t a) (hb : jS K G G' pb t b) : jS K G G' pc t (tIf c a b) := by
  intro z X hO L M N R ls hV hq hN hR
  exact hc z X hO L M _ _ ls [] hV (Nat.le_refl 0) hq (fun M1 h => ha z X hO L M1 N R ls hV h hN hR) (fun M1 h => hb z X hO L M1 N R ls hV h hN hR)
theorem jS_while {K : jKm} {G : jCt} {pc pb t : Nat} {c : jCn} {b : jSt} (hc : jC K G 0 pc pb t c) (hb : jS K G G pb pc b) : jS K G G pc t (tWh c b) := by
  intro z X hO L M N R ls hV hq hN hR
  obtain ⟨n, hn⟩ := hq
  induction n generalizing L M ls with
  | zero => exact absurd hn id
  | succ n ih => exact hc z X hO L M _ _ ls [] hV (Nat.le_refl 0) hn (fun M1 h => hb z X hO L M1 _ _ ls hV h (fun L2 M2 ls2 hV2 h2 => ih L2 M2 ls2 hV2 h2) hR) (fun M1 h => hN L M1 ls hV h)
/-- behind an answer nothing follows: any end will do -/
theorem jS_ret {K : jKm} {G G' : jCt} {pc p1 t : Nat} {e : jEx} (he : jE K G 0 pc p1 (kmR K) e) (hd : decode (kmC K) p1 = .ok (jRi (kmR K), 1)) (h23 : kmR K ≠ 23) : jS K G G' pc t (tRet e) := by
  intro z X hO L M N R ls hV hq hN hR
  refine he z X hO L M _ ls [] hV (Nat.le_refl 0) hq (fun v M1 hv hq1 => ?_)
  have h := hR p1 ls v M1 hd hv hq1
  unfold jRs at h
  rw [if_neg h23] at h
  exact h
theorem jS_retZ {K : jKm} {G G' : jCt} {pc p1 t : Nat} {e : jEx} (he : jE K G 0 pc p1 20 e) (hd : decode (kmC K) p1 = .ok (jRi (kmR K), 1)) (h22 : kmR K = 22) : jS K G G' pc t (tRetZ e) := by
  intro z X hO L M N R ls hV hq hN hR
  refine he z X hO L M _ ls [] hV (Nat.le_refl 0) hq (fun v M1 hv hq1 => ?_)
  have h := hR p1 ls v M1 hd (by rw [h22]; exact hq1.1) hq1.2
  unfold jRs at h
  rw [h22] at h
  exact h
theorem jS_ret0 {K : jKm} {G G' : jCt} {pc t : Nat} (hd : decode (kmC K) pc = .ok (jRi (kmR K), 1)) (h23 : kmR K = 23) : jS K G G' pc t tRet0 := by
  intro z X hO L M N R ls hV hq hN hR
  have h := hR pc ls 0 M hd (by rw [h23]; rfl) hq
  unfold jRs at h
  rw [if_pos h23] at h
  exact h
-- choice by a number
def jT (K : jKm) (G G' : jCt) (p1 t : Nat) : List Int → List jSt → Prop
  | [], [] => True
  | o :: os, s :: ss => (∃ tgt : Nat, (p1 : Int) + o = (tgt : Int) ∧ jS K G G' tgt t s) ∧ jT K G G' p1 t os ss
  | _, _ => False
theorem jT_nil {K : jKm} {G G' : jCt} {p1 t : Nat} : jT K G G' p1 t [] [] := trivial
theorem jT_cons {K : jKm} {G G' : jCt} {p1 t tgt : Nat} {o : Int} {os : List Int} {s : jSt} {ss : List jSt} (h : jS K G G' tgt t s) (ht : (p1 : Int) + o = (tgt : Int)) (hs : jT K G G' p1 t os ss) : jT K G G' p1 t (o :: os) (s :: ss) := ⟨⟨tgt, ht, h⟩, hs⟩
theorem jT_in {K : jKm} {G G' : jCt} {p1 t : Nat} {d : jSt} {L : jLo} {M : jMm} {N : jLo → jMm → Prop} {R : Int → jMm → Prop} : ∀ (os : List Int) (ss : List jSt) (lo v : Int), jT K G G' p1 t os ss → tSwS lo ss d v L M N R →
    (∃ (o : Int) (s : jSt) (tgt : Nat), lo ≤ v ∧ os[(v - lo).toNat]? = some o ∧ (p1 : Int) + o = (tgt : Int) ∧ jS K G G' tgt t s ∧ s L M N R) ∨ ((v < lo ∨ lo + os.length ≤ v) ∧ d L M N R)
  | [], [], lo, v, _, h => Or.inr ⟨by simp; omega, h⟩
  | o :: os, s :: ss, lo, v, hT, h => by
    obtain ⟨⟨tgt, ht, hs⟩, hT2⟩ := hT
    by_cases e : v = lo
    · subst e
      exact Or.inl ⟨o, s, tgt, Int.le_refl _, by simp, ht, hs, h.1 rfl⟩
    · rcases jT_in os ss (lo + 1) v hT2 (h.2 e) with ⟨o2, s2, tgt2, h1, h2, h3⟩ | ⟨h1, h2⟩
      · refine Or.inl ⟨o2, s2, tgt2, by omega, ?_, h3⟩
        rw [show (v - lo).toNat = (v - (lo + 1)).toNat + 1 by omega]
        exact h2
      · refine Or.inr ⟨?_, h2⟩
        simp only [List.length_cons]
        omega
  | [], _ :: _, _, _, hT, _ => absurd hT id
  | _ :: _, [], _, _, hT, _ => absurd hT id
theorem jS_sw {K : jKm} {G G' : jCt} {pc p1 t td len : Nat} {e : jEx} {ss : List jSt} {d : jSt} {lo hi dflt : Int} {offs : Array Int} (he : jE K G 0 pc p1 20 e) (hd : decode (kmC K) p1 = .ok (.tableswitch dflt lo hi offs, len)) (hT : jT K G G' p1 t offs.toList ss) (hhi : hi + 1 = lo + offs.toList.length) (htd : (p1 : Int) + dflt = (td : Int)) (hdf : jS K G G' td t d) : jS K G G' pc t (tSw lo e ss d) := by
  intro z X hO L M N R ls hV hq hN hR
  refine he z X hO L M _ ls [] hV (Nat.le_refl 0) hq (fun v M1 hv hq1 => ?_)
  have hv := jtk20.mp hv
  rcases jT_in offs.toList ss lo v hT hq1 with ⟨o, s, tgt, h1, h2, h3, h4, h5⟩ | ⟨h1, h2⟩
  · have h2' : offs[(v - lo).toNat]? = some o := by rw [← Array.getElem?_toList]; exact h2
    have hlt : (v - lo).toNat < offs.toList.length := (List.getElem?_eq_some_iff.mp h2).1
    refine jstep hO (fun p l e R s m args below meth c ce sl Qf H locs _ hx hb kk => lv_tableIn hx hb hd (by rw [ir_to hv]; omega) (by rw [ir_to hv]; omega) (by rw [ir_to hv]; exact h2') h3 kk) (h4 z X hO L M1 N R ls hV h5 hN hR)
  · refine jstep hO (fun p l e R s m args below meth c ce sl Qf H locs _ hx hb kk => lv_tableOut hx hb hd (by rw [ir_to hv]; omega) htd kk) (hdf z X hO L M1 N R ls hV h2 hN hR)
end
section
/-! methods: contracts out of code that keeps a word; calls -/
theorem nest_kind {w : Cond} (h : w ∈ nestW) : (∃ a i x h, w = .methodLinkNest a i x h) ∨ ∃ a i b n d h, w = .fieldLinkNest a i b n d h := by
  have h2 := (List.mem_filter.mp h).2
  cases w <;> first | exact Or.inl ⟨_, _, _, _, rfl⟩ | exact Or.inr ⟨_, _, _, _, _, _, rfl⟩ | exact absurd h2 (by simp)
theorem jStat_warm {z : jZ} {s U : State} {n : Nat} (hW : s.WarmedH U.vm) (h : jStat z s n) : jStat z U n := by
  obtain ⟨a, cell, h1, h2, h3, h4⟩ := h
  exact ⟨a, cell, va_Z.moved hW.alike h1, h2, State.isArrayOf_alike hW.alike h3, h4⟩
theorem jK_warm {z : jZ} {s U : State} (hW : s.WarmedH U.vm) (h : jK z s) : jK z U := by
  obtain ⟨h1, h2, h3, h4⟩ := h
  refine ⟨va_K.moved hW.alike h1, fun c a b => arrOfT_moved hW.alike (h2 c a b), fun w hw => ?_, fun n hn => jStat_warm hW (h4 n hn)⟩
  rcases nest_kind hw with ⟨a, i, x, g, rfl⟩ | ⟨a, i, b, n, d, g, rfl⟩
  · exact va_Nw.warmM hW (h3 _ hw)
  · exact va_Nw.warmF hW (h3 _ hw)
theorem jK_same {z : jZ} {s U : State} (hW : s.vm = U.vm) (h : jK z s) : jK z U := by
  obtain ⟨h1, h2, h3, h4⟩ := h
  have hA : s.vm.Alike U.vm := by rw [← hW]; exact Vm.Alike.refl _
  refine ⟨va_K.moved hA h1, fun c a b => arrOfT_moved hA (h2 c a b), fun w hw => ?_, fun n hn => ?_⟩
  · rcases nest_kind hw with ⟨a, i, x, g, rfl⟩ | ⟨a, i, b, n, d, g, rfl⟩
    · exact va_Nw.same rfl hW (h3 _ hw)
    · exact va_Nw.same rfl hW (h3 _ hw)
  · obtain ⟨a, cell, h1, h2, h3, h4⟩ := h4 n hn
    exact ⟨a, cell, va_Z.moved hA h1, h2, State.isArrayOf_alike hA h3, h4⟩
-- a static row read at a place
theorem jE_st {K : jKm} {G : jCt} {d pc p1 p2 p n ix d2 : Nat} {i : jEx} (hd1 : decode (kmC K) pc = .ok (.getstatic ix, 3)) (hp1 : p1 = pc + 3) (hi : jE K G d2 p1 p2 20 i) (hd : decode (kmC K) p2 = .ok (.iaload, 1)) (hp : p = p2 + 1) (hn : n < 9) (hw : Cond.fieldLink (kmY K).cls ix RX6 (s_sname n) "[I" ∈ tG ∨ Cond.fieldLinkNest (kmY K).cls ix RX6 (s_sname n) "[I" RX6 ∈ nestW) (hd2 : d2 = d + 1) : jE K G d pc p 20 (xSt n i) := by
  subst hp; subst hd2; subst hp1
  intro z X hO L M Q ls st hV hc hq hk
  obtain ⟨p, l, e, R, s, m, args, below, meth, c, ce, sl, Qf⟩ := X
  obtain ⟨hz, hKs, hx, hb, -, hown, hts, -⟩ := jO_facts hO
  obtain ⟨a, cell, hZ, a1, a2, a3, a4, a5⟩ := hKs.2.2.2 n hn
  have hG := hi z _ hO L M _ ls (.ref a :: st) hV (by rw [cats_cons]; show 1 + cats st ≤ d + 1; omega) hq (fun x M1 hx1 hq1 => by
    intro H locs hI hL
    have hr := jtk20.mp hx1
    have hcell : H[a]? = some cell := by rw [hI.2.1 a (Array.getElem?_eq_some_iff.mp a1).1]; exact a1
    refine W.iald (cc := kmC K) hx hb hcell a2 a3 (v := .int (Int32.ofInt (s_sv n x))) (j := Int32.ofInt x) ?_ ?_ rfl rfl hd ?_
    · have := in32 (n := s_len 0) hq1.1.1
      rw [clamp32 hq1.1.1 hr]
      rintro (q | q)
      · exact neg32 hq1.1.1 hr q
      · have := hq1.1; omega
    · rw [clamp32 hq1.1.1 hr, a5 x.toNat (by have := hq1.1; omega), Int.toNat_of_nonneg hq1.1.1]
    · refine hk _ M1 ?_ hq1.2 H locs hI hL
      have h9 : ∀ n, n < 9 → ∀ j : Nat, (j : Int) < s_slen n → (-100 ≤ s_sv n j ∧ s_sv n j ≤ 100) := by
        intro n hn j hj
        have h7 : ∀ n, n < 9 → ∀ j : Nat, j < (s_slen n).toNat → (-100 ≤ s_sv n j ∧ s_sv n j ≤ 100) := by decide +kernel
        exact h7 n hn j (by omega)
      have h8 := h9 n hn x.toNat (by have := hq1.1; omega)
      rw [Int.toNat_of_nonneg hq1.1.1] at h8
      exact ⟨by omega, by omega⟩)
  intro H locs hI hL
  have hG2 := hG H locs hI hL
  obtain ⟨cf, kf, fi, f, sa, scell, h1, h2, h3, h4, h5, h6, h7, h8⟩ := hZ
  have hsc : H[sa]? = some scell := by rw [hI.2.1 sa (Array.getElem?_eq_some_iff.mp h5).1]; exact h5
  rcases hw with hw | hw
  · exact W.gets hx hb hown (hts _ hw) h1 h2 h3 h4 hsc (fun e => by rw [e] at h6; cases h6) h7 rfl hd1 hG2
  · exact va_WgetsN hx hb hown (va_Nw.use rfl (hKs.2.2.1 _ hw)) h1 h2 h3 h4 hsc (fun e => by rw [e] at h6; cases h6) h7 rfl hd1 hG2
-- contracts
def jWs (K : jKm) : List Cond := .code (kmY K) (kmC K) (kmN K) (kmT K) :: tG
def jRm (K : jKm) : Room := { frames := kmF K, cells := 0, slots := 0, locals := kmW K }
def jRo (z : jZ) (T : Nat) (v : Int) : Option Value := if T = 23 then none else some (jcv z T v)
def jQc (z : jZ) (K : jKm) (Q : Int → jMm → Prop) : Array Value → State → Outcome → State → Prop := fun _ _ o t => ∃ v M', o = .returned (jRo z (kmR K) v) ∧ jtk (kmR K) v ∧ Q v M' ∧ jI z M' t.heap
def jPc (z : jZ) (K : jKm) (xs : List Int) (M : jMm) : Array Value → State → Prop := va_Pc (jcvs z (kmA K) xs) (fun U => jI z M U.heap ∧ jK z U)
def jM (K : jKm) (f : jMd) : Prop := ∀ (z : jZ) (l : Launch) (xs : List Int) (M : jMm) (Q : Int → jMm → Prop), jWz z → jtks (kmA K) xs → f xs M Q → Met l (kmY K) (jWs K) (jRm K) (jPc z K xs M) (jQc z K Q) 0 0 (fun q => z.2.2.1.size ≤ q)
def jpos : Nat → List Nat → List Nat
  | _, [] => []
  | i, T :: Ts => i :: jpos (i + kcat T) Ts
theorem jIn_has (z : jZ) : ∀ (Ts : List Nat) (xs : List Int) (i : Nat), jtks Ts xs → ∀ q ∈ (jpos i Ts).zip Ts, (q.1, jcv z q.2 (jIn (jpos i Ts) xs q.1)) ∈ lv_args i (jcvs z Ts xs) ∧ jtk q.2 (jIn (jpos i Ts) xs q.1) ∧ i ≤ q.1
  | [], _, i, _, q, hq => by cases hq
  | T :: Ts, [], i, h, q, hq => absurd h id
  | T :: Ts, x :: xs, i, h, q, hq => by
    rcases List.mem_cons.mp hq with e | hq
    · subst e
      refine ⟨?_, ?_, Nat.le_refl i⟩
      · show (i, jcv z T (if i = i then x else _)) ∈ _
        rw [if_pos rfl]; exact List.mem_cons_self
      · show jtk T (if i = i then x else _)
        rw [if_pos rfl]; exact h.1
    · obtain ⟨h1, h2, h3⟩ := jIn_has z Ts xs (i + kcat T) h.2 q hq
      have hk : 1 ≤ kcat T := by unfold kcat; split <;> omega
      have e : jIn (jpos i (T :: Ts)) (x :: xs) q.1 = jIn (jpos (i + kcat T) Ts) xs q.1 := if_neg (by omega)
      rw [e]
      refine ⟨?_, h2, by omega⟩
      show _ ∈ (i, jcv z T x) :: lv_args (if (jcv z T x).category = 2 then i + 2 else i + 1) (jcvs z Ts xs)
      rw [jcv_kcat, show (if kcat T = 2 then i + 2 else i + 1) = i + kcat T by unfold kcat; split <;> simp]
      exact List.mem_cons_of_mem _ h1
theorem lgsl_len (z : jZ) : ∀ (Ts : List Nat) (xs : List Int), (lg_sl (jcvs z Ts xs)).length ≤ (Ts.map kcat).sum
  | [], _ => Nat.zero_le _
  | _ :: _, [] => Nat.zero_le _
  | T :: Ts, x :: xs => by
    have h := lgsl_len z Ts xs
    show ((if (jcv z T x).category = 2 then [Slot.val (jcv z T x), Slot.second] else [Slot.val (jcv z T x)]) ++ lg_sl (jcvs z Ts xs)).length ≤ kcat T + (Ts.map kcat).sum
    rw [List.length_append, jcv_kcat]
    unfold kcat at *
    split <;> simp <;> omega
def jFt (K : jKm) : Prop := (kmR K = 20 ∧ kmT K = some .int) ∨ (kmR K = 22 ∧ kmT K = some .boolean) ∨ (kmR K = 23 ∧ kmT K = none) ∨ (kmR K < 20 ∧ ∃ n, kmT K = some (.object n))
theorem jM_of {K : jKm} {G : jCt} {tend : Nat} {b : jSt} (hS : jS K ((kmP K).zip (kmA K)) G 0 tend b) (hy : plainName (kmY K).cls = true) (hp : kmP K = jpos 0 (kmA K)) (hn : ((kmA K).map kcat).sum ≤ kmN K) (hft : jFt K) : jM K (jMeth (kmP K) b) := by
  intro z l xs M Q hz hx0 hf
  refine Met.ofW (cc := kmC K) (maxL := kmN K) (ret := kmT K) hy rfl ?_
  intro p e s m args below meth c s₁ B hml hv
  obtain ⟨rfl, hI, hKs⟩ := hv
  have hx := B.exec
  have hb := B.bytes
  have hr := B.returns
  have hts := atoms_spec (ws := jWs K) B.pre
  have hown : s.vm.findClass (kmY K).cls = some m.cls := findClass_of_methodNamed B.named
  have hlocks := B.notSynchronized
  have hlen := Nat.le_trans (lgsl_len z (kmA K) xs) hn
  have hl := lv_entry (jcvs z (kmA K) xs) (n := kmN K) hlen
  rw [lg_entry_eq]
  generalize (lg_sl (jcvs z (kmA K) xs) ++ List.replicate (kmN K - (lg_sl (jcvs z (kmA K) xs)).length) Slot.unset).toArray = ls at hl ⊢
  have hO : jO K z (p, l, e, (headSpec (jWs K) (jRm K)).room, s, m, (jcvs z (kmA K) xs).toArray, below, meth, c, 0, 0, MQ below (jQc z K Q) (jcvs z (kmA K) xs).toArray s 0 0 (fun q => z.2.2.1.size ≤ q)) :=
    ⟨hz, hKs, hx, hb, hml, hown, fun w hw => hts w (List.mem_cons_of_mem _ hw), Nat.le_refl _, Nat.le_refl _, Nat.zero_le _, Nat.zero_le _⟩
  have hV : jV K z ((kmP K).zip (kmA K)) (jIn (kmP K) xs) ls := by
    refine ⟨hl.1, hl.2.1, fun q hq => ?_⟩
    rw [hp] at hq ⊢
    obtain ⟨h1, h2, -⟩ := jIn_has z (kmA K) xs 0 hx0 q hq
    exact ⟨hl.2.2 _ h1, h2⟩
  refine hS z _ hO _ M _ Q ls hV hf (fun _ _ _ _ h => absurd h id) (fun pr ls' v M' hd htk hQ => ?_) s.heap [] hI (fun q h => by cases h)
  intro H locs hI' hL
  have post : ∀ t : State, t.heap = H → jQc z K Q (jcvs z (kmA K) xs).toArray s (.returned (jRo z (kmR K) v)) t := fun t ht => ⟨v, M', rfl, htk, hQ, by rw [ht]; exact hI'⟩
  rcases hft with ⟨h1, h2⟩ | ⟨h1, h2⟩ | ⟨h1, h2⟩ | ⟨h1, n, h2⟩
  · rw [h2] at hr
    unfold jRs
    rw [h1] at hd post ⊢
    exact W.iret hx hb hr (fun t ht _ => post t ht) hL hd
  · rw [h2] at hr
    unfold jRs
    rw [h1] at hd post htk ⊢
    refine W.zret hx hb hr ?_ (fun t ht _ => post t ht) hL hd
    rcases jtk22.mp htk with e | e <;> subst e <;> decide
  · rw [h2] at hr
    unfold jRs
    rw [h1] at hd post ⊢
    exact W.vret hx hb hr (fun t ht _ => post t ht) hL hd
  · rw [h2] at hr
    unfold jRs jRo at *
    unfold jRi at hd
    rw [if_neg (by omega)] at hd post ⊢
    rw [if_pos h1] at hd
    have hcv := jcvr (z := z) (T := kmR K) (x := v) h1
    exact W.aret hx hb hr (Or.inl ⟨n, rfl⟩) (Or.inr ⟨_, hcv⟩) (fun t ht _ => post t ht) hL hd
-- what comes to a call
theorem jEs_nil {K : jKm} {G : jCt} {d pc : Nat} : jEs K G d pc pc [] xsN := by
  intro z X hO L M Q ls st hV hc hq hk
  exact hk [] M trivial hq
theorem jEs_cons {K : jKm} {G : jCt} {d d2 pc p1 p T : Nat} {Ts : List Nat} {e : jEx} {es : jXs} (he : jE K G d pc p1 T e) (hes : jEs K G d2 p1 p Ts es) (hd : d2 = d + kcat T) : jEs K G d pc p (T :: Ts) (xsC e es) := by
  subst hd
  intro z X hO L M Q ls st hV hc hq hk
  refine he z X hO L M _ ls st hV hc hq (fun v M1 hv hq1 => ?_)
  refine hes z X hO L M1 _ ls _ hV (cats_push hc) hq1 (fun vs M2 hvs hq2 => ?_)
  have h := hk (v :: vs) M2 ⟨hv, hvs⟩ hq2
  rw [show jcvs z (T :: Ts) (v :: vs) = jcv z T v :: jcvs z Ts vs from rfl, List.reverse_cons, List.append_assoc] at h
  exact h
/-- what a called method must have among the words -/
def jCl (y : MethodName) (cc : ByteArray) (nL : Nat) (rt : Option FieldType) (n : Nat) : Prop := Cond.initialized y.cls ∈ tG ∧ Cond.code y cc nL rt ∈ tG ∧ (y.cls ≠ "java/lang/invoke/MethodHandle" ∧ y.cls ≠ "java/lang/invoke/VarHandle") ∧ (parseMethodDescriptor y.desc).map (fun d => d.parameters.length) = some n
def jRoomOk (K Kc : jKm) : Prop := kmF Kc + 1 ≤ kmF K ∧ 8 + (kmN Kc + 11) + kmW Kc ≤ kmW K
theorem tG_good : ∀ w ∈ tG, (w.onTables && w.keeps) = true ∨ ∃ ty, w = .arrayClass ty := fun w hw => good_of_word (List.mem_filter.mp hw).2
theorem jWs_warm {K : jKm} {s : State} {args : Array Value} (hts : ∀ w ∈ tG, w.before args s = true) (hc : Cond.code (kmY K) (kmC K) (kmN K) (kmT K) ∈ tG) : ∀ w ∈ jWs K, ∀ (a' : Array Value) (U : State), s.WarmedH U.vm → w.before a' U = true := by
  intro w hw a' U hW
  have hm : w ∈ tG := by
    rcases List.mem_cons.mp hw with e | h
    · rw [e]; exact hc
    · exact h
  exact word_at hW (tG_good w hm) (hts w hm)
theorem jcvs_len (z : jZ) : ∀ (Ts : List Nat) (xs : List Int), jtks Ts xs → (jcvs z Ts xs).length = Ts.length
  | [], [], _ => rfl
  | [], _ :: _, h => absurd h id
  | _ :: _, [], h => absurd h id
  | T :: Ts, x :: xs, h => by
    show (jcvs z Ts xs).length + 1 = Ts.length + 1
    rw [jcvs_len z Ts xs h.2]
theorem jPc_blind (z : jZ) (K : jKm) (xs : List Int) (M : jMm) : FrameBlind (jPc z K xs M) := by
  intro a U g mk h
  obtain ⟨h1, h2, h3⟩ := h
  exact ⟨h1, h2, jK_same (s := U) (U := U.calling g mk a) rfl h3⟩
/-- behind a call, whatever the answer -/
theorem jG_run {Kc : jKm} {z : jZ} {p l e R s m args below meth c ce sl Qf} {H : Heap} {locs : List Loc} {pc : Nat} {ls : Array Slot} {st0 rest : List Value} {Q : Int → jMm → Prop} {a : Array Value}
    (hr : va_Run p l e R s m args below meth c H locs ce sl 0 0 (F0 m pc ls st0) rest (jQc z Kc Q a) (fun q => z.2.2.1.size ≤ q)) (hL : ∀ q ∈ locs, z.2.2.1.size ≤ q.base)
    (kk : ∀ v M', jtk (kmR Kc) v → Q v M' → jG z (p, l, e, R, s, m, args, below, meth, c, ce, sl, Qf) (pc + 3) ls ((jRo z (kmR Kc) v).toList ++ rest) M') : W p l e R s m args below meth c H locs ce sl Qf (F0 m pc ls st0) := by
  intro T hT X
  obtain ⟨v, st₀, t, T', L, h0, X', hL', e1, e2, ⟨r, M', hv, htk, hQ, hI'⟩, st⟩ := hr T hT X
  cases hv
  obtain ⟨t2, a1, b1⟩ := kk r M' htk hQ T'.heap (locs ++ L) (by rw [e1]; exact hI') (fun q hq => by
      rcases List.mem_append.mp hq with h | h
      · exact hL q h
      · exact hL' q h) T' rfl X'
  exact ⟨t2, st t2 a1, b1⟩
theorem jG_callV {K Kc : jKm} {z : jZ} {X : jAct} {pc ix C : Nat} {Ts : List Nat} {ls : Array Slot} {k : Int} {vs : List Int} {M : jMm} {st : List Value} {f : jMd} {Q : Int → jMm → Prop} (hO : jO K z X) (hsz : ls.size = kmN K) (hM : jM Kc f) (hd : decode (kmC K) pc = .ok (.invokevirtual ix, 3)) (hA : kmA Kc = C :: Ts) (hC : C < 8) (hcl : c_R C = (kmY Kc).cls) (hcc : jCl (kmY Kc) (kmC Kc) (kmN Kc) (kmT Kc) Ts.length) (hv : Cond.instanceMethod (kmY Kc) ∈ tG ∧ Cond.selects (kmY Kc).cls (kmY Kc) (kmY Kc) ∈ tG) (hw : Cond.methodLink (kmY K).cls ix (kmY Kc) ∈ tG) (hrm : jRoomOk K Kc) (h8 : cats st ≤ 8) (hvs : jtks (C :: Ts) (k :: vs)) (hq : f (k :: vs) M Q)
    (kk : ∀ v M', jtk (kmR Kc) v → Q v M' → jG z X (pc + 3) ls ((jRo z (kmR Kc) v).toList ++ st) M') : jG z X pc ls ((jcvs z Ts vs).reverse ++ .ref (z.2.1 k) :: st) M := by
  obtain ⟨p, l, e, R, s, m, args, below, meth, c, ce, sl, Qf⟩ := X
  obtain ⟨hz, hKs, hx, hb, hml, hown, hts, hfr, hwo, hce, hsl⟩ := jO_facts hO
  intro H locs hI hL
  obtain ⟨k0, k1, k2⟩ := (jtkr (by omega)).mp hvs.1
  obtain ⟨cell, q1, q2, q3, -⟩ := hI.2.2.1 k k0 k1
  rw [k2] at q3
  obtain ⟨q4, -⟩ := q3 hC
  obtain ⟨-, hfc, -⟩ := hKs.1.1 C _ (c_at hC)
  have hMet := hM z l (k :: vs) M Q hz (by rw [hA]; exact hvs) hq
  refine jG_run (Kc := Kc) (va_runV (own := (kmY K).cls) (C := (kmY Kc).cls) (bytes := kmC Kc) (maxL := kmN Kc) (ret := kmT Kc) (n := Ts.length) (Ts := tG) (As := jcvs z Ts vs) (b := z.2.1 k) ⟨hx, hb, hml, hown, hts⟩ hMet ⟨⟨rfl, rfl, ?_, ?_, jWs_warm hts hcc.2.1, List.mem_cons_self, hts _ hcc.2.1, hts _ hcc.1, hcc.2.2.1, fun sig h => ?_, hts _ hw⟩, hts _ hv.1, hts _ hv.2⟩ ⟨jPc_blind z Kc _ M, ⟨cell, q1, by rw [q2]; rfl, ?_⟩, fun U hU hW => ⟨?_, by rw [hU]; exact hI, jK_warm hW hKs⟩⟩ rfl (jcvs_len z Ts vs hvs.2) hsz rfl (by show 2 * 0 + cats st ≤ 8; omega) hd ⟨hce, hsl⟩) hL kk
  · exact Nat.le_trans hrm.1 hfr
  · exact Nat.le_trans hrm.2 hwo
  · have h2 := hcc.2.2.2
    rw [h] at h2
    exact (Option.some.inj h2).symm
  · rw [q4, ← hcl]; exact hfc
  · rw [hA]
    show (Value.ref (z.2.1 k) :: jcvs z Ts vs).toArray = (jcv z C k :: jcvs z Ts vs).toArray
    rw [jcvr (by omega)]
theorem jG_callS {K Kc : jKm} {z : jZ} {X : jAct} {pc ix : Nat} {ls : Array Slot} {vs : List Int} {M : jMm} {st : List Value} {f : jMd} {Q : Int → jMm → Prop} (hO : jO K z X) (hsz : ls.size = kmN K) (hM : jM Kc f) (hd : decode (kmC K) pc = .ok (.invokestatic ix, 3)) (hcc : jCl (kmY Kc) (kmC Kc) (kmN Kc) (kmT Kc) (kmA Kc).length) (hv : Cond.static (kmY Kc) ∈ tG) (hw : Cond.methodLink (kmY K).cls ix (kmY Kc) ∈ tG ∨ ∃ h, Cond.methodLinkNest (kmY K).cls ix (kmY Kc) h ∈ nestW) (hrm : jRoomOk K Kc) (h8 : cats st ≤ 8) (hvs : jtks (kmA Kc) vs) (hq : f vs M Q)
    (kk : ∀ v M', jtk (kmR Kc) v → Q v M' → jG z X (pc + 3) ls ((jRo z (kmR Kc) v).toList ++ st) M') : jG z X pc ls ((jcvs z (kmA Kc) vs).reverse ++ st) M := by
  obtain ⟨p, l, e, R, s, m, args, below, meth, c, ce, sl, Qf⟩ := X
  obtain ⟨hz, hKs, hx, hb, hml, hown, hts, hfr, hwo, hce, hsl⟩ := jO_facts hO
  intro H locs hI hL
  have hMet := hM z l vs M Q hz hvs hq
  have h1 := Nat.le_trans hrm.1 hfr
  have h2 := Nat.le_trans hrm.2 hwo
  have h3 : ∀ sig, parseMethodDescriptor (kmY Kc).desc = some sig → (kmA Kc).length = sig.parameters.length := fun sig h => by
    have h2 := hcc.2.2.2
    rw [h] at h2
    exact (Option.some.inj h2).symm
  have hp : PreS s H (jPc z Kc vs M) (jcvs z (kmA Kc) vs) := ⟨jPc_blind z Kc _ M, fun U hU hW => ⟨rfl, by rw [hU]; exact hI, jK_warm hW hKs⟩⟩
  rcases hw with hw | ⟨h, hw⟩
  · exact jG_run (Kc := Kc) (va_runS (own := (kmY K).cls) (bytes := kmC Kc) (maxL := kmN Kc) (ret := kmT Kc) (n := (kmA Kc).length) (Ts := tG) (As := jcvs z (kmA Kc) vs) ⟨hx, hb, hml, hown, hts⟩ hMet ⟨⟨rfl, rfl, h1, h2, jWs_warm hts hcc.2.1, List.mem_cons_self, hts _ hcc.2.1, hts _ hcc.1, hcc.2.2.1, h3, hts _ hw⟩, hts _ hv⟩ hp rfl (jcvs_len z _ vs hvs) hsz rfl (by show 2 * 0 + cats st ≤ 8; omega) hd ⟨hce, hsl⟩) hL kk
  · exact jG_run (Kc := Kc) (va_runSN (own := (kmY K).cls) (host := h) (bytes := kmC Kc) (maxL := kmN Kc) (ret := kmT Kc) (n := (kmA Kc).length) (Ts := tG) (As := jcvs z (kmA Kc) vs) ⟨hx, hb, hml, hown, hts⟩ hMet ⟨⟨⟨rfl, rfl, h1, h2, jWs_warm hts hcc.2.1, List.mem_cons_self⟩, hts _ hcc.2.1, hts _ hcc.1, hcc.2.2.1, h3, va_Nw.use rfl (hKs.2.2.1 _ hw)⟩, hts _ hv, trivial⟩ hp rfl (jcvs_len z _ vs hvs) hsz rfl (by show 2 * 0 + cats st ≤ 8; omega) hd ⟨hce, hsl⟩) hL kk
theorem jE_callV {K Kc : jKm} {G : jCt} {d pc p1 p ix C T : Nat} {Ts : List Nat} {es : jXs} {f : jMd} (hes : jEs K G d pc p1 (C :: Ts) es) (hM : jM Kc f) (hd : decode (kmC K) p1 = .ok (.invokevirtual ix, 3)) (hp : p = p1 + 3) (hA : kmA Kc = C :: Ts) (hC : C < 8) (hcl : c_R C = (kmY Kc).cls) (hcc : jCl (kmY Kc) (kmC Kc) (kmN Kc) (kmT Kc) Ts.length) (hv : Cond.instanceMethod (kmY Kc) ∈ tG ∧ Cond.selects (kmY Kc).cls (kmY Kc) (kmY Kc) ∈ tG) (hw : Cond.methodLink (kmY K).cls ix (kmY Kc) ∈ tG) (hrm : jRoomOk K Kc) (h8 : d ≤ 8) (hT : (kmR Kc = T ∨ (kmR Kc = 22 ∧ T = 20)) ∧ T ≠ 23) : jE K G d pc p T (xCall f es) := by
  subst hp
  intro z X hO L M Q ls st hV hc hq hk
  refine hes z X hO L M _ ls st hV hc hq (fun vs M1 hvs hq1 => ?_)
  match vs, hvs with
  | [], hvs => exact absurd hvs id
  | k :: vs, hvs =>
    have h := jG_callV hO hV.1 hM hd hA hC hcl hcc hv hw hrm (Nat.le_trans hc h8) hvs hq1 (fun v M2 hv2 hq2 => by
      rcases hT.1 with e | ⟨e, e2⟩
      · have h := hk v M2 (e ▸ hv2) hq2
        unfold jRo
        rw [if_neg (by omega), e]
        exact h
      · subst e2
        rw [e] at hv2
        have h := hk v M2 (by rcases jtk22.mp hv2 with q | q <;> subst q <;> exact ⟨by decide, by decide⟩) hq2
        unfold jRo
        rw [e]
        exact h)
    rw [show jcvs z (C :: Ts) (k :: vs) = jcv z C k :: jcvs z Ts vs from rfl, List.reverse_cons, List.append_assoc, jcvr (T := C) (x := k) (by omega)]
    exact h
theorem jE_callS {K Kc : jKm} {G : jCt} {d pc p1 p ix T : Nat} {Ts : List Nat} {es : jXs} {f : jMd} (hes : jEs K G d pc p1 Ts es) (hM : jM Kc f) (hd : decode (kmC K) p1 = .ok (.invokestatic ix, 3)) (hp : p = p1 + 3) (hA : kmA Kc = Ts) (hcc : jCl (kmY Kc) (kmC Kc) (kmN Kc) (kmT Kc) (kmA Kc).length) (hv : Cond.static (kmY Kc) ∈ tG) (hw : Cond.methodLink (kmY K).cls ix (kmY Kc) ∈ tG ∨ ∃ h, Cond.methodLinkNest (kmY K).cls ix (kmY Kc) h ∈ nestW) (hrm : jRoomOk K Kc) (h8 : d ≤ 8) (hT : (kmR Kc = T ∨ (kmR Kc = 22 ∧ T = 20)) ∧ T ≠ 23) : jE K G d pc p T (xCall f es) := by
  subst hp; subst hA
  intro z X hO L M Q ls st hV hc hq hk
  refine hes z X hO L M _ ls st hV hc hq (fun vs M1 hvs hq1 => ?_)
  exact jG_callS hO hV.1 hM hd hcc hv hw hrm (Nat.le_trans hc h8) hvs hq1 (fun v M2 hv2 hq2 => by
      rcases hT.1 with e | ⟨e, e2⟩
      · have h := hk v M2 (e ▸ hv2) hq2
        unfold jRo
        rw [if_neg (by omega), e]
        exact h
      · subst e2
        rw [e] at hv2
        have h := hk v M2 (by rcases jtk22.mp hv2 with q | q <;> subst q <;> exact ⟨by decide, by decide⟩) hq2
        unfold jRo
        rw [e]
        exact h)
theorem jS_doV {K Kc : jKm} {G : jCt} {pc p1 t ix C : Nat} {Ts : List Nat} {es : jXs} {f : jMd} (hes : jEs K G 0 pc p1 (C :: Ts) es) (hM : jM Kc f) (hd : decode (kmC K) p1 = .ok (.invokevirtual ix, 3)) (hp : (kmR Kc = 23 ∧ t = p1 + 3) ∨ (kmR Kc ≠ 23 ∧ kmR Kc ≠ 21 ∧ decode (kmC K) (p1 + 3) = .ok (.pop, 1) ∧ t = p1 + 4)) (hA : kmA Kc = C :: Ts) (hC : C < 8) (hcl : c_R C = (kmY Kc).cls) (hcc : jCl (kmY Kc) (kmC Kc) (kmN Kc) (kmT Kc) Ts.length) (hv : Cond.instanceMethod (kmY Kc) ∈ tG ∧ Cond.selects (kmY Kc).cls (kmY Kc) (kmY Kc) ∈ tG) (hw : Cond.methodLink (kmY K).cls ix (kmY Kc) ∈ tG) (hrm : jRoomOk K Kc) : jS K G G pc t (tDo f es) := by
  intro z X hO L M N R ls hV hq hN hR
  refine hes z X hO L M _ ls [] hV (Nat.le_refl 0) hq (fun vs M1 hvs hq1 => ?_)
  match vs, hvs with
  | [], hvs => exact absurd hvs id
  | k :: vs, hvs =>
    have h := jG_callV (st := []) hO hV.1 hM hd hA hC hcl hcc hv hw hrm (Nat.zero_le 8) hvs hq1 (fun v M2 hv2 hq2 => by
      rcases hp with ⟨e1, e2⟩ | ⟨e1, e3, e4, e2⟩
      · subst e2
        unfold jRo
        rw [if_pos e1]
        exact hN L M2 ls hV hq2
      · subst e2
        unfold jRo
        rw [if_neg e1]
        exact jstep hO (fun p l e R s m args below meth c ce sl Qf H locs _ hx hb kk => lv_pop hx hb e4 (jcv_cat1 z v e3) kk) (hN L M2 ls hV hq2))
    rw [show jcvs z (C :: Ts) (k :: vs) = jcv z C k :: jcvs z Ts vs from rfl, List.reverse_cons, List.append_assoc, jcvr (T := C) (x := k) (by omega)]
    exact h
theorem jS_doS {K Kc : jKm} {G : jCt} {pc p1 t ix : Nat} {Ts : List Nat} {es : jXs} {f : jMd} (hes : jEs K G 0 pc p1 Ts es) (hM : jM Kc f) (hd : decode (kmC K) p1 = .ok (.invokestatic ix, 3)) (hp : (kmR Kc = 23 ∧ t = p1 + 3) ∨ (kmR Kc ≠ 23 ∧ kmR Kc ≠ 21 ∧ decode (kmC K) (p1 + 3) = .ok (.pop, 1) ∧ t = p1 + 4)) (hA : kmA Kc = Ts) (hcc : jCl (kmY Kc) (kmC Kc) (kmN Kc) (kmT Kc) (kmA Kc).length) (hv : Cond.static (kmY Kc) ∈ tG) (hw : Cond.methodLink (kmY K).cls ix (kmY Kc) ∈ tG ∨ ∃ h, Cond.methodLinkNest (kmY K).cls ix (kmY Kc) h ∈ nestW) (hrm : jRoomOk K Kc) : jS K G G pc t (tDo f es) := by
  subst hA
  intro z X hO L M N R ls hV hq hN hR
  refine hes z X hO L M _ ls [] hV (Nat.le_refl 0) hq (fun vs M1 hvs hq1 => ?_)
  exact jG_callS hO hV.1 hM hd hcc hv hw hrm (Nat.zero_le 8) hvs hq1 (fun v M2 hv2 hq2 => by
      rcases hp with ⟨e1, e2⟩ | ⟨e1, e3, e4, e2⟩
      · subst e2
        unfold jRo
        rw [if_pos e1]
        exact hN L M2 ls hV hq2
      · subst e2
        unfold jRo
        rw [if_neg e1]
        exact jstep hO (fun p l e R s m args below meth c ce sl Qf H locs _ hx hb kk => lv_pop hx hb e4 (jcv_cat1 z v e3) kk) (hN L M2 ls hV hq2))
-- System.arraycopy of whole numbers
theorem jS_copy {K : jKm} {G : jCt} {pc p1 p2 p3 p4 p5 t ix : Nat} {a i b j n : jEx} (ha : jE K G 0 pc p1 8 a) (hi : jE K G 1 p1 p2 20 i) (hb : jE K G 2 p2 p3 8 b) (hj : jE K G 3 p3 p4 20 j) (hn : jE K G 4 p4 p5 20 n) (hd : decode (kmC K) p5 = .ok (.invokestatic ix, 3)) (hp : t = p5 + 3) (hw : Cond.methodLink (kmY K).cls ix arraycopyName ∈ tG ∧ Cond.native arraycopyName ∈ tG ∧ Cond.static arraycopyName ∈ tG ∧ Cond.initialized "java/lang/System" ∈ tG) (hr : 1 ≤ kmF K ∧ nativeFrameWords "java/lang/System" "arraycopy" 5 + 11 ≤ kmW K) : jS K G G pc t (tCopy a i b j n) := by
  subst hp
  intro z X hO L M N R ls hV hq hN hR
  refine ha z X hO L M _ ls [] hV (Nat.le_refl 0) hq (fun k M1 hk1 hq1 => ?_)
  refine hi z X hO L M1 _ ls [jcv z 8 k] hV (Nat.le_refl 1) hq1 (fun x M2 hx1 hq2 => ?_)
  refine hb z X hO L M2 _ ls [jcv z 20 x, jcv z 8 k] hV (Nat.le_refl 2) hq2 (fun h M3 hh1 hq3 => ?_)
  refine hj z X hO L M3 _ ls [jcv z 8 h, jcv z 20 x, jcv z 8 k] hV (Nat.le_refl 3) hq3 (fun y M4 hy1 hq4 => ?_)
  refine hn z X hO L M4 _ ls [jcv z 20 y, jcv z 8 h, jcv z 20 x, jcv z 8 k] hV (Nat.le_refl 4) hq4 (fun w M5 hw1 hq5 => ?_)
  obtain ⟨p, l, e, Rm, s, m, args, below, meth, c, ce, sl, Qf⟩ := X
  obtain ⟨hz, hKs, hx, hbb, hml, hown, hts, hfr, hwo, hce, hsl⟩ := jO_facts hO
  obtain ⟨⟨x0, y0, w0, hxw, hyw⟩, hq6⟩ := hq5
  intro H locs hI hL
  obtain ⟨k0, k1, k2⟩ := (jtkr (by omega)).mp hk1
  obtain ⟨h0, h1, h2⟩ := (jtkr (by omega)).mp hh1
  obtain ⟨cs, q1, q2, -, q3⟩ := hI.2.2.1 k k0 k1
  have q4 := q3 (by omega)
  obtain ⟨cd, r1, r2, -, r3⟩ := hI.2.2.1 h h0 h1
  have r4 := r3 (by omega)
  rw [k2] at q4
  rw [h2] at r4
  have hx1 := jtk20.mp hx1
  have hy1 := jtk20.mp hy1
  have hw1 := jtk20.mp hw1
  have ivk : ∀ q, jSv z M5 k q = .int (Int32.ofInt (M5 k q)) := fun q => jSv_i (by rw [s_isr_a k2 (by decide)]; rfl)
  have ivh : ∀ q, jSv z M5 h q = .int (Int32.ofInt (M5 h q)) := fun q => jSv_i (by rw [s_isr_a h2 (by decide)]; rfl)
  have q5 : cs = arrV (z.2.2.2 8) (s_len k).toNat (fun q => .int (Int32.ofInt (M5 k q))) := by rw [q4]; congr 1; funext q; exact ivk q
  have r5 : cd = arrV (z.2.2.2 8) (s_len h).toNat (fun q => .int (Int32.ofInt (M5 h q))) := by rw [r4]; congr 1; funext q; exact ivh q
  obtain ⟨-, ka, hka, ca, hkka⟩ := hKs.2.1 8 (by decide) (by decide) (s_len k).toNat (fun q => .int (Int32.ofInt (M5 k q)))
  have clx := clamp32 x0 hx1
  have cly := clamp32 y0 hy1
  have clw := clamp32 w0 hw1
  have G0 := hN L (jwR M5 h y w (fun q => M5 k (q - y + x))) ls hV hq6
  intro T hT X
  obtain ⟨vm', X', step⟩ := X.arraycopy hx hown (hts _ hw.1) (hts _ hw.2.1) (hts _ hw.2.2.1) (hts _ hw.2.2.2) (src := z.2.1 k) (dst := z.2.1 h) (cs := cs) (cd := cd) (srcPos := Int32.ofInt x) (destPos := Int32.ofInt y) (n := Int32.ofInt w) (ks := ka) (kd := ka) (sComp := ca) (dComp := ca) (sType := .int) (dType := .int) (by rw [hT]; exact q1) (by rw [hT]; exact r1)
    (fun _ h => by rw [q2] at h; cases h) (fun _ h => by rw [r2] at h; cases h) (fun h => by rw [q2] at h; cases h) (fun h => by rw [r2] at h; cases h) (by rw [q5]; exact hka) (by rw [r5]; exact hka) hkka hkka rfl (neg32 x0 hx1) (neg32 y0 hy1) (neg32 w0 hw1)
    (by rw [ir_to hx1, ir_to hw1, q4, arrV_size]; have := len32 k; omega)
    (by rw [ir_to hy1, ir_to hw1, r4, arrV_size]; have := len32 h; omega)
    (fun vm₁ _ i hi => by
      have hlt : (Int32.ofInt x).toNatClampNeg + i < (s_len k).toNat := by rw [clx]; rw [clw] at hi; omega
      have e : cs.slots.getD ((Int32.ofInt x).toNatClampNeg + i) .null = .int (Int32.ofInt (M5 k ((Int32.ofInt x).toNatClampNeg + i : Nat))) := by
        rw [q5, Array.getD_eq_getD_getElem?, arrV_read _ _ hlt]
        rfl
      rw [e]
      exact ⟨rfl, trivial⟩)
    (g := F0 m p5 ls [.int (Int32.ofInt w), .int (Int32.ofInt y), .ref (z.2.1 h), .int (Int32.ofInt x), .ref (z.2.1 k)]) rfl (by rw [hml]; exact hV.1) (rest := []) rfl (by rw [hbb]; exact hd) (Nat.le_trans hr.1 hfr) (by show 2 * 0 + 0 + (nativeFrameWords "java/lang/System" "arraycopy" 5 + 11) ≤ Rm.locals; have := hr.2; omega)
  have e1 : copied cs cd (Int32.ofInt x) (Int32.ofInt y) (Int32.ofInt w) = arrV (z.2.2.2 8) (s_len h).toNat (fun q => .int (Int32.ofInt (va_cpy (fun q : Nat => M5 k q) (fun q : Nat => M5 h q) x.toNat y.toNat w.toNat q))) := by
    have := va_copied (fun q : Int => .int (Int32.ofInt q)) (z.2.2.2 8) (z.2.2.2 8) (n0 := (s_len k).toNat) (n1 := (s_len h).toNat) (sp := x.toNat) (dp := y.toNat) (n := w.toNat) (fun q : Nat => M5 k q) (fun q : Nat => M5 h q) (by omega)
    rw [← this, q5, r5]
    show (arrV _ _ _).storeRun (Int32.ofInt y).toNatClampNeg ((arrV _ _ _).stretch (Int32.ofInt x).toNatClampNeg (Int32.ofInt w).toNatClampNeg) = _
    rw [clx, cly, clw]
  rw [e1] at X' step
  have hl : z.2.1 h < H.size := (Array.getElem?_eq_some_iff.mp r1).1
  have hval : ∀ q : Int, 0 ≤ q → jwR M5 h y w (fun q => M5 k (q - y + x)) h q = va_cpy (fun q : Nat => M5 k q) (fun q : Nat => M5 h q) x.toNat y.toNat w.toNat q.toNat := by
    intro q hq
    unfold jwR va_cpy
    by_cases hh : y ≤ q ∧ q < y + w
    · rw [if_pos ⟨rfl, hh⟩, if_pos (by omega)]
      show M5 k (q - y + x) = M5 k ((x.toNat + (q.toNat - y.toNat) : Nat) : Int)
      rw [show (q - y + x) = ((x.toNat + (q.toNat - y.toNat) : Nat) : Int) by omega]
    · rw [if_neg (fun g => hh g.2), if_neg (by omega)]
      show M5 h q = M5 h (q.toNat : Int)
      rw [Int.toNat_of_nonneg hq]
  have hset : (H.setIfInBounds (z.2.1 h) (arrV (z.2.2.2 8) (s_len h).toNat (fun q => .int (Int32.ofInt (va_cpy (fun q : Nat => M5 k q) (fun q : Nat => M5 h q) x.toNat y.toNat w.toNat q)))))[z.2.1 h]? = some (arrV (z.2.2.2 8) (s_len h).toNat (fun q => .int (Int32.ofInt (va_cpy (fun q : Nat => M5 k q) (fun q : Nat => M5 h q) x.toNat y.toNat w.toNat q)))) := by simp [Array.getElem?_setIfInBounds, hl]
  have hcell : (8 ≤ s_kind h → arrV (z.2.2.2 8) (s_len h).toNat (fun q => .int (Int32.ofInt (va_cpy (fun q : Nat => M5 k q) (fun q : Nat => M5 h q) x.toNat y.toNat w.toNat q))) = arrV (z.2.2.2 (s_kind h)) (s_len h).toNat (jSv z (jwR M5 h y w (fun q => M5 k (q - y + x))) h)) := by
    intro _
    rw [h2]
    congr 1
    funext q
    rw [jSv_i (by rw [s_isr_a h2 (by decide)]; rfl), hval q (by omega)]
    rfl
  have hrng : ∀ q, ir (jwR M5 h y w (fun q => M5 k (q - y + x)) h q) := by
    intro q
    unfold jwR
    split
    · exact hI.2.2.2 _ _
    · exact hI.2.2.2 _ _
  have hIn := jI_upd (M' := jwR M5 h y w (fun q => M5 k (q - y + x))) hI hz h0 h1 (fun a b g => if_neg (fun g2 => g g2.1)) (H' := H.setIfInBounds (z.2.1 h) (arrV (z.2.2.2 8) (s_len h).toNat (fun q => .int (Int32.ofInt (va_cpy (fun q : Nat => M5 k q) (fun q : Nat => M5 h q) x.toNat y.toNat w.toNat q))))) (by simp) (fun q hq => by simp [Array.getElem?_setIfInBounds, Ne.symm hq]) ⟨_, hset, rfl, fun g => by omega, hcell⟩ hrng
  obtain ⟨t, a1, b1⟩ := G0 _ (locs ++ (cs.stretch (Int32.ofInt x).toNatClampNeg (Int32.ofInt w).toNatClampNeg).zipIdx.map fun q => ⟨z.2.1 h, (Int32.ofInt y).toNatClampNeg + q.2⟩) hIn (by
    intro q hq
    rcases List.mem_append.mp hq with g | g
    · exact hL q g
    · obtain ⟨r, -, hr⟩ := List.mem_map.mp g
      rw [← hr]; exact hz.2 h h0 h1) _ (by rw [← hT]; rfl) X'
  exact ⟨t, step t a1, b1⟩
end
section
/-! short forms -/
theorem irD {n : Int} (h : (decide (-2147483648 ≤ n) && decide (n ≤ 2147483647)) = true) : ir n := by
  simp only [Bool.and_eq_true, decide_eq_true_eq] at h; exact h
theorem lrD {n : Int} (h : (decide (-9223372036854775808 ≤ n) && decide (n ≤ 9223372036854775807)) = true) : lr n := by
  simp only [Bool.and_eq_true, decide_eq_true_eq] at h; exact h
theorem tyD {T : Nat} (h : decide (T < 20) = true) : T < 20 := of_decide_eq_true h
theorem tyL {a b : Nat} (h : decide (a < b) = true) : a < b := of_decide_eq_true h
theorem tyG {a b : Nat} (h : decide (a ≤ b) = true) : a ≤ b := of_decide_eq_true h
theorem tyC {T : Nat} (h : decide (T < 8) = true) : T < 8 := of_decide_eq_true h
theorem tyE {T : Nat} (h : decide (T ≤ 8) = true) : T ≤ 8 := of_decide_eq_true h
theorem roC {K Kc : jKm} (h : (decide (kmF Kc + 1 ≤ kmF K) && decide (8 + (kmN Kc + 11) + kmW Kc ≤ kmW K)) = true) : jRoomOk K Kc := by
  simp only [Bool.and_eq_true, decide_eq_true_eq] at h; exact h
theorem roD {K : jKm} {d : Nat} (h : (decide (1 ≤ kmF K) && decide (d + 13 ≤ kmW K)) = true) : 1 ≤ kmF K ∧ d + 13 ≤ kmW K := by
  simp only [Bool.and_eq_true, decide_eq_true_eq] at h; exact h
theorem roA {K : jKm} (h : (decide (1 ≤ kmF K) && decide (18 ≤ kmW K)) = true) : 1 ≤ kmF K ∧ nativeFrameWords "java/lang/System" "arraycopy" 5 + 11 ≤ kmW K := by
  simp only [Bool.and_eq_true, decide_eq_true_eq] at h
  have e : nativeFrameWords "java/lang/System" "arraycopy" 5 = 7 := by decide +kernel
  rw [e]; exact h
theorem rtD {R T : Nat} (h : decide ((R = T ∨ (R = 22 ∧ T = 20)) ∧ T ≠ 23) = true) : (R = T ∨ (R = 22 ∧ T = 20)) ∧ T ≠ 23 := of_decide_eq_true h
theorem rnD {R : Nat} (h : decide (R ≠ 23) = true) : R ≠ 23 := of_decide_eq_true h
def jFd (C j T : Nat) (fin : Bool) : Prop := C < 8 ∧ j < c_N C ∧ s_fty C j = T ∧ (c_T C j).2.2.2 = fin
theorem jE_gf {K : jKm} {G : jCt} {d pc p1 p C j i T : Nat} {fin : Bool} {ji : Int} {o : jEx} (ho : jE K G d pc p1 C o) (hd : decode (kmC K) p1 = .ok (.getfield i, 3)) (hp : p = p1 + 3) (hj : ji = (j : Int)) (hF : jFd C j T fin) (hw : Cond.fieldLink (kmY K).cls i (c_T C j).1 (c_T C j).2.1 (c_T C j).2.2.1 ∈ tG) (hT : decide (20 ≤ T) = true := by rfl) : jE K G d pc p 20 (xGf o ji) :=
  jE_getf ho hd hp hj hF.1 hF.2.1 (by rw [hF.2.2.1]; exact of_decide_eq_true hT) hw
theorem jE_gr {K : jKm} {G : jCt} {d pc p1 p C j i T : Nat} {fin : Bool} {ji : Int} {o : jEx} (ho : jE K G d pc p1 C o) (hd : decode (kmC K) p1 = .ok (.getfield i, 3)) (hp : p = p1 + 3) (hj : ji = (j : Int)) (hF : jFd C j T fin) (hT : T < 20) (hw : Cond.fieldLink (kmY K).cls i (c_T C j).1 (c_T C j).2.1 (c_T C j).2.2.1 ∈ tG) : jE K G d pc p T (xGr o ji) :=
  jE_getr ho hd hp hj hF.1 hF.2.1 hF.2.2.1 hT hw
theorem jS_pf {K : jKm} {G : jCt} {pc p1 p2 t C j i d1 : Nat} {ji : Int} {o e : jEx} (ho : jE K G 0 pc p1 C o) (he : jE K G d1 p1 p2 20 e) (hd : decode (kmC K) p2 = .ok (.putfield i, 3)) (hp : t = p2 + 3) (hj : ji = (j : Int)) (hF : jFd C j 20 false) (hw : Cond.fieldLink (kmY K).cls i (c_T C j).1 (c_T C j).2.1 (c_T C j).2.2.1 ∈ tG) (hd1 : d1 = 1) : jS K G G pc t (tPut o ji e) :=
  jS_put ho he hd hp hj hF.1 hF.2.1 hF.2.2.1 hF.2.2.2 hw hd1
theorem jS_pfZ {K : jKm} {G : jCt} {pc p1 p2 t C j i d1 : Nat} {ji : Int} {o e : jEx} (ho : jE K G 0 pc p1 C o) (he : jE K G d1 p1 p2 20 e) (hd : decode (kmC K) p2 = .ok (.putfield i, 3)) (hp : t = p2 + 3) (hj : ji = (j : Int)) (hF : jFd C j 22 false) (hw : Cond.fieldLink (kmY K).cls i (c_T C j).1 (c_T C j).2.1 (c_T C j).2.2.1 ∈ tG) (hd1 : d1 = 1) : jS K G G pc t (tPutZ o ji e) :=
  jS_putZ ho he hd hp hj hF.1 hF.2.1 hF.2.2.1 hF.2.2.2 hw hd1
theorem jS_pfO {K : jKm} {G : jCt} {pc p1 p2 p3 p4 t C j i d2 : Nat} {ji : Int} {o e : jEx} {b : jBo} (ho : jE K G 0 pc p1 C o) (hdup : decode (kmC K) p1 = .ok (.dup, 1)) (hg : decode (kmC K) (p1 + 1) = .ok (.getfield i, 3)) (hp2 : p2 = p1 + 4) (he : jE K G d2 p2 p3 20 e) (hb : jB K 1 p3 p4 20 20 20 b) (hd : decode (kmC K) p4 = .ok (.putfield i, 3)) (hp : t = p4 + 3) (hj : ji = (j : Int)) (hF : jFd C j 20 false) (hw : Cond.fieldLink (kmY K).cls i (c_T C j).1 (c_T C j).2.1 (c_T C j).2.2.1 ∈ tG) (hd2 : d2 = 2) : jS K G G pc t (tPutO b o ji e) :=
  jS_putO ho hdup hg hp2 he hb hd hp hj hF.1 hF.2.1 hF.2.2.1 hF.2.2.2 hw hd2
theorem lsw_eq {K : jKm} {G G' : jCt} {p1 t : Nat} {d : jSt} {L : jLo} {M : jMm} {N : jLo → jMm → Prop} {R : Int → jMm → Prop} {dflt : Int} : ∀ (ps : List (Int × Int)) (ss : List jSt) (lo v : Int), (∀ (i : Nat) (q : Int × Int), ps[i]? = some q → q.1 = lo + i) → jT K G G' p1 t (ps.map (·.2)) ss → tSwS lo ss d v L M N R →
    (∃ (s : jSt) (tgt : Nat), (p1 : Int) + Op.lookupswitch.offset ps dflt v = (tgt : Int) ∧ jS K G G' tgt t s ∧ s L M N R) ∨ (Op.lookupswitch.offset ps dflt v = dflt ∧ d L M N R)
  | [], [], lo, v, _, _, h => Or.inr ⟨rfl, h⟩
  | q :: ps, s :: ss, lo, v, hk, hT, h => by
    obtain ⟨⟨tgt, ht, hs⟩, hT2⟩ := hT
    have hq : q.1 = lo := by have := hk 0 q rfl; simpa using this
    obtain ⟨a, o⟩ := q
    dsimp only at hq ht
    subst hq
    rw [Op.lookupswitch.offset_cons]
    by_cases e : v = a
    · subst e
      rw [if_pos rfl]
      exact Or.inl ⟨s, tgt, ht, hs, h.1 rfl⟩
    · rw [if_neg (fun q => e q.symm)]
      exact lsw_eq ps ss (a + 1) v (fun i q hi => by have := hk (i + 1) q (by simpa using hi); rw [this]; omega) hT2 (h.2 e)
  | [], _ :: _, _, _, _, hT, _ => absurd hT id
  | _ :: _, [], _, _, _, hT, _ => absurd hT id
theorem jS_lsw {K : jKm} {G G' : jCt} {pc p1 t td len : Nat} {e : jEx} {ss : List jSt} {d : jSt} {lo dflt : Int} {ps : Array (Int × Int)} (he : jE K G 0 pc p1 20 e) (hd : decode (kmC K) p1 = .ok (.lookupswitch dflt ps, len)) (hT : jT K G G' p1 t (ps.toList.map (·.2)) ss) (hk : ((ps.toList.zipIdx.all (fun q => decide (q.1.1 = lo + (q.2 : Int)))) && (ps.toList.zip (ps.toList.drop 1)).all (fun (a, next) => a.1 < next.1)) = true) (htd : (p1 : Int) + dflt = (td : Int)) (hdf : jS K G G' td t d) : jS K G G' pc t (tSw lo e ss d) := by
  intro z X hO L M N R ls hV hq hN hR
  refine he z X hO L M _ ls [] hV (Nat.le_refl 0) hq (fun v M1 hv hq1 => ?_)
  have hv := jtk20.mp hv
  simp only [Bool.and_eq_true] at hk
  have hkk : ∀ (i : Nat) (q : Int × Int), ps.toList[i]? = some q → q.1 = lo + i := by
    intro i q hi
    have := List.all_eq_true.mp hk.1 (q, i) (by rw [List.mem_zipIdx_iff_getElem?]; exact hi)
    simpa using this
  rcases lsw_eq (dflt := dflt) ps.toList ss lo v hkk hT hq1 with ⟨s, tgt, h1, h2, h3⟩ | ⟨h1, h2⟩
  · refine jstep hO (fun p l e R s m args below meth c ce sl Qf H locs _ hx hb kk => lv_lookup hx hb hd hk.2 (by rw [ir_to hv]) h1 kk) (h2 z X hO L M1 N R ls hV h3 hN hR)
  · refine jstep hO (fun p l e R s m args below meth c ce sl Qf H locs _ hx hb kk => lv_lookup hx hb hd hk.2 (by rw [ir_to hv]; exact h1) htd kk) (hdf z X hO L M1 N R ls hV h2 hN hR)
end
section
theorem i_vc : Claimed_1_1 ∧ Claimed_1_2 := sorry
end
