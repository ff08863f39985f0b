section
-- ===== PART A: goes FIRST, ahead of the names: the tables' words, and 'selects' of the private methods out of them =====
/-- a private method of a class that the tables say can be made, by its rows of tables_1 -/
def lw_okq (q : MethodName × Nat) : Prop := (q.1.cls ≠ "java/lang/invoke/MethodHandle" ∧ q.1.cls ≠ "java/lang/invoke/VarHandle") ∧ Cond.instantiable q.1.cls q.2 ∈ tables_1 ∧ Cond.privateMethod q.1 ∈ tables_1 ∧ Cond.instanceMethod q.1 ∈ tables_1
theorem lw_p0 : lw_okq (⟨"DropChase$Ways", "linkField", "(I)V"⟩, 10) := ⟨⟨by decide +kernel, by decide +kernel⟩, List.mem_of_getElem? (i := 23) (by decide +kernel), List.mem_of_getElem? (i := 29) (by decide +kernel), List.mem_of_getElem? (i := 30) (by decide +kernel)⟩
theorem lw_p1 : lw_okq (⟨"DropChase$Ways", "markZones", "(I)V"⟩, 10) := ⟨⟨by decide +kernel, by decide +kernel⟩, List.mem_of_getElem? (i := 23) (by decide +kernel), List.mem_of_getElem? (i := 37) (by decide +kernel), List.mem_of_getElem? (i := 38) (by decide +kernel)⟩
theorem lw_p2 : lw_okq (⟨"DropChase", "found", "(I)I"⟩, 13) := ⟨⟨by decide +kernel, by decide +kernel⟩, List.mem_of_getElem? (i := 15) (by decide +kernel), List.mem_of_getElem? (i := 344) (by decide +kernel), List.mem_of_getElem? (i := 345) (by decide +kernel)⟩
theorem lw_p3 : lw_okq (⟨"DropChase$Play", "keepStand", "()V"⟩, 9) := ⟨⟨by decide +kernel, by decide +kernel⟩, List.mem_of_getElem? (i := 243) (by decide +kernel), List.mem_of_getElem? (i := 444) (by decide +kernel), List.mem_of_getElem? (i := 445) (by decide +kernel)⟩
theorem lw_p4 : lw_okq (⟨"DropChase$Play", "packedFields", "(I)J"⟩, 9) := ⟨⟨by decide +kernel, by decide +kernel⟩, List.mem_of_getElem? (i := 243) (by decide +kernel), List.mem_of_getElem? (i := 448) (by decide +kernel), List.mem_of_getElem? (i := 449) (by decide +kernel)⟩
theorem lw_p5 : lw_okq (⟨"DropChase$Play", "packedHand", "(I)J"⟩, 9) := ⟨⟨by decide +kernel, by decide +kernel⟩, List.mem_of_getElem? (i := 243) (by decide +kernel), List.mem_of_getElem? (i := 455) (by decide +kernel), List.mem_of_getElem? (i := 456) (by decide +kernel)⟩
theorem lw_p6 : lw_okq (⟨"DropChase$Play", "countTimes", "()V"⟩, 9) := ⟨⟨by decide +kernel, by decide +kernel⟩, List.mem_of_getElem? (i := 243) (by decide +kernel), List.mem_of_getElem? (i := 459) (by decide +kernel), List.mem_of_getElem? (i := 460) (by decide +kernel)⟩
theorem lw_p7 : lw_okq (⟨"DropChase$Play", "isSameStand", "(II)Z"⟩, 9) := ⟨⟨by decide +kernel, by decide +kernel⟩, List.mem_of_getElem? (i := 243) (by decide +kernel), List.mem_of_getElem? (i := 463) (by decide +kernel), List.mem_of_getElem? (i := 464) (by decide +kernel)⟩
theorem lw_p8 : lw_okq (⟨"DropChase", "lookAround", "()V"⟩, 13) := ⟨⟨by decide +kernel, by decide +kernel⟩, List.mem_of_getElem? (i := 15) (by decide +kernel), List.mem_of_getElem? (i := 467) (by decide +kernel), List.mem_of_getElem? (i := 468) (by decide +kernel)⟩
theorem lw_p9 : lw_okq (⟨"DropChase$Rules", "addGoings", "(III)I"⟩, 4) := ⟨⟨by decide +kernel, by decide +kernel⟩, List.mem_of_getElem? (i := 164) (by decide +kernel), List.mem_of_getElem? (i := 488) (by decide +kernel), List.mem_of_getElem? (i := 489) (by decide +kernel)⟩
theorem lw_p10 : lw_okq (⟨"DropChase$Rules", "addSettings", "(II)I"⟩, 4) := ⟨⟨by decide +kernel, by decide +kernel⟩, List.mem_of_getElem? (i := 164) (by decide +kernel), List.mem_of_getElem? (i := 501) (by decide +kernel), List.mem_of_getElem? (i := 502) (by decide +kernel)⟩
theorem lw_p11 : lw_okq (⟨"DropChase$Rules", "columnsShutTo", "(II)I"⟩, 4) := ⟨⟨by decide +kernel, by decide +kernel⟩, List.mem_of_getElem? (i := 164) (by decide +kernel), List.mem_of_getElem? (i := 508) (by decide +kernel), List.mem_of_getElem? (i := 509) (by decide +kernel)⟩
theorem lw_p12 : lw_okq (⟨"DropChase$Rules", "hasSecondMark", "(I)Z"⟩, 4) := ⟨⟨by decide +kernel, by decide +kernel⟩, List.mem_of_getElem? (i := 164) (by decide +kernel), List.mem_of_getElem? (i := 518) (by decide +kernel), List.mem_of_getElem? (i := 519) (by decide +kernel)⟩
theorem lw_p13 : lw_okq (⟨"DropChase$Rules", "isForbiddenMate", "(I)Z"⟩, 4) := ⟨⟨by decide +kernel, by decide +kernel⟩, List.mem_of_getElem? (i := 164) (by decide +kernel), List.mem_of_getElem? (i := 527) (by decide +kernel), List.mem_of_getElem? (i := 528) (by decide +kernel)⟩
theorem lw_p14 : lw_okq (⟨"DropChase", "isField", "(I)Z"⟩, 13) := ⟨⟨by decide +kernel, by decide +kernel⟩, List.mem_of_getElem? (i := 15) (by decide +kernel), List.mem_of_getElem? (i := 547) (by decide +kernel), List.mem_of_getElem? (i := 548) (by decide +kernel)⟩
theorem lw_p15 : lw_okq (⟨"DropChase", "inHand", "(II)I"⟩, 13) := ⟨⟨by decide +kernel, by decide +kernel⟩, List.mem_of_getElem? (i := 15) (by decide +kernel), List.mem_of_getElem? (i := 555) (by decide +kernel), List.mem_of_getElem? (i := 556) (by decide +kernel)⟩
def lw_privs_1 : List (MethodName × Nat) := [(⟨"DropChase$Ways", "linkField", "(I)V"⟩, 10), (⟨"DropChase$Ways", "markZones", "(I)V"⟩, 10), (⟨"DropChase", "found", "(I)I"⟩, 13), (⟨"DropChase$Play", "keepStand", "()V"⟩, 9), (⟨"DropChase$Play", "packedFields", "(I)J"⟩, 9), (⟨"DropChase$Play", "packedHand", "(I)J"⟩, 9), (⟨"DropChase$Play", "countTimes", "()V"⟩, 9), (⟨"DropChase$Play", "isSameStand", "(II)Z"⟩, 9), (⟨"DropChase", "lookAround", "()V"⟩, 13), (⟨"DropChase$Rules", "addGoings", "(III)I"⟩, 4), (⟨"DropChase$Rules", "addSettings", "(II)I"⟩, 4), (⟨"DropChase$Rules", "columnsShutTo", "(II)I"⟩, 4), (⟨"DropChase$Rules", "hasSecondMark", "(I)Z"⟩, 4), (⟨"DropChase$Rules", "isForbiddenMate", "(I)Z"⟩, 4), (⟨"DropChase", "isField", "(I)Z"⟩, 13), (⟨"DropChase", "inHand", "(II)I"⟩, 13)]
theorem lw_r1 : ∀ q ∈ lw_privs_1, lw_okq q := List.forall_mem_cons.mpr ⟨lw_p0, List.forall_mem_cons.mpr ⟨lw_p1, List.forall_mem_cons.mpr ⟨lw_p2, List.forall_mem_cons.mpr ⟨lw_p3, List.forall_mem_cons.mpr ⟨lw_p4, List.forall_mem_cons.mpr ⟨lw_p5, List.forall_mem_cons.mpr ⟨lw_p6, List.forall_mem_cons.mpr ⟨lw_p7, List.forall_mem_cons.mpr ⟨lw_p8, List.forall_mem_cons.mpr ⟨lw_p9, List.forall_mem_cons.mpr ⟨lw_p10, List.forall_mem_cons.mpr ⟨lw_p11, List.forall_mem_cons.mpr ⟨lw_p12, List.forall_mem_cons.mpr ⟨lw_p13, List.forall_mem_cons.mpr ⟨lw_p14, List.forall_mem_cons.mpr ⟨lw_p15, fun _ h => absurd h List.not_mem_nil⟩⟩⟩⟩⟩⟩⟩⟩⟩⟩⟩⟩⟩⟩⟩⟩
theorem lw_p16 : lw_okq (⟨"DropChase$Rules", "faultOfSetting", "(II)I"⟩, 4) := ⟨⟨by decide +kernel, by decide +kernel⟩, List.mem_of_getElem? (i := 164) (by decide +kernel), List.mem_of_getElem? (i := 617) (by decide +kernel), List.mem_of_getElem? (i := 618) (by decide +kernel)⟩
theorem lw_p17 : lw_okq (⟨"DropChase$Rules", "faultOfGoing", "(I)I"⟩, 4) := ⟨⟨by decide +kernel, by decide +kernel⟩, List.mem_of_getElem? (i := 164) (by decide +kernel), List.mem_of_getElem? (i := 621) (by decide +kernel), List.mem_of_getElem? (i := 622) (by decide +kernel)⟩
theorem lw_p18 : lw_okq (⟨"DropChase$Rules", "reaches", "(II)Z"⟩, 4) := ⟨⟨by decide +kernel, by decide +kernel⟩, List.mem_of_getElem? (i := 164) (by decide +kernel), List.mem_of_getElem? (i := 625) (by decide +kernel), List.mem_of_getElem? (i := 626) (by decide +kernel)⟩
theorem lw_p19 : lw_okq (⟨"DropChase$Rules", "countRows", "(III)I"⟩, 4) := ⟨⟨by decide +kernel, by decide +kernel⟩, List.mem_of_getElem? (i := 164) (by decide +kernel), List.mem_of_getElem? (i := 644) (by decide +kernel), List.mem_of_getElem? (i := 645) (by decide +kernel)⟩
theorem lw_p20 : lw_okq (⟨"DropChase", "stateOfPlay", "()I"⟩, 13) := ⟨⟨by decide +kernel, by decide +kernel⟩, List.mem_of_getElem? (i := 15) (by decide +kernel), List.mem_of_getElem? (i := 655) (by decide +kernel), List.mem_of_getElem? (i := 656) (by decide +kernel)⟩
theorem lw_p21 : lw_okq (⟨"DropChase$Play", "onlyChecksOf", "(I)Z"⟩, 9) := ⟨⟨by decide +kernel, by decide +kernel⟩, List.mem_of_getElem? (i := 243) (by decide +kernel), List.mem_of_getElem? (i := 663) (by decide +kernel), List.mem_of_getElem? (i := 664) (by decide +kernel)⟩
theorem lw_p22 : lw_okq (⟨"DropChase", "ofPlay", "(I)I"⟩, 13) := ⟨⟨by decide +kernel, by decide +kernel⟩, List.mem_of_getElem? (i := 15) (by decide +kernel), List.mem_of_getElem? (i := 695) (by decide +kernel), List.mem_of_getElem? (i := 696) (by decide +kernel)⟩
theorem lw_p23 : lw_okq (⟨"DropChase$Chase", "hunterGoes", "(III)Z"⟩, 9) := ⟨⟨by decide +kernel, by decide +kernel⟩, List.mem_of_getElem? (i := 184) (by decide +kernel), List.mem_of_getElem? (i := 715) (by decide +kernel), List.mem_of_getElem? (i := 716) (by decide +kernel)⟩
theorem lw_p24 : lw_okq (⟨"DropChase$Chase", "answersGo", "(IIII)Z"⟩, 9) := ⟨⟨by decide +kernel, by decide +kernel⟩, List.mem_of_getElem? (i := 184) (by decide +kernel), List.mem_of_getElem? (i := 727) (by decide +kernel), List.mem_of_getElem? (i := 728) (by decide +kernel)⟩
theorem lw_p25 : lw_okq (⟨"DropChase$Chase", "addNode", "(II)I"⟩, 9) := ⟨⟨by decide +kernel, by decide +kernel⟩, List.mem_of_getElem? (i := 184) (by decide +kernel), List.mem_of_getElem? (i := 731) (by decide +kernel), List.mem_of_getElem? (i := 732) (by decide +kernel)⟩
theorem lw_p26 : lw_okq (⟨"DropChase$Chase", "firstFault", "(II)I"⟩, 9) := ⟨⟨by decide +kernel, by decide +kernel⟩, List.mem_of_getElem? (i := 184) (by decide +kernel), List.mem_of_getElem? (i := 767) (by decide +kernel), List.mem_of_getElem? (i := 768) (by decide +kernel)⟩
theorem lw_p27 : lw_okq (⟨"DropChase$Chase", "faultInAnswers", "(II)I"⟩, 9) := ⟨⟨by decide +kernel, by decide +kernel⟩, List.mem_of_getElem? (i := 184) (by decide +kernel), List.mem_of_getElem? (i := 773) (by decide +kernel), List.mem_of_getElem? (i := 774) (by decide +kernel)⟩
theorem lw_p28 : lw_okq (⟨"DropChase$Chase", "answersIn", "(I)I"⟩, 9) := ⟨⟨by decide +kernel, by decide +kernel⟩, List.mem_of_getElem? (i := 184) (by decide +kernel), List.mem_of_getElem? (i := 778) (by decide +kernel), List.mem_of_getElem? (i := 779) (by decide +kernel)⟩
theorem lw_p29 : lw_okq (⟨"DropChase$Text", "addMove", "(I)V"⟩, 3) := ⟨⟨by decide +kernel, by decide +kernel⟩, List.mem_of_getElem? (i := 225) (by decide +kernel), List.mem_of_getElem? (i := 800) (by decide +kernel), List.mem_of_getElem? (i := 801) (by decide +kernel)⟩
theorem lw_p30 : lw_okq (⟨"DropChase$Text", "addField", "(I)V"⟩, 3) := ⟨⟨by decide +kernel, by decide +kernel⟩, List.mem_of_getElem? (i := 225) (by decide +kernel), List.mem_of_getElem? (i := 807) (by decide +kernel), List.mem_of_getElem? (i := 808) (by decide +kernel)⟩
theorem lw_p31 : lw_okq (⟨"DropChase", "doText", "()I"⟩, 13) := ⟨⟨by decide +kernel, by decide +kernel⟩, List.mem_of_getElem? (i := 15) (by decide +kernel), List.mem_of_getElem? (i := 834) (by decide +kernel), List.mem_of_getElem? (i := 835) (by decide +kernel)⟩
def lw_privs_2 : List (MethodName × Nat) := [(⟨"DropChase$Rules", "faultOfSetting", "(II)I"⟩, 4), (⟨"DropChase$Rules", "faultOfGoing", "(I)I"⟩, 4), (⟨"DropChase$Rules", "reaches", "(II)Z"⟩, 4), (⟨"DropChase$Rules", "countRows", "(III)I"⟩, 4), (⟨"DropChase", "stateOfPlay", "()I"⟩, 13), (⟨"DropChase$Play", "onlyChecksOf", "(I)Z"⟩, 9), (⟨"DropChase", "ofPlay", "(I)I"⟩, 13), (⟨"DropChase$Chase", "hunterGoes", "(III)Z"⟩, 9), (⟨"DropChase$Chase", "answersGo", "(IIII)Z"⟩, 9), (⟨"DropChase$Chase", "addNode", "(II)I"⟩, 9), (⟨"DropChase$Chase", "firstFault", "(II)I"⟩, 9), (⟨"DropChase$Chase", "faultInAnswers", "(II)I"⟩, 9), (⟨"DropChase$Chase", "answersIn", "(I)I"⟩, 9), (⟨"DropChase$Text", "addMove", "(I)V"⟩, 3), (⟨"DropChase$Text", "addField", "(I)V"⟩, 3), (⟨"DropChase", "doText", "()I"⟩, 13)]
theorem lw_r2 : ∀ q ∈ lw_privs_2, lw_okq q := List.forall_mem_cons.mpr ⟨lw_p16, List.forall_mem_cons.mpr ⟨lw_p17, List.forall_mem_cons.mpr ⟨lw_p18, List.forall_mem_cons.mpr ⟨lw_p19, List.forall_mem_cons.mpr ⟨lw_p20, List.forall_mem_cons.mpr ⟨lw_p21, List.forall_mem_cons.mpr ⟨lw_p22, List.forall_mem_cons.mpr ⟨lw_p23, List.forall_mem_cons.mpr ⟨lw_p24, List.forall_mem_cons.mpr ⟨lw_p25, List.forall_mem_cons.mpr ⟨lw_p26, List.forall_mem_cons.mpr ⟨lw_p27, List.forall_mem_cons.mpr ⟨lw_p28, List.forall_mem_cons.mpr ⟨lw_p29, List.forall_mem_cons.mpr ⟨lw_p30, List.forall_mem_cons.mpr ⟨lw_p31, fun _ h => absurd h List.not_mem_nil⟩⟩⟩⟩⟩⟩⟩⟩⟩⟩⟩⟩⟩⟩⟩⟩
theorem lw_p32 : lw_okq (⟨"DropChase$Text", "fieldAt", "(I)I"⟩, 3) := ⟨⟨by decide +kernel, by decide +kernel⟩, List.mem_of_getElem? (i := 225) (by decide +kernel), List.mem_of_getElem? (i := 842) (by decide +kernel), List.mem_of_getElem? (i := 843) (by decide +kernel)⟩
theorem lw_p33 : lw_okq (⟨"DropChaseModel", "tell", "(IIIIII)V"⟩, 52) := ⟨⟨by decide +kernel, by decide +kernel⟩, List.mem_of_getElem? (i := 872) (by decide +kernel), List.mem_of_getElem? (i := 883) (by decide +kernel), List.mem_of_getElem? (i := 884) (by decide +kernel)⟩
theorem lw_p34 : lw_okq (⟨"DropChaseModel", "isLine", "(I)Z"⟩, 52) := ⟨⟨by decide +kernel, by decide +kernel⟩, List.mem_of_getElem? (i := 872) (by decide +kernel), List.mem_of_getElem? (i := 1059) (by decide +kernel), List.mem_of_getElem? (i := 1060) (by decide +kernel)⟩
theorem lw_p35 : lw_okq (⟨"DropChaseModel", "met", "(I)I"⟩, 52) := ⟨⟨by decide +kernel, by decide +kernel⟩, List.mem_of_getElem? (i := 872) (by decide +kernel), List.mem_of_getElem? (i := 1064) (by decide +kernel), List.mem_of_getElem? (i := 1065) (by decide +kernel)⟩
theorem lw_p36 : lw_okq (⟨"DropChaseModel", "lacks", "(III)I"⟩, 52) := ⟨⟨by decide +kernel, by decide +kernel⟩, List.mem_of_getElem? (i := 872) (by decide +kernel), List.mem_of_getElem? (i := 1076) (by decide +kernel), List.mem_of_getElem? (i := 1077) (by decide +kernel)⟩
theorem lw_p37 : lw_okq (⟨"DropChaseModel", "mayRaise", "(I)Z"⟩, 52) := ⟨⟨by decide +kernel, by decide +kernel⟩, List.mem_of_getElem? (i := 872) (by decide +kernel), List.mem_of_getElem? (i := 1105) (by decide +kernel), List.mem_of_getElem? (i := 1106) (by decide +kernel)⟩
theorem lw_p38 : lw_okq (⟨"DropChaseModel", "inCheck", "(II)Z"⟩, 52) := ⟨⟨by decide +kernel, by decide +kernel⟩, List.mem_of_getElem? (i := 872) (by decide +kernel), List.mem_of_getElem? (i := 1112) (by decide +kernel), List.mem_of_getElem? (i := 1113) (by decide +kernel)⟩
theorem lw_p39 : lw_okq (⟨"DropChaseModel", "isAttacked", "(III)Z"⟩, 52) := ⟨⟨by decide +kernel, by decide +kernel⟩, List.mem_of_getElem? (i := 872) (by decide +kernel), List.mem_of_getElem? (i := 1116) (by decide +kernel), List.mem_of_getElem? (i := 1117) (by decide +kernel)⟩
theorem lw_p40 : lw_okq (⟨"DropChaseModel", "reaches", "(III)V"⟩, 52) := ⟨⟨by decide +kernel, by decide +kernel⟩, List.mem_of_getElem? (i := 872) (by decide +kernel), List.mem_of_getElem? (i := 1120) (by decide +kernel), List.mem_of_getElem? (i := 1121) (by decide +kernel)⟩
theorem lw_p41 : lw_okq (⟨"DropChaseModel", "along", "(III)I"⟩, 52) := ⟨⟨by decide +kernel, by decide +kernel⟩, List.mem_of_getElem? (i := 872) (by decide +kernel), List.mem_of_getElem? (i := 1124) (by decide +kernel), List.mem_of_getElem? (i := 1125) (by decide +kernel)⟩
theorem lw_p42 : lw_okq (⟨"DropChaseModel", "comesTo", "(I)V"⟩, 52) := ⟨⟨by decide +kernel, by decide +kernel⟩, List.mem_of_getElem? (i := 872) (by decide +kernel), List.mem_of_getElem? (i := 1134) (by decide +kernel), List.mem_of_getElem? (i := 1135) (by decide +kernel)⟩
theorem lw_p43 : lw_okq (⟨"DropChaseModel", "keepStand", "(II)V"⟩, 52) := ⟨⟨by decide +kernel, by decide +kernel⟩, List.mem_of_getElem? (i := 872) (by decide +kernel), List.mem_of_getElem? (i := 1138) (by decide +kernel), List.mem_of_getElem? (i := 1139) (by decide +kernel)⟩
theorem lw_p44 : lw_okq (⟨"DropChaseModel", "stateOf", "(II)I"⟩, 52) := ⟨⟨by decide +kernel, by decide +kernel⟩, List.mem_of_getElem? (i := 872) (by decide +kernel), List.mem_of_getElem? (i := 1142) (by decide +kernel), List.mem_of_getElem? (i := 1143) (by decide +kernel)⟩
theorem lw_p45 : lw_okq (⟨"DropChaseModel", "findMoves", "(I)V"⟩, 52) := ⟨⟨by decide +kernel, by decide +kernel⟩, List.mem_of_getElem? (i := 872) (by decide +kernel), List.mem_of_getElem? (i := 1146) (by decide +kernel), List.mem_of_getElem? (i := 1147) (by decide +kernel)⟩
theorem lw_p46 : lw_okq (⟨"DropChaseModel", "findTries", "(I)V"⟩, 52) := ⟨⟨by decide +kernel, by decide +kernel⟩, List.mem_of_getElem? (i := 872) (by decide +kernel), List.mem_of_getElem? (i := 1150) (by decide +kernel), List.mem_of_getElem? (i := 1151) (by decide +kernel)⟩
theorem lw_p47 : lw_okq (⟨"DropChaseModel", "mayStay", "(III)Z"⟩, 52) := ⟨⟨by decide +kernel, by decide +kernel⟩, List.mem_of_getElem? (i := 872) (by decide +kernel), List.mem_of_getElem? (i := 1154) (by decide +kernel), List.mem_of_getElem? (i := 1155) (by decide +kernel)⟩
def lw_privs_3 : List (MethodName × Nat) := [(⟨"DropChase$Text", "fieldAt", "(I)I"⟩, 3), (⟨"DropChaseModel", "tell", "(IIIIII)V"⟩, 52), (⟨"DropChaseModel", "isLine", "(I)Z"⟩, 52), (⟨"DropChaseModel", "met", "(I)I"⟩, 52), (⟨"DropChaseModel", "lacks", "(III)I"⟩, 52), (⟨"DropChaseModel", "mayRaise", "(I)Z"⟩, 52), (⟨"DropChaseModel", "inCheck", "(II)Z"⟩, 52), (⟨"DropChaseModel", "isAttacked", "(III)Z"⟩, 52), (⟨"DropChaseModel", "reaches", "(III)V"⟩, 52), (⟨"DropChaseModel", "along", "(III)I"⟩, 52), (⟨"DropChaseModel", "comesTo", "(I)V"⟩, 52), (⟨"DropChaseModel", "keepStand", "(II)V"⟩, 52), (⟨"DropChaseModel", "stateOf", "(II)I"⟩, 52), (⟨"DropChaseModel", "findMoves", "(I)V"⟩, 52), (⟨"DropChaseModel", "findTries", "(I)V"⟩, 52), (⟨"DropChaseModel", "mayStay", "(III)Z"⟩, 52)]
theorem lw_r3 : ∀ q ∈ lw_privs_3, lw_okq q := List.forall_mem_cons.mpr ⟨lw_p32, List.forall_mem_cons.mpr ⟨lw_p33, List.forall_mem_cons.mpr ⟨lw_p34, List.forall_mem_cons.mpr ⟨lw_p35, List.forall_mem_cons.mpr ⟨lw_p36, List.forall_mem_cons.mpr ⟨lw_p37, List.forall_mem_cons.mpr ⟨lw_p38, List.forall_mem_cons.mpr ⟨lw_p39, List.forall_mem_cons.mpr ⟨lw_p40, List.forall_mem_cons.mpr ⟨lw_p41, List.forall_mem_cons.mpr ⟨lw_p42, List.forall_mem_cons.mpr ⟨lw_p43, List.forall_mem_cons.mpr ⟨lw_p44, List.forall_mem_cons.mpr ⟨lw_p45, List.forall_mem_cons.mpr ⟨lw_p46, List.forall_mem_cons.mpr ⟨lw_p47, fun _ h => absurd h List.not_mem_nil⟩⟩⟩⟩⟩⟩⟩⟩⟩⟩⟩⟩⟩⟩⟩⟩
theorem lw_p48 : lw_okq (⟨"DropChaseModel", "couldGoOn", "(III)Z"⟩, 52) := ⟨⟨by decide +kernel, by decide +kernel⟩, List.mem_of_getElem? (i := 872) (by decide +kernel), List.mem_of_getElem? (i := 1158) (by decide +kernel), List.mem_of_getElem? (i := 1159) (by decide +kernel)⟩
theorem lw_p49 : lw_okq (⟨"DropChaseModel", "tries", "(IIIII)V"⟩, 52) := ⟨⟨by decide +kernel, by decide +kernel⟩, List.mem_of_getElem? (i := 872) (by decide +kernel), List.mem_of_getElem? (i := 1162) (by decide +kernel), List.mem_of_getElem? (i := 1163) (by decide +kernel)⟩
theorem lw_p50 : lw_okq (⟨"DropChaseModel", "mayRaiseSo", "(IIII)Z"⟩, 52) := ⟨⟨by decide +kernel, by decide +kernel⟩, List.mem_of_getElem? (i := 872) (by decide +kernel), List.mem_of_getElem? (i := 1166) (by decide +kernel), List.mem_of_getElem? (i := 1167) (by decide +kernel)⟩
theorem lw_p51 : lw_okq (⟨"DropChaseModel", "isZone", "(II)Z"⟩, 52) := ⟨⟨by decide +kernel, by decide +kernel⟩, List.mem_of_getElem? (i := 872) (by decide +kernel), List.mem_of_getElem? (i := 1170) (by decide +kernel), List.mem_of_getElem? (i := 1171) (by decide +kernel)⟩
theorem lw_p52 : lw_okq (⟨"DropChaseModel", "inColumn", "(IIII)Z"⟩, 52) := ⟨⟨by decide +kernel, by decide +kernel⟩, List.mem_of_getElem? (i := 872) (by decide +kernel), List.mem_of_getElem? (i := 1174) (by decide +kernel), List.mem_of_getElem? (i := 1175) (by decide +kernel)⟩
theorem lw_p53 : lw_okq (⟨"DropChaseModel", "make", "(IIIII)V"⟩, 52) := ⟨⟨by decide +kernel, by decide +kernel⟩, List.mem_of_getElem? (i := 872) (by decide +kernel), List.mem_of_getElem? (i := 1178) (by decide +kernel), List.mem_of_getElem? (i := 1179) (by decide +kernel)⟩
theorem lw_p54 : lw_okq (⟨"DropChaseModel", "isMate", "(I)Z"⟩, 52) := ⟨⟨by decide +kernel, by decide +kernel⟩, List.mem_of_getElem? (i := 872) (by decide +kernel), List.mem_of_getElem? (i := 1182) (by decide +kernel), List.mem_of_getElem? (i := 1183) (by decide +kernel)⟩
theorem lw_p55 : lw_okq (⟨"DropChaseModel", "hasAny", "(I)Z"⟩, 52) := ⟨⟨by decide +kernel, by decide +kernel⟩, List.mem_of_getElem? (i := 872) (by decide +kernel), List.mem_of_getElem? (i := 1186) (by decide +kernel), List.mem_of_getElem? (i := 1187) (by decide +kernel)⟩
theorem lw_p56 : lw_okq (⟨"DropChaseModel", "comes", "(II)I"⟩, 52) := ⟨⟨by decide +kernel, by decide +kernel⟩, List.mem_of_getElem? (i := 872) (by decide +kernel), List.mem_of_getElem? (i := 1190) (by decide +kernel), List.mem_of_getElem? (i := 1191) (by decide +kernel)⟩
theorem lw_p57 : lw_okq (⟨"DropChaseModel", "areSame", "(II)Z"⟩, 52) := ⟨⟨by decide +kernel, by decide +kernel⟩, List.mem_of_getElem? (i := 872) (by decide +kernel), List.mem_of_getElem? (i := 1194) (by decide +kernel), List.mem_of_getElem? (i := 1195) (by decide +kernel)⟩
theorem lw_p58 : lw_okq (⟨"DropChaseModel", "firstOf", "(II)I"⟩, 52) := ⟨⟨by decide +kernel, by decide +kernel⟩, List.mem_of_getElem? (i := 872) (by decide +kernel), List.mem_of_getElem? (i := 1198) (by decide +kernel), List.mem_of_getElem? (i := 1199) (by decide +kernel)⟩
theorem lw_p59 : lw_okq (⟨"DropChaseModel", "chased", "(IIII)Z"⟩, 52) := ⟨⟨by decide +kernel, by decide +kernel⟩, List.mem_of_getElem? (i := 872) (by decide +kernel), List.mem_of_getElem? (i := 1202) (by decide +kernel), List.mem_of_getElem? (i := 1203) (by decide +kernel)⟩
theorem lw_p60 : lw_okq (⟨"DropChaseModel", "isField", "(I)Z"⟩, 52) := ⟨⟨by decide +kernel, by decide +kernel⟩, List.mem_of_getElem? (i := 872) (by decide +kernel), List.mem_of_getElem? (i := 1214) (by decide +kernel), List.mem_of_getElem? (i := 1215) (by decide +kernel)⟩
theorem lw_p61 : lw_okq (⟨"DropChaseModel", "makeMove", "(II)V"⟩, 52) := ⟨⟨by decide +kernel, by decide +kernel⟩, List.mem_of_getElem? (i := 872) (by decide +kernel), List.mem_of_getElem? (i := 1251) (by decide +kernel), List.mem_of_getElem? (i := 1252) (by decide +kernel)⟩
theorem lw_p62 : lw_okq (⟨"DropChaseModel", "doMove", "(III)V"⟩, 52) := ⟨⟨by decide +kernel, by decide +kernel⟩, List.mem_of_getElem? (i := 872) (by decide +kernel), List.mem_of_getElem? (i := 1259) (by decide +kernel), List.mem_of_getElem? (i := 1260) (by decide +kernel)⟩
theorem lw_p63 : lw_okq (⟨"DropChaseModel", "layStand", "(II)V"⟩, 52) := ⟨⟨by decide +kernel, by decide +kernel⟩, List.mem_of_getElem? (i := 872) (by decide +kernel), List.mem_of_getElem? (i := 1267) (by decide +kernel), List.mem_of_getElem? (i := 1268) (by decide +kernel)⟩
def lw_privs_4 : List (MethodName × Nat) := [(⟨"DropChaseModel", "couldGoOn", "(III)Z"⟩, 52), (⟨"DropChaseModel", "tries", "(IIIII)V"⟩, 52), (⟨"DropChaseModel", "mayRaiseSo", "(IIII)Z"⟩, 52), (⟨"DropChaseModel", "isZone", "(II)Z"⟩, 52), (⟨"DropChaseModel", "inColumn", "(IIII)Z"⟩, 52), (⟨"DropChaseModel", "make", "(IIIII)V"⟩, 52), (⟨"DropChaseModel", "isMate", "(I)Z"⟩, 52), (⟨"DropChaseModel", "hasAny", "(I)Z"⟩, 52), (⟨"DropChaseModel", "comes", "(II)I"⟩, 52), (⟨"DropChaseModel", "areSame", "(II)Z"⟩, 52), (⟨"DropChaseModel", "firstOf", "(II)I"⟩, 52), (⟨"DropChaseModel", "chased", "(IIII)Z"⟩, 52), (⟨"DropChaseModel", "isField", "(I)Z"⟩, 52), (⟨"DropChaseModel", "makeMove", "(II)V"⟩, 52), (⟨"DropChaseModel", "doMove", "(III)V"⟩, 52), (⟨"DropChaseModel", "layStand", "(II)V"⟩, 52)]
theorem lw_r4 : ∀ q ∈ lw_privs_4, lw_okq q := List.forall_mem_cons.mpr ⟨lw_p48, List.forall_mem_cons.mpr ⟨lw_p49, List.forall_mem_cons.mpr ⟨lw_p50, List.forall_mem_cons.mpr ⟨lw_p51, List.forall_mem_cons.mpr ⟨lw_p52, List.forall_mem_cons.mpr ⟨lw_p53, List.forall_mem_cons.mpr ⟨lw_p54, List.forall_mem_cons.mpr ⟨lw_p55, List.forall_mem_cons.mpr ⟨lw_p56, List.forall_mem_cons.mpr ⟨lw_p57, List.forall_mem_cons.mpr ⟨lw_p58, List.forall_mem_cons.mpr ⟨lw_p59, List.forall_mem_cons.mpr ⟨lw_p60, List.forall_mem_cons.mpr ⟨lw_p61, List.forall_mem_cons.mpr ⟨lw_p62, List.forall_mem_cons.mpr ⟨lw_p63, fun _ h => absurd h List.not_mem_nil⟩⟩⟩⟩⟩⟩⟩⟩⟩⟩⟩⟩⟩⟩⟩⟩
theorem lw_p64 : lw_okq (⟨"DropChaseModel", "hunts", "(I)I"⟩, 52) := ⟨⟨by decide +kernel, by decide +kernel⟩, List.mem_of_getElem? (i := 872) (by decide +kernel), List.mem_of_getElem? (i := 1288) (by decide +kernel), List.mem_of_getElem? (i := 1289) (by decide +kernel)⟩
theorem lw_p65 : lw_okq (⟨"DropChaseModel", "nextCheck", "(I)Z"⟩, 52) := ⟨⟨by decide +kernel, by decide +kernel⟩, List.mem_of_getElem? (i := 872) (by decide +kernel), List.mem_of_getElem? (i := 1292) (by decide +kernel), List.mem_of_getElem? (i := 1293) (by decide +kernel)⟩
theorem lw_p66 : lw_okq (⟨"DropChaseModel", "notes", "(I)Z"⟩, 52) := ⟨⟨by decide +kernel, by decide +kernel⟩, List.mem_of_getElem? (i := 872) (by decide +kernel), List.mem_of_getElem? (i := 1296) (by decide +kernel), List.mem_of_getElem? (i := 1297) (by decide +kernel)⟩
theorem lw_p67 : lw_okq (⟨"DropChaseModel", "within", "(I)I"⟩, 52) := ⟨⟨by decide +kernel, by decide +kernel⟩, List.mem_of_getElem? (i := 872) (by decide +kernel), List.mem_of_getElem? (i := 1312) (by decide +kernel), List.mem_of_getElem? (i := 1313) (by decide +kernel)⟩
theorem lw_p68 : lw_okq (⟨"DropChaseModel", "indexOf", "(IIIII)I"⟩, 52) := ⟨⟨by decide +kernel, by decide +kernel⟩, List.mem_of_getElem? (i := 872) (by decide +kernel), List.mem_of_getElem? (i := 1324) (by decide +kernel), List.mem_of_getElem? (i := 1325) (by decide +kernel)⟩
theorem lw_p69 : lw_okq (⟨"DropChaseModel", "manyIn", "(I)I"⟩, 52) := ⟨⟨by decide +kernel, by decide +kernel⟩, List.mem_of_getElem? (i := 872) (by decide +kernel), List.mem_of_getElem? (i := 1328) (by decide +kernel), List.mem_of_getElem? (i := 1329) (by decide +kernel)⟩
theorem lw_p70 : lw_okq (⟨"DropChaseModel", "say", "(I)V"⟩, 52) := ⟨⟨by decide +kernel, by decide +kernel⟩, List.mem_of_getElem? (i := 872) (by decide +kernel), List.mem_of_getElem? (i := 1336) (by decide +kernel), List.mem_of_getElem? (i := 1337) (by decide +kernel)⟩
theorem lw_p71 : lw_okq (⟨"DropChaseModel", "sayField", "(I)V"⟩, 52) := ⟨⟨by decide +kernel, by decide +kernel⟩, List.mem_of_getElem? (i := 872) (by decide +kernel), List.mem_of_getElem? (i := 1340) (by decide +kernel), List.mem_of_getElem? (i := 1341) (by decide +kernel)⟩
theorem lw_p72 : lw_okq (⟨"DropChaseModel", "told", "(II)I"⟩, 52) := ⟨⟨by decide +kernel, by decide +kernel⟩, List.mem_of_getElem? (i := 872) (by decide +kernel), List.mem_of_getElem? (i := 1360) (by decide +kernel), List.mem_of_getElem? (i := 1361) (by decide +kernel)⟩
theorem lw_p73 : lw_okq (⟨"DropChaseModel", "fieldAt", "(I)I"⟩, 52) := ⟨⟨by decide +kernel, by decide +kernel⟩, List.mem_of_getElem? (i := 872) (by decide +kernel), List.mem_of_getElem? (i := 1364) (by decide +kernel), List.mem_of_getElem? (i := 1365) (by decide +kernel)⟩
def lw_privs_5 : List (MethodName × Nat) := [(⟨"DropChaseModel", "hunts", "(I)I"⟩, 52), (⟨"DropChaseModel", "nextCheck", "(I)Z"⟩, 52), (⟨"DropChaseModel", "notes", "(I)Z"⟩, 52), (⟨"DropChaseModel", "within", "(I)I"⟩, 52), (⟨"DropChaseModel", "indexOf", "(IIIII)I"⟩, 52), (⟨"DropChaseModel", "manyIn", "(I)I"⟩, 52), (⟨"DropChaseModel", "say", "(I)V"⟩, 52), (⟨"DropChaseModel", "sayField", "(I)V"⟩, 52), (⟨"DropChaseModel", "told", "(II)I"⟩, 52), (⟨"DropChaseModel", "fieldAt", "(I)I"⟩, 52)]
theorem lw_r5 : ∀ q ∈ lw_privs_5, lw_okq q := List.forall_mem_cons.mpr ⟨lw_p64, List.forall_mem_cons.mpr ⟨lw_p65, List.forall_mem_cons.mpr ⟨lw_p66, List.forall_mem_cons.mpr ⟨lw_p67, List.forall_mem_cons.mpr ⟨lw_p68, List.forall_mem_cons.mpr ⟨lw_p69, List.forall_mem_cons.mpr ⟨lw_p70, List.forall_mem_cons.mpr ⟨lw_p71, List.forall_mem_cons.mpr ⟨lw_p72, List.forall_mem_cons.mpr ⟨lw_p73, fun _ h => absurd h List.not_mem_nil⟩⟩⟩⟩⟩⟩⟩⟩⟩⟩
def lw_privs : List (MethodName × Nat) := lw_privs_1 ++ (lw_privs_2 ++ (lw_privs_3 ++ (lw_privs_4 ++ (lw_privs_5))))
def lw_tbl : List Cond := k2_sels lw_privs ++ tables_1
theorem lw_privs_ok : ∀ q ∈ lw_privs, lw_okq q := by
  show ∀ q ∈ lw_privs_1 ++ (lw_privs_2 ++ (lw_privs_3 ++ (lw_privs_4 ++ (lw_privs_5)))), lw_okq q
  exact List.forall_mem_append.mpr ⟨lw_r1, List.forall_mem_append.mpr ⟨lw_r2, List.forall_mem_append.mpr ⟨lw_r3, List.forall_mem_append.mpr ⟨lw_r4, lw_r5⟩⟩⟩⟩
end
section
/-! ===== BEGIN words of one list among another's, by their places ===== -/
theorem goodIn_r {big : List Cond} (ws : List Cond) (ps : List Nat) (hp : ws = ps.filterMap (fun i => big[i]?)) (h : ws.all goodWord = true) : GoodIn big ws := by
  intro w hw
  have h1 := List.all_eq_true.mp h w hw
  rw [hp] at hw
  obtain ⟨i, -, hi⟩ := List.mem_filterMap.mp hw
  have hm : w ∈ big := by first | exact List.mem_of_getElem? hi | exact List.getElem?_mem hi
  exact ⟨hm, good_of_word h1⟩
theorem goodIn_app {big a b : List Cond} (ha : GoodIn big a) (hb : GoodIn big b) : GoodIn big (a ++ b) := fun w h => (List.mem_append.mp h).elim (ha w) (hb w)
theorem goodIn_ca {big a b : List Cond} {c : Cond} (ha : GoodIn big (c :: a)) (hb : GoodIn big b) : GoodIn big (c :: (a ++ b)) := fun w h => (List.mem_cons.mp h).elim (fun e => ha w (List.mem_cons.mpr (Or.inl e))) (fun h => (List.mem_append.mp h).elim (fun h => ha w (List.mem_cons.mpr (Or.inr h))) (hb w))
theorem goodIn_sub {big ws : List Cond} (hm : ∀ w ∈ ws, w ∈ big) (h : ws.all goodWord = true) : GoodIn big ws := fun w hw => ⟨hm w hw, good_of_word (List.all_eq_true.mp h w hw)⟩
def RX0 : String := "DropChase$Chase"
def TX0 : u_T := fun k => match k with
  | 0 => ("DropChase$Chase", "rules", "LDropChase$Rules;", true)
  | 1 => ("DropChase$Chase", "table", "LDropChase$Table;", true)
  | 2 => ("DropChase$Chase", "codes", "[I", true)
  | 3 => ("DropChase$Chase", "parents", "[I", true)
  | 4 => ("DropChase$Chase", "inside", "[I", true)
  | 5 => ("DropChase$Chase", "size", "I", false)
  | 6 => ("DropChase$Chase", "fuel", "I", false)
  | 7 => ("DropChase$Chase", "used", "I", false)
  | _ => ("DropChase$Chase", "dry", "Z", false)
def tyX0 : Nat → FieldType := fun k => match k with
  | 0 => .object "DropChase$Rules"
  | 1 => .object "DropChase$Table"
  | 2 => .array .int
  | 3 => .array .int
  | 4 => .array .int
  | 5 => .int
  | 6 => .int
  | 7 => .int
  | _ => .boolean
abbrev wsX00 : List Cond := u_ws RX0 TX0 9
theorem nmX0 : ∀ a, a < 9 → ∀ b, b < 9 → a ≠ b → (TX0 a).2.1 ≠ (TX0 b).2.1 := by decide +kernel
theorem tyX0_ok : ∀ k, k < 9 → parseFieldDescriptor (TX0 k).2.2.1 = some (tyX0 k) := by decide +kernel
abbrev cX0_init : ByteArray := prog_2_method_1_code
def yX0_init : MethodName := ⟨RX0, "<init>", "(LDropChase$Rules;LDropChase$Table;)V"⟩
abbrev cX0_begin : ByteArray := prog_2_method_2_code
def yX0_begin : MethodName := ⟨RX0, "begin", "()V"⟩
abbrev cX0_fits : ByteArray := prog_2_method_3_code
def yX0_fits : MethodName := ⟨RX0, "fits", "()Z"⟩
abbrev cX0_hunterGoes : ByteArray := prog_2_method_4_code
def yX0_hunterGoes : MethodName := ⟨RX0, "hunterGoes", "(III)Z"⟩
abbrev cX0_answersGo : ByteArray := prog_2_method_5_code
def yX0_answersGo : MethodName := ⟨RX0, "answersGo", "(IIII)Z"⟩
abbrev cX0_addNode : ByteArray := prog_2_method_6_code
def yX0_addNode : MethodName := ⟨RX0, "addNode", "(II)I"⟩
abbrev cX0_depthOf : ByteArray := prog_2_method_7_code
def yX0_depthOf : MethodName := ⟨RX0, "depthOf", "(I)I"⟩
abbrev cX0_firstFault : ByteArray := prog_2_method_8_code
def yX0_firstFault : MethodName := ⟨RX0, "firstFault", "(II)I"⟩
abbrev cX0_faultInAnswers : ByteArray := prog_2_method_9_code
def yX0_faultInAnswers : MethodName := ⟨RX0, "faultInAnswers", "(II)I"⟩
abbrev cX0_answersIn : ByteArray := prog_2_method_10_code
def yX0_answersIn : MethodName := ⟨RX0, "answersIn", "(I)I"⟩
def RX1 : String := "DropChase$Lines"
def TX1 : u_T := fun k => match k with
  | 0 => ("DropChase$Lines", "n", "I", true)
  | 1 => ("DropChase$Lines", "forms", "[I", true)
  | 2 => ("DropChase$Lines", "sizes", "[I", true)
  | _ => ("DropChase$Lines", "items", "[[I", true)
def tyX1 : Nat → FieldType := fun k => match k with
  | 0 => .int
  | 1 => .array .int
  | 2 => .array .int
  | _ => .array (.array .int)
abbrev wsX10 : List Cond := u_ws RX1 TX1 4
theorem nmX1 : ∀ a, a < 4 → ∀ b, b < 4 → a ≠ b → (TX1 a).2.1 ≠ (TX1 b).2.1 := by decide +kernel
theorem tyX1_ok : ∀ k, k < 4 → parseFieldDescriptor (TX1 k).2.2.1 = some (tyX1 k) := by decide +kernel
abbrev cX1_init : ByteArray := prog_3_method_1_code
def yX1_init : MethodName := ⟨RX1, "<init>", "(I)V"⟩
abbrev cX1_isForm : ByteArray := prog_3_method_2_code
def yX1_isForm : MethodName := ⟨RX1, "isForm", "(I)Z"⟩
abbrev cX1_narrowed : ByteArray := prog_3_method_3_code
def yX1_narrowed : MethodName := ⟨RX1, "narrowed", "(II)I"⟩
abbrev cX1_isLine : ByteArray := prog_3_method_4_code
def yX1_isLine : MethodName := ⟨RX1, "isLine", "(I)Z"⟩
abbrev cX1_isLost : ByteArray := prog_3_method_5_code
def yX1_isLost : MethodName := ⟨RX1, "isLost", "(I)Z"⟩
abbrev cX1_renew : ByteArray := prog_3_method_6_code
def yX1_renew : MethodName := ⟨RX1, "renew", "(III)V"⟩
abbrev cX1_faultOfItem : ByteArray := prog_3_method_7_code
def yX1_faultOfItem : MethodName := ⟨RX1, "faultOfItem", "(III)I"⟩
abbrev cX1_hasItems : ByteArray := prog_3_method_8_code
def yX1_hasItems : MethodName := ⟨RX1, "hasItems", "(III)Z"⟩
abbrev cX1_someIsTooShort : ByteArray := prog_3_method_9_code
def yX1_someIsTooShort : MethodName := ⟨RX1, "someIsTooShort", "()Z"⟩
abbrev cX1_told : ByteArray := prog_3_method_10_code
def yX1_told : MethodName := ⟨RX1, "told", "(II)I"⟩
def RX2 : String := "DropChase$Man"
def TX2 : u_T := fun k => match k with
  | _ => ("", "", "", false)
def tyX2 : Nat → FieldType := fun k => match k with
  | _ => .int
abbrev wsX20 : List Cond := u_ws RX2 TX2 0
theorem nmX2 : ∀ a, a < 0 → ∀ b, b < 0 → a ≠ b → (TX2 a).2.1 ≠ (TX2 b).2.1 := by decide +kernel
theorem tyX2_ok : ∀ k, k < 0 → parseFieldDescriptor (TX2 k).2.2.1 = some (tyX2 k) := by decide +kernel
abbrev cX2_itemOf : ByteArray := prog_4_method_2_code
def yX2_itemOf : MethodName := ⟨RX2, "itemOf", "(II)I"⟩
abbrev cX2_sideOf : ByteArray := prog_4_method_3_code
def yX2_sideOf : MethodName := ⟨RX2, "sideOf", "(I)I"⟩
abbrev cX2_kindOf : ByteArray := prog_4_method_4_code
def yX2_kindOf : MethodName := ⟨RX2, "kindOf", "(I)I"⟩
abbrev cX2_typeOf : ByteArray := prog_4_method_5_code
def yX2_typeOf : MethodName := ⟨RX2, "typeOf", "(I)I"⟩
abbrev cX2_isRaised : ByteArray := prog_4_method_6_code
def yX2_isRaised : MethodName := ⟨RX2, "isRaised", "(I)Z"⟩
def RX3 : String := "DropChase$Move"
def TX3 : u_T := fun k => match k with
  | _ => ("", "", "", false)
def tyX3 : Nat → FieldType := fun k => match k with
  | _ => .int
abbrev wsX30 : List Cond := u_ws RX3 TX3 0
theorem nmX3 : ∀ a, a < 0 → ∀ b, b < 0 → a ≠ b → (TX3 a).2.1 ≠ (TX3 b).2.1 := by decide +kernel
theorem tyX3_ok : ∀ k, k < 0 → parseFieldDescriptor (TX3 k).2.2.1 = some (tyX3 k) := by decide +kernel
abbrev cX3_going : ByteArray := prog_5_method_2_code
def yX3_going : MethodName := ⟨RX3, "going", "(IIZ)I"⟩
abbrev cX3_setting : ByteArray := prog_5_method_3_code
def yX3_setting : MethodName := ⟨RX3, "setting", "(II)I"⟩
abbrev cX3_isSetting : ByteArray := prog_5_method_4_code
def yX3_isSetting : MethodName := ⟨RX3, "isSetting", "(I)Z"⟩
abbrev cX3_fromOf : ByteArray := prog_5_method_5_code
def yX3_fromOf : MethodName := ⟨RX3, "fromOf", "(I)I"⟩
abbrev cX3_toOf : ByteArray := prog_5_method_6_code
def yX3_toOf : MethodName := ⟨RX3, "toOf", "(I)I"⟩
abbrev cX3_raises : ByteArray := prog_5_method_7_code
def yX3_raises : MethodName := ⟨RX3, "raises", "(I)Z"⟩
abbrev cX3_setKindOf : ByteArray := prog_5_method_8_code
def yX3_setKindOf : MethodName := ⟨RX3, "setKindOf", "(I)I"⟩
abbrev cX3_takenKindOf : ByteArray := prog_5_method_9_code
def yX3_takenKindOf : MethodName := ⟨RX3, "takenKindOf", "(I)I"⟩
def RX4 : String := "DropChase$Play"
def TX4 : u_T := fun k => match k with
  | 0 => ("DropChase$Play", "table", "LDropChase$Table;", true)
  | 1 => ("DropChase$Play", "codes", "[I", true)
  | 2 => ("DropChase$Play", "gaveCheck", "[Z", true)
  | 3 => ("DropChase$Play", "stands", "[J", true)
  | 4 => ("DropChase$Play", "starter", "I", false)
  | 5 => ("DropChase$Play", "firstTime", "I", false)
  | 6 => ("DropChase$Play", "done", "I", false)
  | 7 => ("DropChase$Play", "known", "I", false)
  | _ => ("DropChase$Play", "times", "I", false)
def tyX4 : Nat → FieldType := fun k => match k with
  | 0 => .object "DropChase$Table"
  | 1 => .array .int
  | 2 => .array .boolean
  | 3 => .array .long
  | 4 => .int
  | 5 => .int
  | 6 => .int
  | 7 => .int
  | _ => .int
abbrev wsX40 : List Cond := u_ws RX4 TX4 9
theorem nmX4 : ∀ a, a < 9 → ∀ b, b < 9 → a ≠ b → (TX4 a).2.1 ≠ (TX4 b).2.1 := by decide +kernel
theorem tyX4_ok : ∀ k, k < 9 → parseFieldDescriptor (TX4 k).2.2.1 = some (tyX4 k) := by decide +kernel
abbrev cX4_init : ByteArray := prog_6_method_1_code
def yX4_init : MethodName := ⟨RX4, "<init>", "(LDropChase$Table;)V"⟩
abbrev cX4_begin : ByteArray := prog_6_method_2_code
def yX4_begin : MethodName := ⟨RX4, "begin", "()V"⟩
abbrev cX4_advance : ByteArray := prog_6_method_3_code
def yX4_advance : MethodName := ⟨RX4, "advance", "(I)V"⟩
abbrev cX4_repeat : ByteArray := prog_6_method_4_code
def yX4_repeat : MethodName := ⟨RX4, "repeat", "()V"⟩
abbrev cX4_withdraw : ByteArray := prog_6_method_5_code
def yX4_withdraw : MethodName := ⟨RX4, "withdraw", "()V"⟩
abbrev cX4_leave : ByteArray := prog_6_method_6_code
def yX4_leave : MethodName := ⟨RX4, "leave", "()V"⟩
abbrev cX4_resume : ByteArray := prog_6_method_7_code
def yX4_resume : MethodName := ⟨RX4, "resume", "()V"⟩
abbrev cX4_isOpen : ByteArray := prog_6_method_8_code
def yX4_isOpen : MethodName := ⟨RX4, "isOpen", "()Z"⟩
abbrev cX4_latestGaveCheck : ByteArray := prog_6_method_9_code
def yX4_latestGaveCheck : MethodName := ⟨RX4, "latestGaveCheck", "()Z"⟩
abbrev cX4_codeOf : ByteArray := prog_6_method_10_code
def yX4_codeOf : MethodName := ⟨RX4, "codeOf", "(I)I"⟩
abbrev cX4_ending : ByteArray := prog_6_method_11_code
def yX4_ending : MethodName := ⟨RX4, "ending", "()I"⟩
abbrev cX4_onlyChecksOf : ByteArray := prog_6_method_12_code
def yX4_onlyChecksOf : MethodName := ⟨RX4, "onlyChecksOf", "(I)Z"⟩
abbrev cX4_keepStand : ByteArray := prog_6_method_13_code
def yX4_keepStand : MethodName := ⟨RX4, "keepStand", "()V"⟩
abbrev cX4_packedFields : ByteArray := prog_6_method_14_code
def yX4_packedFields : MethodName := ⟨RX4, "packedFields", "(I)J"⟩
abbrev cX4_packedHand : ByteArray := prog_6_method_15_code
def yX4_packedHand : MethodName := ⟨RX4, "packedHand", "(I)J"⟩
abbrev cX4_countTimes : ByteArray := prog_6_method_16_code
def yX4_countTimes : MethodName := ⟨RX4, "countTimes", "()V"⟩
abbrev cX4_isSameStand : ByteArray := prog_6_method_17_code
def yX4_isSameStand : MethodName := ⟨RX4, "isSameStand", "(II)Z"⟩
def RX5 : String := "DropChase$Rules"
def TX5 : u_T := fun k => match k with
  | 0 => ("DropChase$Rules", "ways", "LDropChase$Ways;", true)
  | 1 => ("DropChase$Rules", "table", "LDropChase$Table;", true)
  | 2 => ("DropChase$Rules", "width", "I", true)
  | _ => ("DropChase$Rules", "list", "[I", true)
def tyX5 : Nat → FieldType := fun k => match k with
  | 0 => .object "DropChase$Ways"
  | 1 => .object "DropChase$Table"
  | 2 => .int
  | _ => .array .int
abbrev wsX50 : List Cond := u_ws RX5 TX5 4
theorem nmX5 : ∀ a, a < 4 → ∀ b, b < 4 → a ≠ b → (TX5 a).2.1 ≠ (TX5 b).2.1 := by decide +kernel
theorem tyX5_ok : ∀ k, k < 4 → parseFieldDescriptor (TX5 k).2.2.1 = some (tyX5 k) := by decide +kernel
abbrev cX5_init : ByteArray := prog_7_method_1_code
def yX5_init : MethodName := ⟨RX5, "<init>", "(LDropChase$Ways;LDropChase$Table;)V"⟩
abbrev cX5_startOf : ByteArray := prog_7_method_2_code
def yX5_startOf : MethodName := ⟨RX5, "startOf", "(I)I"⟩
abbrev cX5_listed : ByteArray := prog_7_method_3_code
def yX5_listed : MethodName := ⟨RX5, "listed", "(II)I"⟩
abbrev cX5_fill : ByteArray := prog_7_method_4_code
def yX5_fill : MethodName := ⟨RX5, "fill", "(I)I"⟩
abbrev cX5_addGoings : ByteArray := prog_7_method_5_code
def yX5_addGoings : MethodName := ⟨RX5, "addGoings", "(III)I"⟩
abbrev cX5_addSettings : ByteArray := prog_7_method_6_code
def yX5_addSettings : MethodName := ⟨RX5, "addSettings", "(II)I"⟩
abbrev cX5_columnsShutTo : ByteArray := prog_7_method_7_code
def yX5_columnsShutTo : MethodName := ⟨RX5, "columnsShutTo", "(II)I"⟩
abbrev cX5_listLawful : ByteArray := prog_7_method_8_code
def yX5_listLawful : MethodName := ⟨RX5, "listLawful", "(I)I"⟩
abbrev cX5_hasSecondMark : ByteArray := prog_7_method_9_code
def yX5_hasSecondMark : MethodName := ⟨RX5, "hasSecondMark", "(I)Z"⟩
abbrev cX5_holds : ByteArray := prog_7_method_10_code
def yX5_holds : MethodName := ⟨RX5, "holds", "(I)Z"⟩
abbrev cX5_isForbiddenMate : ByteArray := prog_7_method_11_code
def yX5_isForbiddenMate : MethodName := ⟨RX5, "isForbiddenMate", "(I)Z"⟩
abbrev cX5_faultOf : ByteArray := prog_7_method_12_code
def yX5_faultOf : MethodName := ⟨RX5, "faultOf", "(I)I"⟩
abbrev cX5_faultOfGoing : ByteArray := prog_7_method_13_code
def yX5_faultOfGoing : MethodName := ⟨RX5, "faultOfGoing", "(I)I"⟩
abbrev cX5_reaches : ByteArray := prog_7_method_14_code
def yX5_reaches : MethodName := ⟨RX5, "reaches", "(II)Z"⟩
abbrev cX5_faultOfSetting : ByteArray := prog_7_method_15_code
def yX5_faultOfSetting : MethodName := ⟨RX5, "faultOfSetting", "(II)I"⟩
abbrev cX5_countRows : ByteArray := prog_7_method_16_code
def yX5_countRows : MethodName := ⟨RX5, "countRows", "(III)I"⟩
def RX6 : String := "DropChase$Table"
def TX6 : u_T := fun k => match k with
  | 0 => ("DropChase$Table", "ways", "LDropChase$Ways;", true)
  | 1 => ("DropChase$Table", "n", "I", true)
  | 2 => ("DropChase$Table", "fields", "I", true)
  | 3 => ("DropChase$Table", "cells", "[I", true)
  | 4 => ("DropChase$Table", "hands", "[I", true)
  | 5 => ("DropChase$Table", "kings", "[I", true)
  | 6 => ("DropChase$Table", "reached", "[I", true)
  | _ => ("DropChase$Table", "mover", "I", false)
def tyX6 : Nat → FieldType := fun k => match k with
  | 0 => .object "DropChase$Ways"
  | 1 => .int
  | 2 => .int
  | 3 => .array .int
  | 4 => .array .int
  | 5 => .array .int
  | 6 => .array .int
  | _ => .int
abbrev wsX60 : List Cond := u_ws RX6 TX6 8
theorem nmX6 : ∀ a, a < 8 → ∀ b, b < 8 → a ≠ b → (TX6 a).2.1 ≠ (TX6 b).2.1 := by decide +kernel
theorem tyX6_ok : ∀ k, k < 8 → parseFieldDescriptor (TX6 k).2.2.1 = some (tyX6 k) := by decide +kernel
abbrev cX6_init : ByteArray := prog_8_method_1_code
def yX6_init : MethodName := ⟨RX6, "<init>", "(LDropChase$Ways;)V"⟩
abbrev cX6_load : ByteArray := prog_8_method_2_code
def yX6_load : MethodName := ⟨RX6, "load", "(LDropChase$Lines;)I"⟩
abbrev cX6_findKings : ByteArray := prog_8_method_3_code
def yX6_findKings : MethodName := ⟨RX6, "findKings", "()Z"⟩
abbrev cX6_withTaken : ByteArray := prog_8_method_4_code
def yX6_withTaken : MethodName := ⟨RX6, "withTaken", "(I)I"⟩
abbrev cX6_moverKind : ByteArray := prog_8_method_5_code
def yX6_moverKind : MethodName := ⟨RX6, "moverKind", "(I)I"⟩
abbrev cX6_apply : ByteArray := prog_8_method_6_code
def yX6_apply : MethodName := ⟨RX6, "apply", "(I)V"⟩
abbrev cX6_revert : ByteArray := prog_8_method_7_code
def yX6_revert : MethodName := ⟨RX6, "revert", "(I)V"⟩
abbrev cX6_inCheck : ByteArray := prog_8_method_8_code
def yX6_inCheck : MethodName := ⟨RX6, "inCheck", "(I)Z"⟩
abbrev cX6_attacked : ByteArray := prog_8_method_9_code
def yX6_attacked : MethodName := ⟨RX6, "attacked", "(II)Z"⟩
abbrev cX6_reach : ByteArray := prog_8_method_10_code
def yX6_reach : MethodName := ⟨RX6, "reach", "(I)I"⟩
def RX7 : String := "DropChase$Text"
def TX7 : u_T := fun k => match k with
  | 0 => ("DropChase$Text", "n", "I", true)
  | 1 => ("DropChase$Text", "bytes", "[I", true)
  | _ => ("DropChase$Text", "size", "I", false)
def tyX7 : Nat → FieldType := fun k => match k with
  | 0 => .int
  | 1 => .array .int
  | _ => .int
abbrev wsX70 : List Cond := u_ws RX7 TX7 3
theorem nmX7 : ∀ a, a < 3 → ∀ b, b < 3 → a ≠ b → (TX7 a).2.1 ≠ (TX7 b).2.1 := by decide +kernel
theorem tyX7_ok : ∀ k, k < 3 → parseFieldDescriptor (TX7 k).2.2.1 = some (tyX7 k) := by decide +kernel
abbrev cX7_init : ByteArray := prog_9_method_1_code
def yX7_init : MethodName := ⟨RX7, "<init>", "(I)V"⟩
abbrev cX7_add : ByteArray := prog_9_method_2_code
def yX7_add : MethodName := ⟨RX7, "add", "(I)V"⟩
abbrev cX7_record : ByteArray := prog_9_method_3_code
def yX7_record : MethodName := ⟨RX7, "record", "(LDropChase$Play;)V"⟩
abbrev cX7_addMove : ByteArray := prog_9_method_4_code
def yX7_addMove : MethodName := ⟨RX7, "addMove", "(I)V"⟩
abbrev cX7_addField : ByteArray := prog_9_method_5_code
def yX7_addField : MethodName := ⟨RX7, "addField", "(I)V"⟩
abbrev cX7_moveBetween : ByteArray := prog_9_method_6_code
def yX7_moveBetween : MethodName := ⟨RX7, "moveBetween", "(II)I"⟩
abbrev cX7_fieldAt : ByteArray := prog_9_method_7_code
def yX7_fieldAt : MethodName := ⟨RX7, "fieldAt", "(I)I"⟩
def RX8 : String := "DropChase$Ways"
def TX8 : u_T := fun k => match k with
  | 0 => ("DropChase$Ways", "n", "I", true)
  | 1 => ("DropChase$Ways", "fields", "I", true)
  | 2 => ("DropChase$Ways", "next", "[I", true)
  | 3 => ("DropChase$Ways", "open", "[I", true)
  | 4 => ("DropChase$Ways", "zone", "[Z", true)
  | 5 => ("DropChase$Ways", "steps", "[I", true)
  | 6 => ("DropChase$Ways", "runs", "[I", true)
  | 7 => ("DropChase$Ways", "stepDirections", "[I", true)
  | 8 => ("DropChase$Ways", "runDirections", "[I", true)
  | _ => ("DropChase$Ways", "marks", "[I", true)
def tyX8 : Nat → FieldType := fun k => match k with
  | 0 => .int
  | 1 => .int
  | 2 => .array .int
  | 3 => .array .int
  | 4 => .array .boolean
  | 5 => .array .int
  | 6 => .array .int
  | 7 => .array .int
  | 8 => .array .int
  | _ => .array .int
abbrev wsX80 : List Cond := u_ws RX8 TX8 10
theorem nmX8 : ∀ a, a < 10 → ∀ b, b < 10 → a ≠ b → (TX8 a).2.1 ≠ (TX8 b).2.1 := by decide +kernel
theorem tyX8_ok : ∀ k, k < 10 → parseFieldDescriptor (TX8 k).2.2.1 = some (tyX8 k) := by decide +kernel
abbrev cX8_init : ByteArray := prog_10_method_1_code
def yX8_init : MethodName := ⟨RX8, "<init>", "(I)V"⟩
abbrev cX8_areSteps : ByteArray := prog_10_method_2_code
def yX8_areSteps : MethodName := ⟨RX8, "areSteps", "(I)Z"⟩
abbrev cX8_areRuns : ByteArray := prog_10_method_3_code
def yX8_areRuns : MethodName := ⟨RX8, "areRuns", "(I)Z"⟩
abbrev cX8_linkField : ByteArray := prog_10_method_4_code
def yX8_linkField : MethodName := ⟨RX8, "linkField", "(I)V"⟩
abbrev cX8_markZones : ByteArray := prog_10_method_5_code
def yX8_markZones : MethodName := ⟨RX8, "markZones", "(I)V"⟩
abbrev cX8_tell : ByteArray := prog_10_method_6_code
def yX8_tell : MethodName := ⟨RX8, "tell", "(III)V"⟩
abbrev cX8_turnedBits : ByteArray := prog_10_method_7_code
def yX8_turnedBits : MethodName := ⟨RX8, "turnedBits", "(I)I"⟩
abbrev cX8_hasRaised : ByteArray := prog_10_method_8_code
def yX8_hasRaised : MethodName := ⟨RX8, "hasRaised", "(I)Z"⟩
abbrev cX8_goesOn : ByteArray := prog_10_method_9_code
def yX8_goesOn : MethodName := ⟨RX8, "goesOn", "(II)Z"⟩
abbrev cX8_canBeRaised : ByteArray := prog_10_method_10_code
def yX8_canBeRaised : MethodName := ⟨RX8, "canBeRaised", "(III)Z"⟩
def RX9 : String := "DropChase"
def TX9 : u_T := fun k => match k with
  | 0 => ("DropChase", "fields", "I", true)
  | 1 => ("DropChase", "ways", "LDropChase$Ways;", true)
  | 2 => ("DropChase", "lines", "LDropChase$Lines;", true)
  | 3 => ("DropChase", "toldHands", "[I", true)
  | 4 => ("DropChase", "table", "LDropChase$Table;", true)
  | 5 => ("DropChase", "rules", "LDropChase$Rules;", true)
  | 6 => ("DropChase", "chase", "LDropChase$Chase;", true)
  | 7 => ("DropChase", "text", "LDropChase$Text;", true)
  | 8 => ("DropChase", "current", "LDropChase$Play;", false)
  | 9 => ("DropChase", "spare", "LDropChase$Play;", false)
  | 10 => ("DropChase", "standing", "Z", false)
  | 11 => ("DropChase", "lawful", "I", false)
  | _ => ("DropChase", "latestFinding", "I", false)
def tyX9 : Nat → FieldType := fun k => match k with
  | 0 => .int
  | 1 => .object "DropChase$Ways"
  | 2 => .object "DropChase$Lines"
  | 3 => .array .int
  | 4 => .object "DropChase$Table"
  | 5 => .object "DropChase$Rules"
  | 6 => .object "DropChase$Chase"
  | 7 => .object "DropChase$Text"
  | 8 => .object "DropChase$Play"
  | 9 => .object "DropChase$Play"
  | 10 => .boolean
  | 11 => .int
  | _ => .int
abbrev wsX90 : List Cond := u_ws RX9 TX9 13
theorem nmX9 : ∀ a, a < 13 → ∀ b, b < 13 → a ≠ b → (TX9 a).2.1 ≠ (TX9 b).2.1 := by decide +kernel
theorem tyX9_ok : ∀ k, k < 13 → parseFieldDescriptor (TX9 k).2.2.1 = some (tyX9 k) := by decide +kernel
abbrev cX9_init : ByteArray := prog_1_method_1_code
def yX9_init : MethodName := ⟨RX9, "<init>", "(I)V"⟩
abbrev cX9_kind : ByteArray := prog_1_method_2_code
def yX9_kind : MethodName := ⟨RX9, "kind", "(IIIIII)I"⟩
abbrev cX9_line : ByteArray := prog_1_method_3_code
def yX9_line : MethodName := ⟨RX9, "line", "(III)I"⟩
abbrev cX9_lose : ByteArray := prog_1_method_4_code
def yX9_lose : MethodName := ⟨RX9, "lose", "(I)I"⟩
abbrev cX9_put : ByteArray := prog_1_method_5_code
def yX9_put : MethodName := ⟨RX9, "put", "(IIII)I"⟩
abbrev cX9_get : ByteArray := prog_1_method_6_code
def yX9_get : MethodName := ⟨RX9, "get", "(III)I"⟩
abbrev cX9_copy : ByteArray := prog_1_method_7_code
def yX9_copy : MethodName := ⟨RX9, "copy", "(IIIII)I"⟩
abbrev cX9_hand : ByteArray := prog_1_method_8_code
def yX9_hand : MethodName := ⟨RX9, "hand", "(III)I"⟩
abbrev cX9_stand : ByteArray := prog_1_method_9_code
def yX9_stand : MethodName := ⟨RX9, "stand", "(I)I"⟩
abbrev cX9_clear : ByteArray := prog_1_method_10_code
def yX9_clear : MethodName := ⟨RX9, "clear", "()I"⟩
abbrev cX9_field : ByteArray := prog_1_method_11_code
def yX9_field : MethodName := ⟨RX9, "field", "(I)I"⟩
abbrev cX9_has : ByteArray := prog_1_method_12_code
def yX9_has : MethodName := ⟨RX9, "has", "(II)I"⟩
abbrev cX9_attacks : ByteArray := prog_1_method_13_code
def yX9_attacks : MethodName := ⟨RX9, "attacks", "(II)I"⟩
abbrev cX9_check : ByteArray := prog_1_method_14_code
def yX9_check : MethodName := ⟨RX9, "check", "(I)I"⟩
abbrev cX9_moves : ByteArray := prog_1_method_15_code
def yX9_moves : MethodName := ⟨RX9, "moves", "()I"⟩
abbrev cX9_move : ByteArray := prog_1_method_16_code
def yX9_move : MethodName := ⟨RX9, "move", "(II)I"⟩
abbrev cX9_why : ByteArray := prog_1_method_17_code
def yX9_why : MethodName := ⟨RX9, "why", "(IIZ)I"⟩
abbrev cX9_whySet : ByteArray := prog_1_method_18_code
def yX9_whySet : MethodName := ⟨RX9, "whySet", "(II)I"⟩
abbrev cX9_rows : ByteArray := prog_1_method_19_code
def yX9_rows : MethodName := ⟨RX9, "rows", "(I)I"⟩
abbrev cX9_go : ByteArray := prog_1_method_20_code
def yX9_go : MethodName := ⟨RX9, "go", "(I)I"⟩
abbrev cX9_back : ByteArray := prog_1_method_21_code
def yX9_back : MethodName := ⟨RX9, "back", "()I"⟩
abbrev cX9_forth : ByteArray := prog_1_method_22_code
def yX9_forth : MethodName := ⟨RX9, "forth", "()I"⟩
abbrev cX9_play : ByteArray := prog_1_method_23_code
def yX9_play : MethodName := ⟨RX9, "play", "(I)I"⟩
abbrev cX9_fuel : ByteArray := prog_1_method_24_code
def yX9_fuel : MethodName := ⟨RX9, "fuel", "(I)I"⟩
abbrev cX9_hunt : ByteArray := prog_1_method_25_code
def yX9_hunt : MethodName := ⟨RX9, "hunt", "(I)I"⟩
abbrev cX9_spent : ByteArray := prog_1_method_26_code
def yX9_spent : MethodName := ⟨RX9, "spent", "()I"⟩
abbrev cX9_tree : ByteArray := prog_1_method_27_code
def yX9_tree : MethodName := ⟨RX9, "tree", "()I"⟩
abbrev cX9_node : ByteArray := prog_1_method_28_code
def yX9_node : MethodName := ⟨RX9, "node", "(II)I"⟩
abbrev cX9_forge : ByteArray := prog_1_method_29_code
def yX9_forge : MethodName := ⟨RX9, "forge", "(IIIZI)I"⟩
abbrev cX9_verify : ByteArray := prog_1_method_30_code
def yX9_verify : MethodName := ⟨RX9, "verify", "()I"⟩
abbrev cX9_write : ByteArray := prog_1_method_31_code
def yX9_write : MethodName := ⟨RX9, "write", "()I"⟩
abbrev cX9_type : ByteArray := prog_1_method_32_code
def yX9_type : MethodName := ⟨RX9, "type", "(I)I"⟩
abbrev cX9_wipe : ByteArray := prog_1_method_33_code
def yX9_wipe : MethodName := ⟨RX9, "wipe", "()I"⟩
abbrev cX9_letter : ByteArray := prog_1_method_34_code
def yX9_letter : MethodName := ⟨RX9, "letter", "(I)I"⟩
abbrev cX9_read : ByteArray := prog_1_method_35_code
def yX9_read : MethodName := ⟨RX9, "read", "()I"⟩
abbrev cX9_finding : ByteArray := prog_1_method_36_code
def yX9_finding : MethodName := ⟨RX9, "finding", "()I"⟩
abbrev cX9_digest : ByteArray := prog_1_method_37_code
def yX9_digest : MethodName := ⟨RX9, "digest", "()J"⟩
abbrev cX9_isSide : ByteArray := prog_1_method_38_code
def yX9_isSide : MethodName := ⟨RX9, "isSide", "(I)Z"⟩
abbrev cX9_isHandKind : ByteArray := prog_1_method_39_code
def yX9_isHandKind : MethodName := ⟨RX9, "isHandKind", "(I)Z"⟩
abbrev cX9_asNumber : ByteArray := prog_1_method_40_code
def yX9_asNumber : MethodName := ⟨RX9, "asNumber", "(Z)I"⟩
abbrev cX9_isField : ByteArray := prog_1_method_41_code
def yX9_isField : MethodName := ⟨RX9, "isField", "(I)Z"⟩
abbrev cX9_inHand : ByteArray := prog_1_method_42_code
def yX9_inHand : MethodName := ⟨RX9, "inHand", "(II)I"⟩
abbrev cX9_found : ByteArray := prog_1_method_43_code
def yX9_found : MethodName := ⟨RX9, "found", "(I)I"⟩
abbrev cX9_lookAround : ByteArray := prog_1_method_44_code
def yX9_lookAround : MethodName := ⟨RX9, "lookAround", "()V"⟩
abbrev cX9_stateOfPlay : ByteArray := prog_1_method_45_code
def yX9_stateOfPlay : MethodName := ⟨RX9, "stateOfPlay", "()I"⟩
abbrev cX9_ofPlay : ByteArray := prog_1_method_46_code
def yX9_ofPlay : MethodName := ⟨RX9, "ofPlay", "(I)I"⟩
abbrev cX9_doText : ByteArray := prog_1_method_47_code
def yX9_doText : MethodName := ⟨RX9, "doText", "()I"⟩
def RX10 : String := "DropChaseModel"
def TX10 : u_T := fun k => match k with
  | 0 => ("DropChaseModel", "n", "I", true)
  | 1 => ("DropChaseModel", "found", "I", false)
  | 2 => ("DropChaseModel", "steps", "[I", true)
  | 3 => ("DropChaseModel", "runs", "[I", true)
  | 4 => ("DropChaseModel", "marks", "[I", true)
  | 5 => ("DropChaseModel", "forms", "[I", true)
  | 6 => ("DropChaseModel", "sizes", "[I", true)
  | 7 => ("DropChaseModel", "items", "[I", true)
  | 8 => ("DropChaseModel", "moved", "[I", true)
  | 9 => ("DropChaseModel", "board", "[I", true)
  | 10 => ("DropChaseModel", "hands", "[I", true)
  | 11 => ("DropChaseModel", "sides", "[I", true)
  | 12 => ("DropChaseModel", "manyMoves", "[I", true)
  | 13 => ("DropChaseModel", "moveFrom", "[I", true)
  | 14 => ("DropChaseModel", "moveTo", "[I", true)
  | 15 => ("DropChaseModel", "moveRaise", "[I", true)
  | 16 => ("DropChaseModel", "moveKind", "[I", true)
  | 17 => ("DropChaseModel", "manyTries", "[I", true)
  | 18 => ("DropChaseModel", "tryFrom", "[I", true)
  | 19 => ("DropChaseModel", "tryTo", "[I", true)
  | 20 => ("DropChaseModel", "tryRaise", "[I", true)
  | 21 => ("DropChaseModel", "tryKind", "[I", true)
  | 22 => ("DropChaseModel", "reached", "I", false)
  | 23 => ("DropChaseModel", "reach", "[I", true)
  | 24 => ("DropChaseModel", "isReached", "[Z", true)
  | 25 => ("DropChaseModel", "stands", "Z", false)
  | 26 => ("DropChaseModel", "handTold", "[I", true)
  | 27 => ("DropChaseModel", "kept", "[I", true)
  | 28 => ("DropChaseModel", "keptHands", "[I", true)
  | 29 => ("DropChaseModel", "keptSide", "[I", true)
  | 30 => ("DropChaseModel", "playFrom", "[I", true)
  | 31 => ("DropChaseModel", "playTo", "[I", true)
  | 32 => ("DropChaseModel", "playRaise", "[I", true)
  | 33 => ("DropChaseModel", "playKind", "[I", true)
  | 34 => ("DropChaseModel", "gaveCheck", "[Z", true)
  | 35 => ("DropChaseModel", "now", "I", false)
  | 36 => ("DropChaseModel", "done", "I", false)
  | 37 => ("DropChaseModel", "all", "I", false)
  | 38 => ("DropChaseModel", "state", "I", false)
  | 39 => ("DropChaseModel", "fuel", "I", false)
  | 40 => ("DropChaseModel", "spent", "I", false)
  | 41 => ("DropChaseModel", "nodes", "I", false)
  | 42 => ("DropChaseModel", "nodeIn", "[I", true)
  | 43 => ("DropChaseModel", "nodeFrom", "[I", true)
  | 44 => ("DropChaseModel", "nodeTo", "[I", true)
  | 45 => ("DropChaseModel", "nodeRaise", "[I", true)
  | 46 => ("DropChaseModel", "nodeKind", "[I", true)
  | 47 => ("DropChaseModel", "nodeDepth", "[I", true)
  | 48 => ("DropChaseModel", "hand", "[I", true)
  | 49 => ("DropChaseModel", "nodeAt", "[I", true)
  | 50 => ("DropChaseModel", "size", "I", false)
  | _ => ("DropChaseModel", "text", "[I", true)
def tyX10 : Nat → FieldType := fun k => match k with
  | 0 => .int
  | 1 => .int
  | 2 => .array .int
  | 3 => .array .int
  | 4 => .array .int
  | 5 => .array .int
  | 6 => .array .int
  | 7 => .array .int
  | 8 => .array .int
  | 9 => .array .int
  | 10 => .array .int
  | 11 => .array .int
  | 12 => .array .int
  | 13 => .array .int
  | 14 => .array .int
  | 15 => .array .int
  | 16 => .array .int
  | 17 => .array .int
  | 18 => .array .int
  | 19 => .array .int
  | 20 => .array .int
  | 21 => .array .int
  | 22 => .int
  | 23 => .array .int
  | 24 => .array .boolean
  | 25 => .boolean
  | 26 => .array .int
  | 27 => .array .int
  | 28 => .array .int
  | 29 => .array .int
  | 30 => .array .int
  | 31 => .array .int
  | 32 => .array .int
  | 33 => .array .int
  | 34 => .array .boolean
  | 35 => .int
  | 36 => .int
  | 37 => .int
  | 38 => .int
  | 39 => .int
  | 40 => .int
  | 41 => .int
  | 42 => .array .int
  | 43 => .array .int
  | 44 => .array .int
  | 45 => .array .int
  | 46 => .array .int
  | 47 => .array .int
  | 48 => .array .int
  | 49 => .array .int
  | 50 => .int
  | _ => .array .int
abbrev wsX100 : List Cond := u_ws RX10 TX10 52
theorem nmX10 : ∀ a, a < 52 → ∀ b, b < 52 → a ≠ b → (TX10 a).2.1 ≠ (TX10 b).2.1 := by decide +kernel
theorem tyX10_ok : ∀ k, k < 52 → parseFieldDescriptor (TX10 k).2.2.1 = some (tyX10 k) := by decide +kernel
abbrev cX10_init : ByteArray := prog_12_method_1_code
def yX10_init : MethodName := ⟨RX10, "<init>", "(I)V"⟩
abbrev cX10_in : ByteArray := prog_12_method_3_code
def yX10_in : MethodName := ⟨RX10, "in", "(JJJ)Z"⟩
abbrev cX10_met : ByteArray := prog_12_method_4_code
def yX10_met : MethodName := ⟨RX10, "met", "(I)I"⟩
abbrev cX10_finding : ByteArray := prog_12_method_5_code
def yX10_finding : MethodName := ⟨RX10, "finding", "()I"⟩
abbrev cX10_tell : ByteArray := prog_12_method_6_code
def yX10_tell : MethodName := ⟨RX10, "tell", "(IIIIII)V"⟩
abbrev cX10_kind : ByteArray := prog_12_method_7_code
def yX10_kind : MethodName := ⟨RX10, "kind", "(IIIIII)I"⟩
abbrev cX10_mayRaise : ByteArray := prog_12_method_8_code
def yX10_mayRaise : MethodName := ⟨RX10, "mayRaise", "(I)Z"⟩
abbrev cX10_isLine : ByteArray := prog_12_method_9_code
def yX10_isLine : MethodName := ⟨RX10, "isLine", "(I)Z"⟩
abbrev cX10_line : ByteArray := prog_12_method_10_code
def yX10_line : MethodName := ⟨RX10, "line", "(III)I"⟩
abbrev cX10_lose : ByteArray := prog_12_method_11_code
def yX10_lose : MethodName := ⟨RX10, "lose", "(I)I"⟩
abbrev cX10_lacks : ByteArray := prog_12_method_12_code
def yX10_lacks : MethodName := ⟨RX10, "lacks", "(III)I"⟩
abbrev cX10_put : ByteArray := prog_12_method_13_code
def yX10_put : MethodName := ⟨RX10, "put", "(IIII)I"⟩
abbrev cX10_get : ByteArray := prog_12_method_14_code
def yX10_get : MethodName := ⟨RX10, "get", "(III)I"⟩
abbrev cX10_copy : ByteArray := prog_12_method_15_code
def yX10_copy : MethodName := ⟨RX10, "copy", "(IIIII)I"⟩
abbrev cX10_sideOf : ByteArray := prog_12_method_16_code
def yX10_sideOf : MethodName := ⟨RX10, "sideOf", "(I)I"⟩
abbrev cX10_kindOf : ByteArray := prog_12_method_17_code
def yX10_kindOf : MethodName := ⟨RX10, "kindOf", "(I)I"⟩
abbrev cX10_isRaised : ByteArray := prog_12_method_18_code
def yX10_isRaised : MethodName := ⟨RX10, "isRaised", "(I)Z"⟩
abbrev cX10_rowsOf : ByteArray := prog_12_method_19_code
def yX10_rowsOf : MethodName := ⟨RX10, "rowsOf", "(I)I"⟩
abbrev cX10_columnsOf : ByteArray := prog_12_method_20_code
def yX10_columnsOf : MethodName := ⟨RX10, "columnsOf", "(I)I"⟩
abbrev cX10_along : ByteArray := prog_12_method_21_code
def yX10_along : MethodName := ⟨RX10, "along", "(III)I"⟩
abbrev cX10_comesTo : ByteArray := prog_12_method_22_code
def yX10_comesTo : MethodName := ⟨RX10, "comesTo", "(I)V"⟩
abbrev cX10_reaches : ByteArray := prog_12_method_23_code
def yX10_reaches : MethodName := ⟨RX10, "reaches", "(III)V"⟩
abbrev cX10_couldGoOn : ByteArray := prog_12_method_24_code
def yX10_couldGoOn : MethodName := ⟨RX10, "couldGoOn", "(III)Z"⟩
abbrev cX10_isAttacked : ByteArray := prog_12_method_25_code
def yX10_isAttacked : MethodName := ⟨RX10, "isAttacked", "(III)Z"⟩
abbrev cX10_inCheck : ByteArray := prog_12_method_26_code
def yX10_inCheck : MethodName := ⟨RX10, "inCheck", "(II)Z"⟩
abbrev cX10_isZone : ByteArray := prog_12_method_27_code
def yX10_isZone : MethodName := ⟨RX10, "isZone", "(II)Z"⟩
abbrev cX10_make : ByteArray := prog_12_method_28_code
def yX10_make : MethodName := ⟨RX10, "make", "(IIIII)V"⟩
abbrev cX10_tries : ByteArray := prog_12_method_29_code
def yX10_tries : MethodName := ⟨RX10, "tries", "(IIIII)V"⟩
abbrev cX10_mayRaiseSo : ByteArray := prog_12_method_30_code
def yX10_mayRaiseSo : MethodName := ⟨RX10, "mayRaiseSo", "(IIII)Z"⟩
abbrev cX10_mayStay : ByteArray := prog_12_method_31_code
def yX10_mayStay : MethodName := ⟨RX10, "mayStay", "(III)Z"⟩
abbrev cX10_inColumn : ByteArray := prog_12_method_32_code
def yX10_inColumn : MethodName := ⟨RX10, "inColumn", "(IIII)Z"⟩
abbrev cX10_findTries : ByteArray := prog_12_method_33_code
def yX10_findTries : MethodName := ⟨RX10, "findTries", "(I)V"⟩
abbrev cX10_hasAny : ByteArray := prog_12_method_34_code
def yX10_hasAny : MethodName := ⟨RX10, "hasAny", "(I)Z"⟩
abbrev cX10_isMate : ByteArray := prog_12_method_35_code
def yX10_isMate : MethodName := ⟨RX10, "isMate", "(I)Z"⟩
abbrev cX10_findMoves : ByteArray := prog_12_method_36_code
def yX10_findMoves : MethodName := ⟨RX10, "findMoves", "(I)V"⟩
abbrev cX10_makeMove : ByteArray := prog_12_method_37_code
def yX10_makeMove : MethodName := ⟨RX10, "makeMove", "(II)V"⟩
abbrev cX10_indexOf : ByteArray := prog_12_method_38_code
def yX10_indexOf : MethodName := ⟨RX10, "indexOf", "(IIIII)I"⟩
abbrev cX10_hand : ByteArray := prog_12_method_39_code
def yX10_hand : MethodName := ⟨RX10, "hand", "(III)I"⟩
abbrev cX10_keepStand : ByteArray := prog_12_method_40_code
def yX10_keepStand : MethodName := ⟨RX10, "keepStand", "(II)V"⟩
abbrev cX10_layStand : ByteArray := prog_12_method_41_code
def yX10_layStand : MethodName := ⟨RX10, "layStand", "(II)V"⟩
abbrev cX10_areSame : ByteArray := prog_12_method_42_code
def yX10_areSame : MethodName := ⟨RX10, "areSame", "(II)Z"⟩
abbrev cX10_comes : ByteArray := prog_12_method_43_code
def yX10_comes : MethodName := ⟨RX10, "comes", "(II)I"⟩
abbrev cX10_firstOf : ByteArray := prog_12_method_44_code
def yX10_firstOf : MethodName := ⟨RX10, "firstOf", "(II)I"⟩
abbrev cX10_chased : ByteArray := prog_12_method_45_code
def yX10_chased : MethodName := ⟨RX10, "chased", "(IIII)Z"⟩
abbrev cX10_stateOf : ByteArray := prog_12_method_46_code
def yX10_stateOf : MethodName := ⟨RX10, "stateOf", "(II)I"⟩
abbrev cX10_stand : ByteArray := prog_12_method_47_code
def yX10_stand : MethodName := ⟨RX10, "stand", "(I)I"⟩
abbrev cX10_clear : ByteArray := prog_12_method_48_code
def yX10_clear : MethodName := ⟨RX10, "clear", "()I"⟩
abbrev cX10_isField : ByteArray := prog_12_method_49_code
def yX10_isField : MethodName := ⟨RX10, "isField", "(I)Z"⟩
abbrev cX10_field : ByteArray := prog_12_method_50_code
def yX10_field : MethodName := ⟨RX10, "field", "(I)I"⟩
abbrev cX10_has : ByteArray := prog_12_method_51_code
def yX10_has : MethodName := ⟨RX10, "has", "(II)I"⟩
abbrev cX10_attacks : ByteArray := prog_12_method_52_code
def yX10_attacks : MethodName := ⟨RX10, "attacks", "(II)I"⟩
abbrev cX10_check : ByteArray := prog_12_method_53_code
def yX10_check : MethodName := ⟨RX10, "check", "(I)I"⟩
abbrev cX10_moves : ByteArray := prog_12_method_54_code
def yX10_moves : MethodName := ⟨RX10, "moves", "()I"⟩
abbrev cX10_move : ByteArray := prog_12_method_55_code
def yX10_move : MethodName := ⟨RX10, "move", "(II)I"⟩
abbrev cX10_why : ByteArray := prog_12_method_56_code
def yX10_why : MethodName := ⟨RX10, "why", "(IIZ)I"⟩
abbrev cX10_whySet : ByteArray := prog_12_method_57_code
def yX10_whySet : MethodName := ⟨RX10, "whySet", "(II)I"⟩
abbrev cX10_rows : ByteArray := prog_12_method_58_code
def yX10_rows : MethodName := ⟨RX10, "rows", "(I)I"⟩
abbrev cX10_doMove : ByteArray := prog_12_method_59_code
def yX10_doMove : MethodName := ⟨RX10, "doMove", "(III)V"⟩
abbrev cX10_go : ByteArray := prog_12_method_60_code
def yX10_go : MethodName := ⟨RX10, "go", "(I)I"⟩
abbrev cX10_back : ByteArray := prog_12_method_61_code
def yX10_back : MethodName := ⟨RX10, "back", "()I"⟩
abbrev cX10_forth : ByteArray := prog_12_method_62_code
def yX10_forth : MethodName := ⟨RX10, "forth", "()I"⟩
abbrev cX10_play : ByteArray := prog_12_method_63_code
def yX10_play : MethodName := ⟨RX10, "play", "(I)I"⟩
abbrev cX10_fuel : ByteArray := prog_12_method_64_code
def yX10_fuel : MethodName := ⟨RX10, "fuel", "(I)I"⟩
abbrev cX10_notes : ByteArray := prog_12_method_65_code
def yX10_notes : MethodName := ⟨RX10, "notes", "(I)Z"⟩
abbrev cX10_nextCheck : ByteArray := prog_12_method_66_code
def yX10_nextCheck : MethodName := ⟨RX10, "nextCheck", "(I)Z"⟩
abbrev cX10_hunts : ByteArray := prog_12_method_67_code
def yX10_hunts : MethodName := ⟨RX10, "hunts", "(I)I"⟩
abbrev cX10_hunt : ByteArray := prog_12_method_68_code
def yX10_hunt : MethodName := ⟨RX10, "hunt", "(I)I"⟩
abbrev cX10_spent : ByteArray := prog_12_method_69_code
def yX10_spent : MethodName := ⟨RX10, "spent", "()I"⟩
abbrev cX10_tree : ByteArray := prog_12_method_70_code
def yX10_tree : MethodName := ⟨RX10, "tree", "()I"⟩
abbrev cX10_within : ByteArray := prog_12_method_71_code
def yX10_within : MethodName := ⟨RX10, "within", "(I)I"⟩
abbrev cX10_node : ByteArray := prog_12_method_72_code
def yX10_node : MethodName := ⟨RX10, "node", "(II)I"⟩
abbrev cX10_forge : ByteArray := prog_12_method_73_code
def yX10_forge : MethodName := ⟨RX10, "forge", "(IIIZI)I"⟩
abbrev cX10_manyIn : ByteArray := prog_12_method_74_code
def yX10_manyIn : MethodName := ⟨RX10, "manyIn", "(I)I"⟩
abbrev cX10_verify : ByteArray := prog_12_method_75_code
def yX10_verify : MethodName := ⟨RX10, "verify", "()I"⟩
abbrev cX10_say : ByteArray := prog_12_method_76_code
def yX10_say : MethodName := ⟨RX10, "say", "(I)V"⟩
abbrev cX10_sayField : ByteArray := prog_12_method_77_code
def yX10_sayField : MethodName := ⟨RX10, "sayField", "(I)V"⟩
abbrev cX10_write : ByteArray := prog_12_method_78_code
def yX10_write : MethodName := ⟨RX10, "write", "()I"⟩
abbrev cX10_type : ByteArray := prog_12_method_79_code
def yX10_type : MethodName := ⟨RX10, "type", "(I)I"⟩
abbrev cX10_wipe : ByteArray := prog_12_method_80_code
def yX10_wipe : MethodName := ⟨RX10, "wipe", "()I"⟩
abbrev cX10_letter : ByteArray := prog_12_method_81_code
def yX10_letter : MethodName := ⟨RX10, "letter", "(I)I"⟩
abbrev cX10_fieldAt : ByteArray := prog_12_method_82_code
def yX10_fieldAt : MethodName := ⟨RX10, "fieldAt", "(I)I"⟩
abbrev cX10_told : ByteArray := prog_12_method_83_code
def yX10_told : MethodName := ⟨RX10, "told", "(II)I"⟩
abbrev cX10_read : ByteArray := prog_12_method_84_code
def yX10_read : MethodName := ⟨RX10, "read", "()I"⟩
abbrev cX10_digest : ByteArray := prog_12_method_85_code
def yX10_digest : MethodName := ⟨RX10, "digest", "()J"⟩
def RJ9 : String := "java/lang/Math"
def TJ9 : u_T := fun k => match k with
  | _ => ("", "", "", false)
def tyJ9 : Nat → FieldType := fun k => match k with
  | _ => .int
abbrev wsJ90 : List Cond := u_ws RJ9 TJ9 0
theorem nmJ9 : ∀ a, a < 0 → ∀ b, b < 0 → a ≠ b → (TJ9 a).2.1 ≠ (TJ9 b).2.1 := by decide +kernel
theorem tyJ9_ok : ∀ k, k < 0 → parseFieldDescriptor (TJ9 k).2.2.1 = some (tyJ9 k) := by decide +kernel
abbrev cJ9_min_7cf53 : ByteArray := prog_13_method_69_code
def yJ9_min_7cf53 : MethodName := ⟨RJ9, "min", "(II)I"⟩
def RJ10 : String := "java/lang/System"
def TJ10 : u_T := fun k => match k with
  | _ => ("", "", "", false)
def tyJ10 : Nat → FieldType := fun k => match k with
  | _ => .int
abbrev wsJ100 : List Cond := u_ws RJ10 TJ10 0
theorem nmJ10 : ∀ a, a < 0 → ∀ b, b < 0 → a ≠ b → (TJ10 a).2.1 ≠ (TJ10 b).2.1 := by decide +kernel
theorem tyJ10_ok : ∀ k, k < 0 → parseFieldDescriptor (TJ10 k).2.2.1 = some (tyJ10 k) := by decide +kernel
def RL : String := "DropChaseLaw"
abbrev cL_cell : ByteArray := method_2_code
def yL_cell : MethodName := ⟨RL, "cell", "([II)I"⟩
abbrev cL_law : ByteArray := code
def yL_law : MethodName := ⟨RL, "law", "([I)Z"⟩
abbrev vwCl : List vw_C := [(RX0, TX0, 9), (RX1, TX1, 4), (RX4, TX4, 9), (RX5, TX5, 4), (RX6, TX6, 8), (RX7, TX7, 3), (RX8, TX8, 10), (RX9, TX9, 13), (RX10, TX10, 52)]
end
section
theorem dX0_init_0 : decode cX0_init 0 = .ok (.aload_n 0, 1) := by decide +kernel
theorem dX0_init_1 : decode cX0_init 1 = .ok (.invokespecial 3, 3) := by decide +kernel
theorem dX0_init_4 : decode cX0_init 4 = .ok (.aload_n 0, 1) := by decide +kernel
theorem dX0_init_5 : decode cX0_init 5 = .ok (.sipush 1000, 3) := by decide +kernel
theorem dX0_init_8 : decode cX0_init 8 = .ok (.newarray .int, 2) := by decide +kernel
theorem dX0_init_10 : decode cX0_init 10 = .ok (.putfield 9, 3) := by decide +kernel
theorem dX0_init_13 : decode cX0_init 13 = .ok (.aload_n 0, 1) := by decide +kernel
theorem dX0_init_14 : decode cX0_init 14 = .ok (.sipush 1000, 3) := by decide +kernel
theorem dX0_init_17 : decode cX0_init 17 = .ok (.newarray .int, 2) := by decide +kernel
theorem dX0_init_19 : decode cX0_init 19 = .ok (.putfield 15, 3) := by decide +kernel
theorem dX0_init_22 : decode cX0_init 22 = .ok (.aload_n 0, 1) := by decide +kernel
theorem dX0_init_23 : decode cX0_init 23 = .ok (.sipush 1000, 3) := by decide +kernel
theorem dX0_init_26 : decode cX0_init 26 = .ok (.newarray .int, 2) := by decide +kernel
theorem dX0_init_28 : decode cX0_init 28 = .ok (.putfield 18, 3) := by decide +kernel
theorem dX0_init_31 : decode cX0_init 31 = .ok (.aload_n 0, 1) := by decide +kernel
theorem dX0_init_32 : decode cX0_init 32 = .ok (.sipush 500, 3) := by decide +kernel
theorem dX0_init_35 : decode cX0_init 35 = .ok (.putfield 21, 3) := by decide +kernel
theorem dX0_init_38 : decode cX0_init 38 = .ok (.aload_n 0, 1) := by decide +kernel
theorem dX0_init_39 : decode cX0_init 39 = .ok (.aload_n 1, 1) := by decide +kernel
theorem dX0_init_40 : decode cX0_init 40 = .ok (.putfield 25, 3) := by decide +kernel
theorem dX0_init_43 : decode cX0_init 43 = .ok (.aload_n 0, 1) := by decide +kernel
theorem dX0_init_44 : decode cX0_init 44 = .ok (.aload_n 2, 1) := by decide +kernel
theorem dX0_init_45 : decode cX0_init 45 = .ok (.putfield 29, 3) := by decide +kernel
theorem dX0_init_48 : decode cX0_init 48 = .ok (.return_, 1) := by decide +kernel
theorem dX0_begin_0 : decode cX0_begin 0 = .ok (.aload_n 0, 1) := by decide +kernel
theorem dX0_begin_1 : decode cX0_begin 1 = .ok (.iconst 0, 1) := by decide +kernel
theorem dX0_begin_2 : decode cX0_begin 2 = .ok (.putfield 33, 3) := by decide +kernel
theorem dX0_begin_5 : decode cX0_begin 5 = .ok (.aload_n 0, 1) := by decide +kernel
theorem dX0_begin_6 : decode cX0_begin 6 = .ok (.iconst 0, 1) := by decide +kernel
theorem dX0_begin_7 : decode cX0_begin 7 = .ok (.putfield 36, 3) := by decide +kernel
theorem dX0_begin_10 : decode cX0_begin 10 = .ok (.aload_n 0, 1) := by decide +kernel
theorem dX0_begin_11 : decode cX0_begin 11 = .ok (.iconst 0, 1) := by decide +kernel
theorem dX0_begin_12 : decode cX0_begin 12 = .ok (.putfield 39, 3) := by decide +kernel
theorem dX0_begin_15 : decode cX0_begin 15 = .ok (.return_, 1) := by decide +kernel
theorem dX0_fits_0 : decode cX0_fits 0 = .ok (.aload_n 0, 1) := by decide +kernel
theorem dX0_fits_1 : decode cX0_fits 1 = .ok (.getfield 33, 3) := by decide +kernel
theorem dX0_fits_4 : decode cX0_fits 4 = .ok (.sipush 500, 3) := by decide +kernel
theorem dX0_fits_7 : decode cX0_fits 7 = .ok (.if_icmp .gt 5, 3) := by decide +kernel
theorem dX0_fits_10 : decode cX0_fits 10 = .ok (.iconst 1, 1) := by decide +kernel
theorem dX0_fits_11 : decode cX0_fits 11 = .ok (.ireturn, 1) := by decide +kernel
theorem dX0_fits_12 : decode cX0_fits 12 = .ok (.aload_n 0, 1) := by decide +kernel
theorem dX0_fits_13 : decode cX0_fits 13 = .ok (.iconst 0, 1) := by decide +kernel
theorem dX0_fits_14 : decode cX0_fits 14 = .ok (.putfield 33, 3) := by decide +kernel
theorem dX0_fits_17 : decode cX0_fits 17 = .ok (.iconst 0, 1) := by decide +kernel
theorem dX0_fits_18 : decode cX0_fits 18 = .ok (.ireturn, 1) := by decide +kernel
theorem dX0_hunterGoes_0 : decode cX0_hunterGoes 0 = .ok (.iload_n 1, 1) := by decide +kernel
theorem dX0_hunterGoes_1 : decode cX0_hunterGoes 1 = .ok (.ifCond .le 11, 3) := by decide +kernel
theorem dX0_hunterGoes_4 : decode cX0_hunterGoes 4 = .ok (.iload_n 3, 1) := by decide +kernel
theorem dX0_hunterGoes_5 : decode cX0_hunterGoes 5 = .ok (.iconst 1, 1) := by decide +kernel
theorem dX0_hunterGoes_6 : decode cX0_hunterGoes 6 = .ok (.iadd, 1) := by decide +kernel
theorem dX0_hunterGoes_7 : decode cX0_hunterGoes 7 = .ok (.bipush 10, 2) := by decide +kernel
theorem dX0_hunterGoes_9 : decode cX0_hunterGoes 9 = .ok (.if_icmp .lt 5, 3) := by decide +kernel
theorem dX0_hunterGoes_12 : decode cX0_hunterGoes 12 = .ok (.iconst 0, 1) := by decide +kernel
theorem dX0_hunterGoes_13 : decode cX0_hunterGoes 13 = .ok (.ireturn, 1) := by decide +kernel
theorem dX0_hunterGoes_14 : decode cX0_hunterGoes 14 = .ok (.aload_n 0, 1) := by decide +kernel
theorem dX0_hunterGoes_15 : decode cX0_hunterGoes 15 = .ok (.getfield 25, 3) := by decide +kernel
theorem dX0_hunterGoes_18 : decode cX0_hunterGoes 18 = .ok (.iload_n 3, 1) := by decide +kernel
theorem dX0_hunterGoes_19 : decode cX0_hunterGoes 19 = .ok (.invokevirtual 45, 3) := by decide +kernel
theorem dX0_hunterGoes_22 : decode cX0_hunterGoes 22 = .ok (.istore 4, 2) := by decide +kernel
theorem dX0_hunterGoes_24 : decode cX0_hunterGoes 24 = .ok (.iconst 0, 1) := by decide +kernel
theorem dX0_hunterGoes_25 : decode cX0_hunterGoes 25 = .ok (.istore 5, 2) := by decide +kernel
theorem dX0_hunterGoes_27 : decode cX0_hunterGoes 27 = .ok (.aload_n 0, 1) := by decide +kernel
theorem dX0_hunterGoes_28 : decode cX0_hunterGoes 28 = .ok (.getfield 25, 3) := by decide +kernel
theorem dX0_hunterGoes_31 : decode cX0_hunterGoes 31 = .ok (.iload_n 3, 1) := by decide +kernel
theorem dX0_hunterGoes_32 : decode cX0_hunterGoes 32 = .ok (.invokevirtual 49, 3) := by decide +kernel
theorem dX0_hunterGoes_35 : decode cX0_hunterGoes 35 = .ok (.istore 6, 2) := by decide +kernel
theorem dX0_hunterGoes_37 : decode cX0_hunterGoes 37 = .ok (.iload 6, 2) := by decide +kernel
theorem dX0_hunterGoes_39 : decode cX0_hunterGoes 39 = .ok (.iload 4, 2) := by decide +kernel
theorem dX0_hunterGoes_41 : decode cX0_hunterGoes 41 = .ok (.if_icmp .ge 93, 3) := by decide +kernel
theorem dX0_hunterGoes_44 : decode cX0_hunterGoes 44 = .ok (.iload 5, 2) := by decide +kernel
theorem dX0_hunterGoes_46 : decode cX0_hunterGoes 46 = .ok (.ifCond .ne 88, 3) := by decide +kernel
theorem dX0_hunterGoes_49 : decode cX0_hunterGoes 49 = .ok (.aload_n 0, 1) := by decide +kernel
theorem dX0_hunterGoes_50 : decode cX0_hunterGoes 50 = .ok (.getfield 39, 3) := by decide +kernel
theorem dX0_hunterGoes_53 : decode cX0_hunterGoes 53 = .ok (.ifCond .ne 81, 3) := by decide +kernel
theorem dX0_hunterGoes_56 : decode cX0_hunterGoes 56 = .ok (.aload_n 0, 1) := by decide +kernel
theorem dX0_hunterGoes_57 : decode cX0_hunterGoes 57 = .ok (.getfield 25, 3) := by decide +kernel
theorem dX0_hunterGoes_60 : decode cX0_hunterGoes 60 = .ok (.getfield 52, 3) := by decide +kernel
theorem dX0_hunterGoes_63 : decode cX0_hunterGoes 63 = .ok (.iload 6, 2) := by decide +kernel
theorem dX0_hunterGoes_65 : decode cX0_hunterGoes 65 = .ok (.iaload, 1) := by decide +kernel
theorem dX0_hunterGoes_66 : decode cX0_hunterGoes 66 = .ok (.istore 7, 2) := by decide +kernel
theorem dX0_hunterGoes_68 : decode cX0_hunterGoes 68 = .ok (.aload_n 0, 1) := by decide +kernel
theorem dX0_hunterGoes_69 : decode cX0_hunterGoes 69 = .ok (.getfield 29, 3) := by decide +kernel
theorem dX0_hunterGoes_72 : decode cX0_hunterGoes 72 = .ok (.iload 7, 2) := by decide +kernel
theorem dX0_hunterGoes_74 : decode cX0_hunterGoes 74 = .ok (.invokevirtual 55, 3) := by decide +kernel
theorem dX0_hunterGoes_77 : decode cX0_hunterGoes 77 = .ok (.aload_n 0, 1) := by decide +kernel
theorem dX0_hunterGoes_78 : decode cX0_hunterGoes 78 = .ok (.getfield 29, 3) := by decide +kernel
theorem dX0_hunterGoes_81 : decode cX0_hunterGoes 81 = .ok (.aload_n 0, 1) := by decide +kernel
theorem dX0_hunterGoes_82 : decode cX0_hunterGoes 82 = .ok (.getfield 29, 3) := by decide +kernel
theorem dX0_hunterGoes_85 : decode cX0_hunterGoes 85 = .ok (.getfield 61, 3) := by decide +kernel
theorem dX0_hunterGoes_88 : decode cX0_hunterGoes 88 = .ok (.invokevirtual 64, 3) := by decide +kernel
theorem dX0_hunterGoes_91 : decode cX0_hunterGoes 91 = .ok (.ifCond .eq 28, 3) := by decide +kernel
theorem dX0_hunterGoes_94 : decode cX0_hunterGoes 94 = .ok (.aload_n 0, 1) := by decide +kernel
theorem dX0_hunterGoes_95 : decode cX0_hunterGoes 95 = .ok (.getfield 25, 3) := by decide +kernel
theorem dX0_hunterGoes_98 : decode cX0_hunterGoes 98 = .ok (.iload 7, 2) := by decide +kernel
theorem dX0_hunterGoes_100 : decode cX0_hunterGoes 100 = .ok (.invokevirtual 68, 3) := by decide +kernel
theorem dX0_hunterGoes_103 : decode cX0_hunterGoes 103 = .ok (.ifCond .eq 16, 3) := by decide +kernel
theorem dX0_hunterGoes_106 : decode cX0_hunterGoes 106 = .ok (.aload_n 0, 1) := by decide +kernel
theorem dX0_hunterGoes_107 : decode cX0_hunterGoes 107 = .ok (.iload_n 1, 1) := by decide +kernel
theorem dX0_hunterGoes_108 : decode cX0_hunterGoes 108 = .ok (.iload 7, 2) := by decide +kernel
theorem dX0_hunterGoes_110 : decode cX0_hunterGoes 110 = .ok (.iload_n 2, 1) := by decide +kernel
theorem dX0_hunterGoes_111 : decode cX0_hunterGoes 111 = .ok (.iload_n 3, 1) := by decide +kernel
theorem dX0_hunterGoes_112 : decode cX0_hunterGoes 112 = .ok (.iconst 1, 1) := by decide +kernel
theorem dX0_hunterGoes_113 : decode cX0_hunterGoes 113 = .ok (.iadd, 1) := by decide +kernel
theorem dX0_hunterGoes_114 : decode cX0_hunterGoes 114 = .ok (.invokevirtual 71, 3) := by decide +kernel
theorem dX0_hunterGoes_117 : decode cX0_hunterGoes 117 = .ok (.istore 5, 2) := by decide +kernel
theorem dX0_hunterGoes_119 : decode cX0_hunterGoes 119 = .ok (.aload_n 0, 1) := by decide +kernel
theorem dX0_hunterGoes_120 : decode cX0_hunterGoes 120 = .ok (.getfield 29, 3) := by decide +kernel
theorem dX0_hunterGoes_123 : decode cX0_hunterGoes 123 = .ok (.iload 7, 2) := by decide +kernel
theorem dX0_hunterGoes_125 : decode cX0_hunterGoes 125 = .ok (.invokevirtual 75, 3) := by decide +kernel
theorem dX0_hunterGoes_128 : decode cX0_hunterGoes 128 = .ok (.iinc 6 1, 3) := by decide +kernel
theorem dX0_hunterGoes_131 : decode cX0_hunterGoes 131 = .ok (.goto (-94), 3) := by decide +kernel
theorem dX0_hunterGoes_134 : decode cX0_hunterGoes 134 = .ok (.iload 5, 2) := by decide +kernel
theorem dX0_hunterGoes_136 : decode cX0_hunterGoes 136 = .ok (.ireturn, 1) := by decide +kernel
theorem dX0_answersGo_0 : decode cX0_answersGo 0 = .ok (.aload_n 0, 1) := by decide +kernel
theorem dX0_answersGo_1 : decode cX0_answersGo 1 = .ok (.iload_n 2, 1) := by decide +kernel
theorem dX0_answersGo_2 : decode cX0_answersGo 2 = .ok (.iload_n 3, 1) := by decide +kernel
theorem dX0_answersGo_3 : decode cX0_answersGo 3 = .ok (.invokevirtual 78, 3) := by decide +kernel
theorem dX0_answersGo_6 : decode cX0_answersGo 6 = .ok (.istore 5, 2) := by decide +kernel
theorem dX0_answersGo_8 : decode cX0_answersGo 8 = .ok (.iload 5, 2) := by decide +kernel
theorem dX0_answersGo_10 : decode cX0_answersGo 10 = .ok (.ifCond .ge 5, 3) := by decide +kernel
theorem dX0_answersGo_13 : decode cX0_answersGo 13 = .ok (.iconst 0, 1) := by decide +kernel
theorem dX0_answersGo_14 : decode cX0_answersGo 14 = .ok (.ireturn, 1) := by decide +kernel
theorem dX0_answersGo_15 : decode cX0_answersGo 15 = .ok (.aload_n 0, 1) := by decide +kernel
theorem dX0_answersGo_16 : decode cX0_answersGo 16 = .ok (.getfield 25, 3) := by decide +kernel
theorem dX0_answersGo_19 : decode cX0_answersGo 19 = .ok (.iload 4, 2) := by decide +kernel
theorem dX0_answersGo_21 : decode cX0_answersGo 21 = .ok (.invokevirtual 45, 3) := by decide +kernel
theorem dX0_answersGo_24 : decode cX0_answersGo 24 = .ok (.istore 6, 2) := by decide +kernel
theorem dX0_answersGo_26 : decode cX0_answersGo 26 = .ok (.iconst 1, 1) := by decide +kernel
theorem dX0_answersGo_27 : decode cX0_answersGo 27 = .ok (.istore 7, 2) := by decide +kernel
theorem dX0_answersGo_29 : decode cX0_answersGo 29 = .ok (.aload_n 0, 1) := by decide +kernel
theorem dX0_answersGo_30 : decode cX0_answersGo 30 = .ok (.getfield 25, 3) := by decide +kernel
theorem dX0_answersGo_33 : decode cX0_answersGo 33 = .ok (.iload 4, 2) := by decide +kernel
theorem dX0_answersGo_35 : decode cX0_answersGo 35 = .ok (.invokevirtual 49, 3) := by decide +kernel
theorem dX0_answersGo_38 : decode cX0_answersGo 38 = .ok (.istore 8, 2) := by decide +kernel
theorem dX0_answersGo_40 : decode cX0_answersGo 40 = .ok (.iload 8, 2) := by decide +kernel
theorem dX0_answersGo_42 : decode cX0_answersGo 42 = .ok (.iload 6, 2) := by decide +kernel
theorem dX0_answersGo_44 : decode cX0_answersGo 44 = .ok (.if_icmp .ge 115, 3) := by decide +kernel
theorem dX0_answersGo_47 : decode cX0_answersGo 47 = .ok (.iload 7, 2) := by decide +kernel
theorem dX0_answersGo_49 : decode cX0_answersGo 49 = .ok (.ifCond .eq 110, 3) := by decide +kernel
theorem dX0_answersGo_52 : decode cX0_answersGo 52 = .ok (.aload_n 0, 1) := by decide +kernel
theorem dX0_answersGo_53 : decode cX0_answersGo 53 = .ok (.getfield 25, 3) := by decide +kernel
theorem dX0_answersGo_56 : decode cX0_answersGo 56 = .ok (.getfield 52, 3) := by decide +kernel
theorem dX0_answersGo_59 : decode cX0_answersGo 59 = .ok (.iload 8, 2) := by decide +kernel
theorem dX0_answersGo_61 : decode cX0_answersGo 61 = .ok (.iaload, 1) := by decide +kernel
theorem dX0_answersGo_62 : decode cX0_answersGo 62 = .ok (.istore 9, 2) := by decide +kernel
theorem dX0_answersGo_64 : decode cX0_answersGo 64 = .ok (.aload_n 0, 1) := by decide +kernel
theorem dX0_answersGo_65 : decode cX0_answersGo 65 = .ok (.getfield 29, 3) := by decide +kernel
theorem dX0_answersGo_68 : decode cX0_answersGo 68 = .ok (.iload 9, 2) := by decide +kernel
theorem dX0_answersGo_70 : decode cX0_answersGo 70 = .ok (.invokevirtual 55, 3) := by decide +kernel
theorem dX0_answersGo_73 : decode cX0_answersGo 73 = .ok (.aload_n 0, 1) := by decide +kernel
theorem dX0_answersGo_74 : decode cX0_answersGo 74 = .ok (.getfield 25, 3) := by decide +kernel
theorem dX0_answersGo_77 : decode cX0_answersGo 77 = .ok (.iload 9, 2) := by decide +kernel
theorem dX0_answersGo_79 : decode cX0_answersGo 79 = .ok (.invokevirtual 68, 3) := by decide +kernel
theorem dX0_answersGo_82 : decode cX0_answersGo 82 = .ok (.ifCond .eq 62, 3) := by decide +kernel
theorem dX0_answersGo_85 : decode cX0_answersGo 85 = .ok (.aload_n 0, 1) := by decide +kernel
theorem dX0_answersGo_86 : decode cX0_answersGo 86 = .ok (.iload 9, 2) := by decide +kernel
theorem dX0_answersGo_88 : decode cX0_answersGo 88 = .ok (.iload 5, 2) := by decide +kernel
theorem dX0_answersGo_90 : decode cX0_answersGo 90 = .ok (.invokevirtual 78, 3) := by decide +kernel
theorem dX0_answersGo_93 : decode cX0_answersGo 93 = .ok (.istore 10, 2) := by decide +kernel
theorem dX0_answersGo_95 : decode cX0_answersGo 95 = .ok (.iload 10, 2) := by decide +kernel
theorem dX0_answersGo_97 : decode cX0_answersGo 97 = .ok (.ifCond .lt 23, 3) := by decide +kernel
theorem dX0_answersGo_100 : decode cX0_answersGo 100 = .ok (.aload_n 0, 1) := by decide +kernel
theorem dX0_answersGo_101 : decode cX0_answersGo 101 = .ok (.iload_n 1, 1) := by decide +kernel
theorem dX0_answersGo_102 : decode cX0_answersGo 102 = .ok (.iconst 1, 1) := by decide +kernel
theorem dX0_answersGo_103 : decode cX0_answersGo 103 = .ok (.isub, 1) := by decide +kernel
theorem dX0_answersGo_104 : decode cX0_answersGo 104 = .ok (.iload 10, 2) := by decide +kernel
theorem dX0_answersGo_106 : decode cX0_answersGo 106 = .ok (.iload 4, 2) := by decide +kernel
theorem dX0_answersGo_108 : decode cX0_answersGo 108 = .ok (.iconst 1, 1) := by decide +kernel
theorem dX0_answersGo_109 : decode cX0_answersGo 109 = .ok (.iadd, 1) := by decide +kernel
theorem dX0_answersGo_110 : decode cX0_answersGo 110 = .ok (.invokevirtual 82, 3) := by decide +kernel
theorem dX0_answersGo_113 : decode cX0_answersGo 113 = .ok (.ifCond .eq 7, 3) := by decide +kernel
theorem dX0_answersGo_116 : decode cX0_answersGo 116 = .ok (.iconst 1, 1) := by decide +kernel
theorem dX0_answersGo_117 : decode cX0_answersGo 117 = .ok (.goto 4, 3) := by decide +kernel
theorem dX0_answersGo_120 : decode cX0_answersGo 120 = .ok (.iconst 0, 1) := by decide +kernel
theorem dX0_answersGo_121 : decode cX0_answersGo 121 = .ok (.istore 7, 2) := by decide +kernel
theorem dX0_answersGo_123 : decode cX0_answersGo 123 = .ok (.iload 7, 2) := by decide +kernel
theorem dX0_answersGo_125 : decode cX0_answersGo 125 = .ok (.ifCond .eq 19, 3) := by decide +kernel
theorem dX0_answersGo_128 : decode cX0_answersGo 128 = .ok (.aload_n 0, 1) := by decide +kernel
theorem dX0_answersGo_129 : decode cX0_answersGo 129 = .ok (.getfield 18, 3) := by decide +kernel
theorem dX0_answersGo_132 : decode cX0_answersGo 132 = .ok (.iload 10, 2) := by decide +kernel
theorem dX0_answersGo_134 : decode cX0_answersGo 134 = .ok (.aload_n 0, 1) := by decide +kernel
theorem dX0_answersGo_135 : decode cX0_answersGo 135 = .ok (.getfield 33, 3) := by decide +kernel
theorem dX0_answersGo_138 : decode cX0_answersGo 138 = .ok (.iload 10, 2) := by decide +kernel
theorem dX0_answersGo_140 : decode cX0_answersGo 140 = .ok (.isub, 1) := by decide +kernel
theorem dX0_answersGo_141 : decode cX0_answersGo 141 = .ok (.iconst 1, 1) := by decide +kernel
theorem dX0_answersGo_142 : decode cX0_answersGo 142 = .ok (.isub, 1) := by decide +kernel
theorem dX0_answersGo_143 : decode cX0_answersGo 143 = .ok (.iastore, 1) := by decide +kernel
theorem dX0_answersGo_144 : decode cX0_answersGo 144 = .ok (.aload_n 0, 1) := by decide +kernel
theorem dX0_answersGo_145 : decode cX0_answersGo 145 = .ok (.getfield 29, 3) := by decide +kernel
theorem dX0_answersGo_148 : decode cX0_answersGo 148 = .ok (.iload 9, 2) := by decide +kernel
theorem dX0_answersGo_150 : decode cX0_answersGo 150 = .ok (.invokevirtual 75, 3) := by decide +kernel
theorem dX0_answersGo_153 : decode cX0_answersGo 153 = .ok (.iinc 8 1, 3) := by decide +kernel
theorem dX0_answersGo_156 : decode cX0_answersGo 156 = .ok (.goto (-116), 3) := by decide +kernel
theorem dX0_answersGo_159 : decode cX0_answersGo 159 = .ok (.iload 7, 2) := by decide +kernel
theorem dX0_answersGo_161 : decode cX0_answersGo 161 = .ok (.ifCond .eq 22, 3) := by decide +kernel
theorem dX0_answersGo_164 : decode cX0_answersGo 164 = .ok (.aload_n 0, 1) := by decide +kernel
theorem dX0_answersGo_165 : decode cX0_answersGo 165 = .ok (.getfield 18, 3) := by decide +kernel
theorem dX0_answersGo_168 : decode cX0_answersGo 168 = .ok (.iload 5, 2) := by decide +kernel
theorem dX0_answersGo_170 : decode cX0_answersGo 170 = .ok (.aload_n 0, 1) := by decide +kernel
theorem dX0_answersGo_171 : decode cX0_answersGo 171 = .ok (.getfield 33, 3) := by decide +kernel
theorem dX0_answersGo_174 : decode cX0_answersGo 174 = .ok (.iload 5, 2) := by decide +kernel
theorem dX0_answersGo_176 : decode cX0_answersGo 176 = .ok (.isub, 1) := by decide +kernel
theorem dX0_answersGo_177 : decode cX0_answersGo 177 = .ok (.iconst 1, 1) := by decide +kernel
theorem dX0_answersGo_178 : decode cX0_answersGo 178 = .ok (.isub, 1) := by decide +kernel
theorem dX0_answersGo_179 : decode cX0_answersGo 179 = .ok (.iastore, 1) := by decide +kernel
theorem dX0_answersGo_180 : decode cX0_answersGo 180 = .ok (.goto 9, 3) := by decide +kernel
theorem dX0_answersGo_183 : decode cX0_answersGo 183 = .ok (.aload_n 0, 1) := by decide +kernel
theorem dX0_answersGo_184 : decode cX0_answersGo 184 = .ok (.iload 5, 2) := by decide +kernel
theorem dX0_answersGo_186 : decode cX0_answersGo 186 = .ok (.putfield 33, 3) := by decide +kernel
theorem dX0_answersGo_189 : decode cX0_answersGo 189 = .ok (.iload 7, 2) := by decide +kernel
theorem dX0_answersGo_191 : decode cX0_answersGo 191 = .ok (.ireturn, 1) := by decide +kernel
theorem dX0_addNode_0 : decode cX0_addNode 0 = .ok (.aload_n 0, 1) := by decide +kernel
theorem dX0_addNode_1 : decode cX0_addNode 1 = .ok (.getfield 36, 3) := by decide +kernel
theorem dX0_addNode_4 : decode cX0_addNode 4 = .ok (.aload_n 0, 1) := by decide +kernel
theorem dX0_addNode_5 : decode cX0_addNode 5 = .ok (.getfield 21, 3) := by decide +kernel
theorem dX0_addNode_8 : decode cX0_addNode 8 = .ok (.if_icmp .lt 10, 3) := by decide +kernel
theorem dX0_addNode_11 : decode cX0_addNode 11 = .ok (.aload_n 0, 1) := by decide +kernel
theorem dX0_addNode_12 : decode cX0_addNode 12 = .ok (.iconst 1, 1) := by decide +kernel
theorem dX0_addNode_13 : decode cX0_addNode 13 = .ok (.putfield 39, 3) := by decide +kernel
theorem dX0_addNode_16 : decode cX0_addNode 16 = .ok (.iconst (-1), 1) := by decide +kernel
theorem dX0_addNode_17 : decode cX0_addNode 17 = .ok (.ireturn, 1) := by decide +kernel
theorem dX0_addNode_18 : decode cX0_addNode 18 = .ok (.aload_n 0, 1) := by decide +kernel
theorem dX0_addNode_19 : decode cX0_addNode 19 = .ok (.dup, 1) := by decide +kernel
theorem dX0_addNode_20 : decode cX0_addNode 20 = .ok (.getfield 36, 3) := by decide +kernel
theorem dX0_addNode_23 : decode cX0_addNode 23 = .ok (.iconst 1, 1) := by decide +kernel
theorem dX0_addNode_24 : decode cX0_addNode 24 = .ok (.iadd, 1) := by decide +kernel
theorem dX0_addNode_25 : decode cX0_addNode 25 = .ok (.putfield 36, 3) := by decide +kernel
theorem dX0_addNode_28 : decode cX0_addNode 28 = .ok (.aload_n 0, 1) := by decide +kernel
theorem dX0_addNode_29 : decode cX0_addNode 29 = .ok (.getfield 9, 3) := by decide +kernel
theorem dX0_addNode_32 : decode cX0_addNode 32 = .ok (.aload_n 0, 1) := by decide +kernel
theorem dX0_addNode_33 : decode cX0_addNode 33 = .ok (.getfield 33, 3) := by decide +kernel
theorem dX0_addNode_36 : decode cX0_addNode 36 = .ok (.iload_n 1, 1) := by decide +kernel
theorem dX0_addNode_37 : decode cX0_addNode 37 = .ok (.ldc 88, 2) := by decide +kernel
theorem dX0_addNode_39 : decode cX0_addNode 39 = .ok (.iand, 1) := by decide +kernel
theorem dX0_addNode_40 : decode cX0_addNode 40 = .ok (.iastore, 1) := by decide +kernel
theorem dX0_addNode_41 : decode cX0_addNode 41 = .ok (.aload_n 0, 1) := by decide +kernel
theorem dX0_addNode_42 : decode cX0_addNode 42 = .ok (.getfield 15, 3) := by decide +kernel
theorem dX0_addNode_45 : decode cX0_addNode 45 = .ok (.aload_n 0, 1) := by decide +kernel
theorem dX0_addNode_46 : decode cX0_addNode 46 = .ok (.getfield 33, 3) := by decide +kernel
theorem dX0_addNode_49 : decode cX0_addNode 49 = .ok (.iload_n 2, 1) := by decide +kernel
theorem dX0_addNode_50 : decode cX0_addNode 50 = .ok (.iastore, 1) := by decide +kernel
theorem dX0_addNode_51 : decode cX0_addNode 51 = .ok (.aload_n 0, 1) := by decide +kernel
theorem dX0_addNode_52 : decode cX0_addNode 52 = .ok (.dup, 1) := by decide +kernel
theorem dX0_addNode_53 : decode cX0_addNode 53 = .ok (.getfield 33, 3) := by decide +kernel
theorem dX0_addNode_56 : decode cX0_addNode 56 = .ok (.dup_x1, 1) := by decide +kernel
theorem dX0_addNode_57 : decode cX0_addNode 57 = .ok (.iconst 1, 1) := by decide +kernel
theorem dX0_addNode_58 : decode cX0_addNode 58 = .ok (.iadd, 1) := by decide +kernel
theorem dX0_addNode_59 : decode cX0_addNode 59 = .ok (.putfield 33, 3) := by decide +kernel
theorem dX0_addNode_62 : decode cX0_addNode 62 = .ok (.ireturn, 1) := by decide +kernel
theorem dX0_depthOf_0 : decode cX0_depthOf 0 = .ok (.iconst 0, 1) := by decide +kernel
theorem dX0_depthOf_1 : decode cX0_depthOf 1 = .ok (.istore_n 2, 1) := by decide +kernel
theorem dX0_depthOf_2 : decode cX0_depthOf 2 = .ok (.aload_n 0, 1) := by decide +kernel
theorem dX0_depthOf_3 : decode cX0_depthOf 3 = .ok (.getfield 15, 3) := by decide +kernel
theorem dX0_depthOf_6 : decode cX0_depthOf 6 = .ok (.iload_n 1, 1) := by decide +kernel
theorem dX0_depthOf_7 : decode cX0_depthOf 7 = .ok (.iaload, 1) := by decide +kernel
theorem dX0_depthOf_8 : decode cX0_depthOf 8 = .ok (.istore_n 3, 1) := by decide +kernel
theorem dX0_depthOf_9 : decode cX0_depthOf 9 = .ok (.iload_n 3, 1) := by decide +kernel
theorem dX0_depthOf_10 : decode cX0_depthOf 10 = .ok (.ifCond .lt 24, 3) := by decide +kernel
theorem dX0_depthOf_13 : decode cX0_depthOf 13 = .ok (.iload_n 2, 1) := by decide +kernel
theorem dX0_depthOf_14 : decode cX0_depthOf 14 = .ok (.aload_n 0, 1) := by decide +kernel
theorem dX0_depthOf_15 : decode cX0_depthOf 15 = .ok (.getfield 33, 3) := by decide +kernel
theorem dX0_depthOf_18 : decode cX0_depthOf 18 = .ok (.if_icmp .ge 16, 3) := by decide +kernel
theorem dX0_depthOf_21 : decode cX0_depthOf 21 = .ok (.iinc 2 1, 3) := by decide +kernel
theorem dX0_depthOf_24 : decode cX0_depthOf 24 = .ok (.aload_n 0, 1) := by decide +kernel
theorem dX0_depthOf_25 : decode cX0_depthOf 25 = .ok (.getfield 15, 3) := by decide +kernel
theorem dX0_depthOf_28 : decode cX0_depthOf 28 = .ok (.iload_n 3, 1) := by decide +kernel
theorem dX0_depthOf_29 : decode cX0_depthOf 29 = .ok (.iaload, 1) := by decide +kernel
theorem dX0_depthOf_30 : decode cX0_depthOf 30 = .ok (.istore_n 3, 1) := by decide +kernel
theorem dX0_depthOf_31 : decode cX0_depthOf 31 = .ok (.goto (-22), 3) := by decide +kernel
theorem dX0_depthOf_34 : decode cX0_depthOf 34 = .ok (.iload_n 2, 1) := by decide +kernel
theorem dX0_depthOf_35 : decode cX0_depthOf 35 = .ok (.ireturn, 1) := by decide +kernel
theorem dX0_firstFault_0 : decode cX0_firstFault 0 = .ok (.iload_n 1, 1) := by decide +kernel
theorem dX0_firstFault_1 : decode cX0_firstFault 1 = .ok (.aload_n 0, 1) := by decide +kernel
theorem dX0_firstFault_2 : decode cX0_firstFault 2 = .ok (.getfield 33, 3) := by decide +kernel
theorem dX0_firstFault_5 : decode cX0_firstFault 5 = .ok (.if_icmp .ge 9, 3) := by decide +kernel
theorem dX0_firstFault_8 : decode cX0_firstFault 8 = .ok (.iload_n 2, 1) := by decide +kernel
theorem dX0_firstFault_9 : decode cX0_firstFault 9 = .ok (.bipush 10, 2) := by decide +kernel
theorem dX0_firstFault_11 : decode cX0_firstFault 11 = .ok (.if_icmp .lt 7, 3) := by decide +kernel
theorem dX0_firstFault_14 : decode cX0_firstFault 14 = .ok (.iload_n 1, 1) := by decide +kernel
theorem dX0_firstFault_15 : decode cX0_firstFault 15 = .ok (.iconst 1, 1) := by decide +kernel
theorem dX0_firstFault_16 : decode cX0_firstFault 16 = .ok (.iadd, 1) := by decide +kernel
theorem dX0_firstFault_17 : decode cX0_firstFault 17 = .ok (.ireturn, 1) := by decide +kernel
theorem dX0_firstFault_18 : decode cX0_firstFault 18 = .ok (.aload_n 0, 1) := by decide +kernel
theorem dX0_firstFault_19 : decode cX0_firstFault 19 = .ok (.getfield 9, 3) := by decide +kernel
theorem dX0_firstFault_22 : decode cX0_firstFault 22 = .ok (.iload_n 1, 1) := by decide +kernel
theorem dX0_firstFault_23 : decode cX0_firstFault 23 = .ok (.iaload, 1) := by decide +kernel
theorem dX0_firstFault_24 : decode cX0_firstFault 24 = .ok (.istore_n 3, 1) := by decide +kernel
theorem dX0_firstFault_25 : decode cX0_firstFault 25 = .ok (.aload_n 0, 1) := by decide +kernel
theorem dX0_firstFault_26 : decode cX0_firstFault 26 = .ok (.getfield 25, 3) := by decide +kernel
theorem dX0_firstFault_29 : decode cX0_firstFault 29 = .ok (.iload_n 3, 1) := by decide +kernel
theorem dX0_firstFault_30 : decode cX0_firstFault 30 = .ok (.invokevirtual 89, 3) := by decide +kernel
theorem dX0_firstFault_33 : decode cX0_firstFault 33 = .ok (.ifCond .eq 7, 3) := by decide +kernel
theorem dX0_firstFault_36 : decode cX0_firstFault 36 = .ok (.iload_n 1, 1) := by decide +kernel
theorem dX0_firstFault_37 : decode cX0_firstFault 37 = .ok (.iconst 1, 1) := by decide +kernel
theorem dX0_firstFault_38 : decode cX0_firstFault 38 = .ok (.iadd, 1) := by decide +kernel
theorem dX0_firstFault_39 : decode cX0_firstFault 39 = .ok (.ireturn, 1) := by decide +kernel
theorem dX0_firstFault_40 : decode cX0_firstFault 40 = .ok (.aload_n 0, 1) := by decide +kernel
theorem dX0_firstFault_41 : decode cX0_firstFault 41 = .ok (.getfield 29, 3) := by decide +kernel
theorem dX0_firstFault_44 : decode cX0_firstFault 44 = .ok (.iload_n 3, 1) := by decide +kernel
theorem dX0_firstFault_45 : decode cX0_firstFault 45 = .ok (.invokevirtual 92, 3) := by decide +kernel
theorem dX0_firstFault_48 : decode cX0_firstFault 48 = .ok (.istore 4, 2) := by decide +kernel
theorem dX0_firstFault_50 : decode cX0_firstFault 50 = .ok (.aload_n 0, 1) := by decide +kernel
theorem dX0_firstFault_51 : decode cX0_firstFault 51 = .ok (.getfield 29, 3) := by decide +kernel
theorem dX0_firstFault_54 : decode cX0_firstFault 54 = .ok (.iload 4, 2) := by decide +kernel
theorem dX0_firstFault_56 : decode cX0_firstFault 56 = .ok (.invokevirtual 55, 3) := by decide +kernel
theorem dX0_firstFault_59 : decode cX0_firstFault 59 = .ok (.aload_n 0, 1) := by decide +kernel
theorem dX0_firstFault_60 : decode cX0_firstFault 60 = .ok (.getfield 29, 3) := by decide +kernel
theorem dX0_firstFault_63 : decode cX0_firstFault 63 = .ok (.aload_n 0, 1) := by decide +kernel
theorem dX0_firstFault_64 : decode cX0_firstFault 64 = .ok (.getfield 29, 3) := by decide +kernel
theorem dX0_firstFault_67 : decode cX0_firstFault 67 = .ok (.getfield 61, 3) := by decide +kernel
theorem dX0_firstFault_70 : decode cX0_firstFault 70 = .ok (.invokevirtual 64, 3) := by decide +kernel
theorem dX0_firstFault_73 : decode cX0_firstFault 73 = .ok (.ifCond .eq 12, 3) := by decide +kernel
theorem dX0_firstFault_76 : decode cX0_firstFault 76 = .ok (.aload_n 0, 1) := by decide +kernel
theorem dX0_firstFault_77 : decode cX0_firstFault 77 = .ok (.iload_n 1, 1) := by decide +kernel
theorem dX0_firstFault_78 : decode cX0_firstFault 78 = .ok (.iload_n 2, 1) := by decide +kernel
theorem dX0_firstFault_79 : decode cX0_firstFault 79 = .ok (.invokevirtual 95, 3) := by decide +kernel
theorem dX0_firstFault_82 : decode cX0_firstFault 82 = .ok (.goto 6, 3) := by decide +kernel
theorem dX0_firstFault_85 : decode cX0_firstFault 85 = .ok (.iload_n 1, 1) := by decide +kernel
theorem dX0_firstFault_86 : decode cX0_firstFault 86 = .ok (.iconst 1, 1) := by decide +kernel
theorem dX0_firstFault_87 : decode cX0_firstFault 87 = .ok (.iadd, 1) := by decide +kernel
theorem dX0_firstFault_88 : decode cX0_firstFault 88 = .ok (.istore 5, 2) := by decide +kernel
theorem dX0_firstFault_90 : decode cX0_firstFault 90 = .ok (.aload_n 0, 1) := by decide +kernel
theorem dX0_firstFault_91 : decode cX0_firstFault 91 = .ok (.getfield 29, 3) := by decide +kernel
theorem dX0_firstFault_94 : decode cX0_firstFault 94 = .ok (.iload 4, 2) := by decide +kernel
theorem dX0_firstFault_96 : decode cX0_firstFault 96 = .ok (.invokevirtual 75, 3) := by decide +kernel
theorem dX0_firstFault_99 : decode cX0_firstFault 99 = .ok (.iload 5, 2) := by decide +kernel
theorem dX0_firstFault_101 : decode cX0_firstFault 101 = .ok (.ireturn, 1) := by decide +kernel
theorem dX0_faultInAnswers_0 : decode cX0_faultInAnswers 0 = .ok (.aload_n 0, 1) := by decide +kernel
theorem dX0_faultInAnswers_1 : decode cX0_faultInAnswers 1 = .ok (.getfield 25, 3) := by decide +kernel
theorem dX0_faultInAnswers_4 : decode cX0_faultInAnswers 4 = .ok (.iload_n 2, 1) := by decide +kernel
theorem dX0_faultInAnswers_5 : decode cX0_faultInAnswers 5 = .ok (.invokevirtual 98, 3) := by decide +kernel
theorem dX0_faultInAnswers_8 : decode cX0_faultInAnswers 8 = .ok (.istore_n 3, 1) := by decide +kernel
theorem dX0_faultInAnswers_9 : decode cX0_faultInAnswers 9 = .ok (.iload_n 3, 1) := by decide +kernel
theorem dX0_faultInAnswers_10 : decode cX0_faultInAnswers 10 = .ok (.aload_n 0, 1) := by decide +kernel
theorem dX0_faultInAnswers_11 : decode cX0_faultInAnswers 11 = .ok (.iload_n 1, 1) := by decide +kernel
theorem dX0_faultInAnswers_12 : decode cX0_faultInAnswers 12 = .ok (.invokevirtual 101, 3) := by decide +kernel
theorem dX0_faultInAnswers_15 : decode cX0_faultInAnswers 15 = .ok (.if_icmp .eq 7, 3) := by decide +kernel
theorem dX0_faultInAnswers_18 : decode cX0_faultInAnswers 18 = .ok (.iload_n 1, 1) := by decide +kernel
theorem dX0_faultInAnswers_19 : decode cX0_faultInAnswers 19 = .ok (.iconst 1, 1) := by decide +kernel
theorem dX0_faultInAnswers_20 : decode cX0_faultInAnswers 20 = .ok (.iadd, 1) := by decide +kernel
theorem dX0_faultInAnswers_21 : decode cX0_faultInAnswers 21 = .ok (.ireturn, 1) := by decide +kernel
theorem dX0_faultInAnswers_22 : decode cX0_faultInAnswers 22 = .ok (.iload_n 1, 1) := by decide +kernel
theorem dX0_faultInAnswers_23 : decode cX0_faultInAnswers 23 = .ok (.iconst 1, 1) := by decide +kernel
theorem dX0_faultInAnswers_24 : decode cX0_faultInAnswers 24 = .ok (.iadd, 1) := by decide +kernel
theorem dX0_faultInAnswers_25 : decode cX0_faultInAnswers 25 = .ok (.istore 4, 2) := by decide +kernel
theorem dX0_faultInAnswers_27 : decode cX0_faultInAnswers 27 = .ok (.iconst 0, 1) := by decide +kernel
theorem dX0_faultInAnswers_28 : decode cX0_faultInAnswers 28 = .ok (.istore 5, 2) := by decide +kernel
theorem dX0_faultInAnswers_30 : decode cX0_faultInAnswers 30 = .ok (.iload 5, 2) := by decide +kernel
theorem dX0_faultInAnswers_32 : decode cX0_faultInAnswers 32 = .ok (.iload_n 3, 1) := by decide +kernel
theorem dX0_faultInAnswers_33 : decode cX0_faultInAnswers 33 = .ok (.if_icmp .ge 94, 3) := by decide +kernel
theorem dX0_faultInAnswers_36 : decode cX0_faultInAnswers 36 = .ok (.aload_n 0, 1) := by decide +kernel
theorem dX0_faultInAnswers_37 : decode cX0_faultInAnswers 37 = .ok (.getfield 25, 3) := by decide +kernel
theorem dX0_faultInAnswers_40 : decode cX0_faultInAnswers 40 = .ok (.iload_n 2, 1) := by decide +kernel
theorem dX0_faultInAnswers_41 : decode cX0_faultInAnswers 41 = .ok (.iload 5, 2) := by decide +kernel
theorem dX0_faultInAnswers_43 : decode cX0_faultInAnswers 43 = .ok (.invokevirtual 104, 3) := by decide +kernel
theorem dX0_faultInAnswers_46 : decode cX0_faultInAnswers 46 = .ok (.istore 6, 2) := by decide +kernel
theorem dX0_faultInAnswers_48 : decode cX0_faultInAnswers 48 = .ok (.aload_n 0, 1) := by decide +kernel
theorem dX0_faultInAnswers_49 : decode cX0_faultInAnswers 49 = .ok (.getfield 9, 3) := by decide +kernel
theorem dX0_faultInAnswers_52 : decode cX0_faultInAnswers 52 = .ok (.iload 4, 2) := by decide +kernel
theorem dX0_faultInAnswers_54 : decode cX0_faultInAnswers 54 = .ok (.iaload, 1) := by decide +kernel
theorem dX0_faultInAnswers_55 : decode cX0_faultInAnswers 55 = .ok (.iload 6, 2) := by decide +kernel
theorem dX0_faultInAnswers_57 : decode cX0_faultInAnswers 57 = .ok (.ldc 88, 2) := by decide +kernel
theorem dX0_faultInAnswers_59 : decode cX0_faultInAnswers 59 = .ok (.iand, 1) := by decide +kernel
theorem dX0_faultInAnswers_60 : decode cX0_faultInAnswers 60 = .ok (.if_icmp .eq 8, 3) := by decide +kernel
theorem dX0_faultInAnswers_63 : decode cX0_faultInAnswers 63 = .ok (.iload 4, 2) := by decide +kernel
theorem dX0_faultInAnswers_65 : decode cX0_faultInAnswers 65 = .ok (.iconst 1, 1) := by decide +kernel
theorem dX0_faultInAnswers_66 : decode cX0_faultInAnswers 66 = .ok (.iadd, 1) := by decide +kernel
theorem dX0_faultInAnswers_67 : decode cX0_faultInAnswers 67 = .ok (.ireturn, 1) := by decide +kernel
theorem dX0_faultInAnswers_68 : decode cX0_faultInAnswers 68 = .ok (.aload_n 0, 1) := by decide +kernel
theorem dX0_faultInAnswers_69 : decode cX0_faultInAnswers 69 = .ok (.getfield 29, 3) := by decide +kernel
theorem dX0_faultInAnswers_72 : decode cX0_faultInAnswers 72 = .ok (.iload 6, 2) := by decide +kernel
theorem dX0_faultInAnswers_74 : decode cX0_faultInAnswers 74 = .ok (.invokevirtual 55, 3) := by decide +kernel
theorem dX0_faultInAnswers_77 : decode cX0_faultInAnswers 77 = .ok (.aload_n 0, 1) := by decide +kernel
theorem dX0_faultInAnswers_78 : decode cX0_faultInAnswers 78 = .ok (.iload 4, 2) := by decide +kernel
theorem dX0_faultInAnswers_80 : decode cX0_faultInAnswers 80 = .ok (.iconst 1, 1) := by decide +kernel
theorem dX0_faultInAnswers_81 : decode cX0_faultInAnswers 81 = .ok (.iadd, 1) := by decide +kernel
theorem dX0_faultInAnswers_82 : decode cX0_faultInAnswers 82 = .ok (.iload_n 2, 1) := by decide +kernel
theorem dX0_faultInAnswers_83 : decode cX0_faultInAnswers 83 = .ok (.iconst 1, 1) := by decide +kernel
theorem dX0_faultInAnswers_84 : decode cX0_faultInAnswers 84 = .ok (.iadd, 1) := by decide +kernel
theorem dX0_faultInAnswers_85 : decode cX0_faultInAnswers 85 = .ok (.invokevirtual 107, 3) := by decide +kernel
theorem dX0_faultInAnswers_88 : decode cX0_faultInAnswers 88 = .ok (.istore 7, 2) := by decide +kernel
theorem dX0_faultInAnswers_90 : decode cX0_faultInAnswers 90 = .ok (.aload_n 0, 1) := by decide +kernel
theorem dX0_faultInAnswers_91 : decode cX0_faultInAnswers 91 = .ok (.getfield 29, 3) := by decide +kernel
theorem dX0_faultInAnswers_94 : decode cX0_faultInAnswers 94 = .ok (.iload 6, 2) := by decide +kernel
theorem dX0_faultInAnswers_96 : decode cX0_faultInAnswers 96 = .ok (.invokevirtual 75, 3) := by decide +kernel
theorem dX0_faultInAnswers_99 : decode cX0_faultInAnswers 99 = .ok (.iload 7, 2) := by decide +kernel
theorem dX0_faultInAnswers_101 : decode cX0_faultInAnswers 101 = .ok (.ifCond .eq 6, 3) := by decide +kernel
theorem dX0_faultInAnswers_104 : decode cX0_faultInAnswers 104 = .ok (.iload 7, 2) := by decide +kernel
theorem dX0_faultInAnswers_106 : decode cX0_faultInAnswers 106 = .ok (.ireturn, 1) := by decide +kernel
theorem dX0_faultInAnswers_107 : decode cX0_faultInAnswers 107 = .ok (.iload 4, 2) := by decide +kernel
theorem dX0_faultInAnswers_109 : decode cX0_faultInAnswers 109 = .ok (.iconst 1, 1) := by decide +kernel
theorem dX0_faultInAnswers_110 : decode cX0_faultInAnswers 110 = .ok (.aload_n 0, 1) := by decide +kernel
theorem dX0_faultInAnswers_111 : decode cX0_faultInAnswers 111 = .ok (.getfield 18, 3) := by decide +kernel
theorem dX0_faultInAnswers_114 : decode cX0_faultInAnswers 114 = .ok (.iload 4, 2) := by decide +kernel
theorem dX0_faultInAnswers_116 : decode cX0_faultInAnswers 116 = .ok (.iaload, 1) := by decide +kernel
theorem dX0_faultInAnswers_117 : decode cX0_faultInAnswers 117 = .ok (.iadd, 1) := by decide +kernel
theorem dX0_faultInAnswers_118 : decode cX0_faultInAnswers 118 = .ok (.iadd, 1) := by decide +kernel
theorem dX0_faultInAnswers_119 : decode cX0_faultInAnswers 119 = .ok (.istore 4, 2) := by decide +kernel
theorem dX0_faultInAnswers_121 : decode cX0_faultInAnswers 121 = .ok (.iinc 5 1, 3) := by decide +kernel
theorem dX0_faultInAnswers_124 : decode cX0_faultInAnswers 124 = .ok (.goto (-94), 3) := by decide +kernel
theorem dX0_faultInAnswers_127 : decode cX0_faultInAnswers 127 = .ok (.iconst 0, 1) := by decide +kernel
theorem dX0_faultInAnswers_128 : decode cX0_faultInAnswers 128 = .ok (.ireturn, 1) := by decide +kernel
theorem dX0_answersIn_0 : decode cX0_answersIn 0 = .ok (.iconst 0, 1) := by decide +kernel
theorem dX0_answersIn_1 : decode cX0_answersIn 1 = .ok (.istore_n 2, 1) := by decide +kernel
theorem dX0_answersIn_2 : decode cX0_answersIn 2 = .ok (.iload_n 1, 1) := by decide +kernel
theorem dX0_answersIn_3 : decode cX0_answersIn 3 = .ok (.iconst 1, 1) := by decide +kernel
theorem dX0_answersIn_4 : decode cX0_answersIn 4 = .ok (.iadd, 1) := by decide +kernel
theorem dX0_answersIn_5 : decode cX0_answersIn 5 = .ok (.aload_n 0, 1) := by decide +kernel
theorem dX0_answersIn_6 : decode cX0_answersIn 6 = .ok (.getfield 18, 3) := by decide +kernel
theorem dX0_answersIn_9 : decode cX0_answersIn 9 = .ok (.iload_n 1, 1) := by decide +kernel
theorem dX0_answersIn_10 : decode cX0_answersIn 10 = .ok (.iaload, 1) := by decide +kernel
theorem dX0_answersIn_11 : decode cX0_answersIn 11 = .ok (.iadd, 1) := by decide +kernel
theorem dX0_answersIn_12 : decode cX0_answersIn 12 = .ok (.istore_n 3, 1) := by decide +kernel
theorem dX0_answersIn_13 : decode cX0_answersIn 13 = .ok (.iload_n 1, 1) := by decide +kernel
theorem dX0_answersIn_14 : decode cX0_answersIn 14 = .ok (.iconst 1, 1) := by decide +kernel
theorem dX0_answersIn_15 : decode cX0_answersIn 15 = .ok (.iadd, 1) := by decide +kernel
theorem dX0_answersIn_16 : decode cX0_answersIn 16 = .ok (.istore 4, 2) := by decide +kernel
theorem dX0_answersIn_18 : decode cX0_answersIn 18 = .ok (.iload 4, 2) := by decide +kernel
theorem dX0_answersIn_20 : decode cX0_answersIn 20 = .ok (.iload_n 3, 1) := by decide +kernel
theorem dX0_answersIn_21 : decode cX0_answersIn 21 = .ok (.if_icmp .ge 23, 3) := by decide +kernel
theorem dX0_answersIn_24 : decode cX0_answersIn 24 = .ok (.iinc 2 1, 3) := by decide +kernel
theorem dX0_answersIn_27 : decode cX0_answersIn 27 = .ok (.iload 4, 2) := by decide +kernel
theorem dX0_answersIn_29 : decode cX0_answersIn 29 = .ok (.iconst 1, 1) := by decide +kernel
theorem dX0_answersIn_30 : decode cX0_answersIn 30 = .ok (.aload_n 0, 1) := by decide +kernel
theorem dX0_answersIn_31 : decode cX0_answersIn 31 = .ok (.getfield 18, 3) := by decide +kernel
theorem dX0_answersIn_34 : decode cX0_answersIn 34 = .ok (.iload 4, 2) := by decide +kernel
theorem dX0_answersIn_36 : decode cX0_answersIn 36 = .ok (.iaload, 1) := by decide +kernel
theorem dX0_answersIn_37 : decode cX0_answersIn 37 = .ok (.iadd, 1) := by decide +kernel
theorem dX0_answersIn_38 : decode cX0_answersIn 38 = .ok (.iadd, 1) := by decide +kernel
theorem dX0_answersIn_39 : decode cX0_answersIn 39 = .ok (.istore 4, 2) := by decide +kernel
theorem dX0_answersIn_41 : decode cX0_answersIn 41 = .ok (.goto (-23), 3) := by decide +kernel
theorem dX0_answersIn_44 : decode cX0_answersIn 44 = .ok (.iload_n 2, 1) := by decide +kernel
theorem dX0_answersIn_45 : decode cX0_answersIn 45 = .ok (.ireturn, 1) := by decide +kernel
theorem dX1_init_0 : decode cX1_init 0 = .ok (.aload_n 0, 1) := by decide +kernel
theorem dX1_init_1 : decode cX1_init 1 = .ok (.invokespecial 3, 3) := by decide +kernel
theorem dX1_init_4 : decode cX1_init 4 = .ok (.aload_n 0, 1) := by decide +kernel
theorem dX1_init_5 : decode cX1_init 5 = .ok (.iload_n 1, 1) := by decide +kernel
theorem dX1_init_6 : decode cX1_init 6 = .ok (.putfield 9, 3) := by decide +kernel
theorem dX1_init_9 : decode cX1_init 9 = .ok (.aload_n 0, 1) := by decide +kernel
theorem dX1_init_10 : decode cX1_init 10 = .ok (.iload_n 1, 1) := by decide +kernel
theorem dX1_init_11 : decode cX1_init 11 = .ok (.newarray .int, 2) := by decide +kernel
theorem dX1_init_13 : decode cX1_init 13 = .ok (.putfield 15, 3) := by decide +kernel
theorem dX1_init_16 : decode cX1_init 16 = .ok (.aload_n 0, 1) := by decide +kernel
theorem dX1_init_17 : decode cX1_init 17 = .ok (.iload_n 1, 1) := by decide +kernel
theorem dX1_init_18 : decode cX1_init 18 = .ok (.newarray .int, 2) := by decide +kernel
theorem dX1_init_20 : decode cX1_init 20 = .ok (.putfield 19, 3) := by decide +kernel
theorem dX1_init_23 : decode cX1_init 23 = .ok (.aload_n 0, 1) := by decide +kernel
theorem dX1_init_24 : decode cX1_init 24 = .ok (.iload_n 1, 1) := by decide +kernel
theorem dX1_init_25 : decode cX1_init 25 = .ok (.bipush 12, 2) := by decide +kernel
theorem dX1_init_27 : decode cX1_init 27 = .ok (.multianewarray 22 2, 4) := by decide +kernel
theorem dX1_init_31 : decode cX1_init 31 = .ok (.putfield 24, 3) := by decide +kernel
theorem dX1_init_34 : decode cX1_init 34 = .ok (.iconst 0, 1) := by decide +kernel
theorem dX1_init_35 : decode cX1_init 35 = .ok (.istore_n 2, 1) := by decide +kernel
theorem dX1_init_36 : decode cX1_init 36 = .ok (.iload_n 2, 1) := by decide +kernel
theorem dX1_init_37 : decode cX1_init 37 = .ok (.iload_n 1, 1) := by decide +kernel
theorem dX1_init_38 : decode cX1_init 38 = .ok (.if_icmp .ge 16, 3) := by decide +kernel
theorem dX1_init_41 : decode cX1_init 41 = .ok (.aload_n 0, 1) := by decide +kernel
theorem dX1_init_42 : decode cX1_init 42 = .ok (.getfield 19, 3) := by decide +kernel
theorem dX1_init_45 : decode cX1_init 45 = .ok (.iload_n 2, 1) := by decide +kernel
theorem dX1_init_46 : decode cX1_init 46 = .ok (.iconst (-1), 1) := by decide +kernel
theorem dX1_init_47 : decode cX1_init 47 = .ok (.iastore, 1) := by decide +kernel
theorem dX1_init_48 : decode cX1_init 48 = .ok (.iinc 2 1, 3) := by decide +kernel
theorem dX1_init_51 : decode cX1_init 51 = .ok (.goto (-15), 3) := by decide +kernel
theorem dX1_init_54 : decode cX1_init 54 = .ok (.return_, 1) := by decide +kernel
theorem dX1_isForm_0 : decode cX1_isForm 0 = .ok (.iload_n 0, 1) := by decide +kernel
theorem dX1_isForm_1 : decode cX1_isForm 1 = .ok (.ifCond .lt 12, 3) := by decide +kernel
theorem dX1_isForm_4 : decode cX1_isForm 4 = .ok (.iload_n 0, 1) := by decide +kernel
theorem dX1_isForm_5 : decode cX1_isForm 5 = .ok (.iconst 2, 1) := by decide +kernel
theorem dX1_isForm_6 : decode cX1_isForm 6 = .ok (.if_icmp .gt 7, 3) := by decide +kernel
theorem dX1_isForm_9 : decode cX1_isForm 9 = .ok (.iconst 1, 1) := by decide +kernel
theorem dX1_isForm_10 : decode cX1_isForm 10 = .ok (.goto 4, 3) := by decide +kernel
theorem dX1_isForm_13 : decode cX1_isForm 13 = .ok (.iconst 0, 1) := by decide +kernel
theorem dX1_isForm_14 : decode cX1_isForm 14 = .ok (.ireturn, 1) := by decide +kernel
theorem dX1_narrowed_0 : decode cX1_narrowed 0 = .ok (.iload_n 0, 1) := by decide +kernel
theorem dX1_narrowed_1 : decode cX1_narrowed 1 = .ok (.ifCond .ne 6, 3) := by decide +kernel
theorem dX1_narrowed_4 : decode cX1_narrowed 4 = .ok (.iload_n 1, 1) := by decide +kernel
theorem dX1_narrowed_5 : decode cX1_narrowed 5 = .ok (.i2b, 1) := by decide +kernel
theorem dX1_narrowed_6 : decode cX1_narrowed 6 = .ok (.ireturn, 1) := by decide +kernel
theorem dX1_narrowed_7 : decode cX1_narrowed 7 = .ok (.iload_n 0, 1) := by decide +kernel
theorem dX1_narrowed_8 : decode cX1_narrowed 8 = .ok (.iconst 1, 1) := by decide +kernel
theorem dX1_narrowed_9 : decode cX1_narrowed 9 = .ok (.if_icmp .ne 8, 3) := by decide +kernel
theorem dX1_narrowed_12 : decode cX1_narrowed 12 = .ok (.iload_n 1, 1) := by decide +kernel
theorem dX1_narrowed_13 : decode cX1_narrowed 13 = .ok (.i2c, 1) := by decide +kernel
theorem dX1_narrowed_14 : decode cX1_narrowed 14 = .ok (.goto 5, 3) := by decide +kernel
theorem dX1_narrowed_17 : decode cX1_narrowed 17 = .ok (.iload_n 1, 1) := by decide +kernel
theorem dX1_narrowed_18 : decode cX1_narrowed 18 = .ok (.i2s, 1) := by decide +kernel
theorem dX1_narrowed_19 : decode cX1_narrowed 19 = .ok (.ireturn, 1) := by decide +kernel
theorem dX1_isLine_0 : decode cX1_isLine 0 = .ok (.iload_n 1, 1) := by decide +kernel
theorem dX1_isLine_1 : decode cX1_isLine 1 = .ok (.ifCond .lt 15, 3) := by decide +kernel
theorem dX1_isLine_4 : decode cX1_isLine 4 = .ok (.iload_n 1, 1) := by decide +kernel
theorem dX1_isLine_5 : decode cX1_isLine 5 = .ok (.aload_n 0, 1) := by decide +kernel
theorem dX1_isLine_6 : decode cX1_isLine 6 = .ok (.getfield 9, 3) := by decide +kernel
theorem dX1_isLine_9 : decode cX1_isLine 9 = .ok (.if_icmp .ge 7, 3) := by decide +kernel
theorem dX1_isLine_12 : decode cX1_isLine 12 = .ok (.iconst 1, 1) := by decide +kernel
theorem dX1_isLine_13 : decode cX1_isLine 13 = .ok (.goto 4, 3) := by decide +kernel
theorem dX1_isLine_16 : decode cX1_isLine 16 = .ok (.iconst 0, 1) := by decide +kernel
theorem dX1_isLine_17 : decode cX1_isLine 17 = .ok (.ireturn, 1) := by decide +kernel
theorem dX1_isLost_0 : decode cX1_isLost 0 = .ok (.aload_n 0, 1) := by decide +kernel
theorem dX1_isLost_1 : decode cX1_isLost 1 = .ok (.getfield 19, 3) := by decide +kernel
theorem dX1_isLost_4 : decode cX1_isLost 4 = .ok (.iload_n 1, 1) := by decide +kernel
theorem dX1_isLost_5 : decode cX1_isLost 5 = .ok (.iaload, 1) := by decide +kernel
theorem dX1_isLost_6 : decode cX1_isLost 6 = .ok (.ifCond .ge 7, 3) := by decide +kernel
theorem dX1_isLost_9 : decode cX1_isLost 9 = .ok (.iconst 1, 1) := by decide +kernel
theorem dX1_isLost_10 : decode cX1_isLost 10 = .ok (.goto 4, 3) := by decide +kernel
theorem dX1_isLost_13 : decode cX1_isLost 13 = .ok (.iconst 0, 1) := by decide +kernel
theorem dX1_isLost_14 : decode cX1_isLost 14 = .ok (.ireturn, 1) := by decide +kernel
theorem dX1_renew_0 : decode cX1_renew 0 = .ok (.aload_n 0, 1) := by decide +kernel
theorem dX1_renew_1 : decode cX1_renew 1 = .ok (.getfield 15, 3) := by decide +kernel
theorem dX1_renew_4 : decode cX1_renew 4 = .ok (.iload_n 1, 1) := by decide +kernel
theorem dX1_renew_5 : decode cX1_renew 5 = .ok (.iload_n 2, 1) := by decide +kernel
theorem dX1_renew_6 : decode cX1_renew 6 = .ok (.iastore, 1) := by decide +kernel
theorem dX1_renew_7 : decode cX1_renew 7 = .ok (.aload_n 0, 1) := by decide +kernel
theorem dX1_renew_8 : decode cX1_renew 8 = .ok (.getfield 19, 3) := by decide +kernel
theorem dX1_renew_11 : decode cX1_renew 11 = .ok (.iload_n 1, 1) := by decide +kernel
theorem dX1_renew_12 : decode cX1_renew 12 = .ok (.iload_n 3, 1) := by decide +kernel
theorem dX1_renew_13 : decode cX1_renew 13 = .ok (.iastore, 1) := by decide +kernel
theorem dX1_renew_14 : decode cX1_renew 14 = .ok (.iconst 0, 1) := by decide +kernel
theorem dX1_renew_15 : decode cX1_renew 15 = .ok (.istore 4, 2) := by decide +kernel
theorem dX1_renew_17 : decode cX1_renew 17 = .ok (.iload 4, 2) := by decide +kernel
theorem dX1_renew_19 : decode cX1_renew 19 = .ok (.bipush 12, 2) := by decide +kernel
theorem dX1_renew_21 : decode cX1_renew 21 = .ok (.if_icmp .ge 19, 3) := by decide +kernel
theorem dX1_renew_24 : decode cX1_renew 24 = .ok (.aload_n 0, 1) := by decide +kernel
theorem dX1_renew_25 : decode cX1_renew 25 = .ok (.getfield 24, 3) := by decide +kernel
theorem dX1_renew_28 : decode cX1_renew 28 = .ok (.iload_n 1, 1) := by decide +kernel
theorem dX1_renew_29 : decode cX1_renew 29 = .ok (.aaload, 1) := by decide +kernel
theorem dX1_renew_30 : decode cX1_renew 30 = .ok (.iload 4, 2) := by decide +kernel
theorem dX1_renew_32 : decode cX1_renew 32 = .ok (.iconst 0, 1) := by decide +kernel
theorem dX1_renew_33 : decode cX1_renew 33 = .ok (.iastore, 1) := by decide +kernel
theorem dX1_renew_34 : decode cX1_renew 34 = .ok (.iinc 4 1, 3) := by decide +kernel
theorem dX1_renew_37 : decode cX1_renew 37 = .ok (.goto (-20), 3) := by decide +kernel
theorem dX1_renew_40 : decode cX1_renew 40 = .ok (.return_, 1) := by decide +kernel
theorem dX1_faultOfItem_0 : decode cX1_faultOfItem 0 = .ok (.aload_n 0, 1) := by decide +kernel
theorem dX1_faultOfItem_1 : decode cX1_faultOfItem 1 = .ok (.iload_n 1, 1) := by decide +kernel
theorem dX1_faultOfItem_2 : decode cX1_faultOfItem 2 = .ok (.invokevirtual 27, 3) := by decide +kernel
theorem dX1_faultOfItem_5 : decode cX1_faultOfItem 5 = .ok (.ifCond .eq 5, 3) := by decide +kernel
theorem dX1_faultOfItem_8 : decode cX1_faultOfItem 8 = .ok (.iconst 1, 1) := by decide +kernel
theorem dX1_faultOfItem_9 : decode cX1_faultOfItem 9 = .ok (.ireturn, 1) := by decide +kernel
theorem dX1_faultOfItem_10 : decode cX1_faultOfItem 10 = .ok (.aload_n 0, 1) := by decide +kernel
theorem dX1_faultOfItem_11 : decode cX1_faultOfItem 11 = .ok (.getfield 15, 3) := by decide +kernel
theorem dX1_faultOfItem_14 : decode cX1_faultOfItem 14 = .ok (.iload_n 1, 1) := by decide +kernel
theorem dX1_faultOfItem_15 : decode cX1_faultOfItem 15 = .ok (.iaload, 1) := by decide +kernel
theorem dX1_faultOfItem_16 : decode cX1_faultOfItem 16 = .ok (.iload_n 2, 1) := by decide +kernel
theorem dX1_faultOfItem_17 : decode cX1_faultOfItem 17 = .ok (.if_icmp .eq 5, 3) := by decide +kernel
theorem dX1_faultOfItem_20 : decode cX1_faultOfItem 20 = .ok (.iconst 3, 1) := by decide +kernel
theorem dX1_faultOfItem_21 : decode cX1_faultOfItem 21 = .ok (.ireturn, 1) := by decide +kernel
theorem dX1_faultOfItem_22 : decode cX1_faultOfItem 22 = .ok (.iload_n 3, 1) := by decide +kernel
theorem dX1_faultOfItem_23 : decode cX1_faultOfItem 23 = .ok (.ifCond .lt 13, 3) := by decide +kernel
theorem dX1_faultOfItem_26 : decode cX1_faultOfItem 26 = .ok (.iload_n 3, 1) := by decide +kernel
theorem dX1_faultOfItem_27 : decode cX1_faultOfItem 27 = .ok (.aload_n 0, 1) := by decide +kernel
theorem dX1_faultOfItem_28 : decode cX1_faultOfItem 28 = .ok (.getfield 19, 3) := by decide +kernel
theorem dX1_faultOfItem_31 : decode cX1_faultOfItem 31 = .ok (.iload_n 1, 1) := by decide +kernel
theorem dX1_faultOfItem_32 : decode cX1_faultOfItem 32 = .ok (.iaload, 1) := by decide +kernel
theorem dX1_faultOfItem_33 : decode cX1_faultOfItem 33 = .ok (.if_icmp .lt 7, 3) := by decide +kernel
theorem dX1_faultOfItem_36 : decode cX1_faultOfItem 36 = .ok (.iconst 2, 1) := by decide +kernel
theorem dX1_faultOfItem_37 : decode cX1_faultOfItem 37 = .ok (.goto 4, 3) := by decide +kernel
theorem dX1_faultOfItem_40 : decode cX1_faultOfItem 40 = .ok (.iconst 0, 1) := by decide +kernel
theorem dX1_faultOfItem_41 : decode cX1_faultOfItem 41 = .ok (.ireturn, 1) := by decide +kernel
theorem dX1_hasItems_0 : decode cX1_hasItems 0 = .ok (.iload_n 2, 1) := by decide +kernel
theorem dX1_hasItems_1 : decode cX1_hasItems 1 = .ok (.ifCond .lt 33, 3) := by decide +kernel
theorem dX1_hasItems_4 : decode cX1_hasItems 4 = .ok (.iload_n 3, 1) := by decide +kernel
theorem dX1_hasItems_5 : decode cX1_hasItems 5 = .ok (.ifCond .lt 29, 3) := by decide +kernel
theorem dX1_hasItems_8 : decode cX1_hasItems 8 = .ok (.iload_n 3, 1) := by decide +kernel
theorem dX1_hasItems_9 : decode cX1_hasItems 9 = .ok (.aload_n 0, 1) := by decide +kernel
theorem dX1_hasItems_10 : decode cX1_hasItems 10 = .ok (.getfield 19, 3) := by decide +kernel
theorem dX1_hasItems_13 : decode cX1_hasItems 13 = .ok (.iload_n 1, 1) := by decide +kernel
theorem dX1_hasItems_14 : decode cX1_hasItems 14 = .ok (.iaload, 1) := by decide +kernel
theorem dX1_hasItems_15 : decode cX1_hasItems 15 = .ok (.if_icmp .gt 19, 3) := by decide +kernel
theorem dX1_hasItems_18 : decode cX1_hasItems 18 = .ok (.iload_n 2, 1) := by decide +kernel
theorem dX1_hasItems_19 : decode cX1_hasItems 19 = .ok (.aload_n 0, 1) := by decide +kernel
theorem dX1_hasItems_20 : decode cX1_hasItems 20 = .ok (.getfield 19, 3) := by decide +kernel
theorem dX1_hasItems_23 : decode cX1_hasItems 23 = .ok (.iload_n 1, 1) := by decide +kernel
theorem dX1_hasItems_24 : decode cX1_hasItems 24 = .ok (.iaload, 1) := by decide +kernel
theorem dX1_hasItems_25 : decode cX1_hasItems 25 = .ok (.iload_n 3, 1) := by decide +kernel
theorem dX1_hasItems_26 : decode cX1_hasItems 26 = .ok (.isub, 1) := by decide +kernel
theorem dX1_hasItems_27 : decode cX1_hasItems 27 = .ok (.if_icmp .gt 7, 3) := by decide +kernel
theorem dX1_hasItems_30 : decode cX1_hasItems 30 = .ok (.iconst 1, 1) := by decide +kernel
theorem dX1_hasItems_31 : decode cX1_hasItems 31 = .ok (.goto 4, 3) := by decide +kernel
theorem dX1_hasItems_34 : decode cX1_hasItems 34 = .ok (.iconst 0, 1) := by decide +kernel
theorem dX1_hasItems_35 : decode cX1_hasItems 35 = .ok (.ireturn, 1) := by decide +kernel
theorem dX1_someIsTooShort_0 : decode cX1_someIsTooShort 0 = .ok (.iconst 0, 1) := by decide +kernel
theorem dX1_someIsTooShort_1 : decode cX1_someIsTooShort 1 = .ok (.istore_n 1, 1) := by decide +kernel
theorem dX1_someIsTooShort_2 : decode cX1_someIsTooShort 2 = .ok (.iload_n 1, 1) := by decide +kernel
theorem dX1_someIsTooShort_3 : decode cX1_someIsTooShort 3 = .ok (.aload_n 0, 1) := by decide +kernel
theorem dX1_someIsTooShort_4 : decode cX1_someIsTooShort 4 = .ok (.getfield 9, 3) := by decide +kernel
theorem dX1_someIsTooShort_7 : decode cX1_someIsTooShort 7 = .ok (.if_icmp .ge 32, 3) := by decide +kernel
theorem dX1_someIsTooShort_10 : decode cX1_someIsTooShort 10 = .ok (.aload_n 0, 1) := by decide +kernel
theorem dX1_someIsTooShort_11 : decode cX1_someIsTooShort 11 = .ok (.iload_n 1, 1) := by decide +kernel
theorem dX1_someIsTooShort_12 : decode cX1_someIsTooShort 12 = .ok (.invokevirtual 27, 3) := by decide +kernel
theorem dX1_someIsTooShort_15 : decode cX1_someIsTooShort 15 = .ok (.ifCond .ne 18, 3) := by decide +kernel
theorem dX1_someIsTooShort_18 : decode cX1_someIsTooShort 18 = .ok (.aload_n 0, 1) := by decide +kernel
theorem dX1_someIsTooShort_19 : decode cX1_someIsTooShort 19 = .ok (.getfield 19, 3) := by decide +kernel
theorem dX1_someIsTooShort_22 : decode cX1_someIsTooShort 22 = .ok (.iload_n 1, 1) := by decide +kernel
theorem dX1_someIsTooShort_23 : decode cX1_someIsTooShort 23 = .ok (.iaload, 1) := by decide +kernel
theorem dX1_someIsTooShort_24 : decode cX1_someIsTooShort 24 = .ok (.aload_n 0, 1) := by decide +kernel
theorem dX1_someIsTooShort_25 : decode cX1_someIsTooShort 25 = .ok (.getfield 9, 3) := by decide +kernel
theorem dX1_someIsTooShort_28 : decode cX1_someIsTooShort 28 = .ok (.if_icmp .ge 5, 3) := by decide +kernel
theorem dX1_someIsTooShort_31 : decode cX1_someIsTooShort 31 = .ok (.iconst 1, 1) := by decide +kernel
theorem dX1_someIsTooShort_32 : decode cX1_someIsTooShort 32 = .ok (.ireturn, 1) := by decide +kernel
theorem dX1_someIsTooShort_33 : decode cX1_someIsTooShort 33 = .ok (.iinc 1 1, 3) := by decide +kernel
theorem dX1_someIsTooShort_36 : decode cX1_someIsTooShort 36 = .ok (.goto (-34), 3) := by decide +kernel
theorem dX1_someIsTooShort_39 : decode cX1_someIsTooShort 39 = .ok (.iconst 0, 1) := by decide +kernel
theorem dX1_someIsTooShort_40 : decode cX1_someIsTooShort 40 = .ok (.ireturn, 1) := by decide +kernel
theorem dX1_told_0 : decode cX1_told 0 = .ok (.aload_n 0, 1) := by decide +kernel
theorem dX1_told_1 : decode cX1_told 1 = .ok (.iload_n 1, 1) := by decide +kernel
theorem dX1_told_2 : decode cX1_told 2 = .ok (.invokevirtual 27, 3) := by decide +kernel
theorem dX1_told_5 : decode cX1_told 5 = .ok (.ifCond .eq 7, 3) := by decide +kernel
theorem dX1_told_8 : decode cX1_told 8 = .ok (.iconst 0, 1) := by decide +kernel
theorem dX1_told_9 : decode cX1_told 9 = .ok (.goto 11, 3) := by decide +kernel
theorem dX1_told_12 : decode cX1_told 12 = .ok (.aload_n 0, 1) := by decide +kernel
theorem dX1_told_13 : decode cX1_told 13 = .ok (.getfield 24, 3) := by decide +kernel
theorem dX1_told_16 : decode cX1_told 16 = .ok (.iload_n 1, 1) := by decide +kernel
theorem dX1_told_17 : decode cX1_told 17 = .ok (.aaload, 1) := by decide +kernel
theorem dX1_told_18 : decode cX1_told 18 = .ok (.iload_n 2, 1) := by decide +kernel
theorem dX1_told_19 : decode cX1_told 19 = .ok (.iaload, 1) := by decide +kernel
theorem dX1_told_20 : decode cX1_told 20 = .ok (.ireturn, 1) := by decide +kernel
theorem dX2_itemOf_0 : decode cX2_itemOf 0 = .ok (.iconst 1, 1) := by decide +kernel
theorem dX2_itemOf_1 : decode cX2_itemOf 1 = .ok (.iload_n 1, 1) := by decide +kernel
theorem dX2_itemOf_2 : decode cX2_itemOf 2 = .ok (.iadd, 1) := by decide +kernel
theorem dX2_itemOf_3 : decode cX2_itemOf 3 = .ok (.bipush 16, 2) := by decide +kernel
theorem dX2_itemOf_5 : decode cX2_itemOf 5 = .ok (.iload_n 0, 1) := by decide +kernel
theorem dX2_itemOf_6 : decode cX2_itemOf 6 = .ok (.imul, 1) := by decide +kernel
theorem dX2_itemOf_7 : decode cX2_itemOf 7 = .ok (.iadd, 1) := by decide +kernel
theorem dX2_itemOf_8 : decode cX2_itemOf 8 = .ok (.ireturn, 1) := by decide +kernel
theorem dX2_sideOf_0 : decode cX2_sideOf 0 = .ok (.iload_n 0, 1) := by decide +kernel
theorem dX2_sideOf_1 : decode cX2_sideOf 1 = .ok (.bipush 15, 2) := by decide +kernel
theorem dX2_sideOf_3 : decode cX2_sideOf 3 = .ok (.iadd, 1) := by decide +kernel
theorem dX2_sideOf_4 : decode cX2_sideOf 4 = .ok (.iconst 4, 1) := by decide +kernel
theorem dX2_sideOf_5 : decode cX2_sideOf 5 = .ok (.ishr, 1) := by decide +kernel
theorem dX2_sideOf_6 : decode cX2_sideOf 6 = .ok (.iconst 1, 1) := by decide +kernel
theorem dX2_sideOf_7 : decode cX2_sideOf 7 = .ok (.isub, 1) := by decide +kernel
theorem dX2_sideOf_8 : decode cX2_sideOf 8 = .ok (.ireturn, 1) := by decide +kernel
theorem dX2_kindOf_0 : decode cX2_kindOf 0 = .ok (.iload_n 0, 1) := by decide +kernel
theorem dX2_kindOf_1 : decode cX2_kindOf 1 = .ok (.iconst 1, 1) := by decide +kernel
theorem dX2_kindOf_2 : decode cX2_kindOf 2 = .ok (.isub, 1) := by decide +kernel
theorem dX2_kindOf_3 : decode cX2_kindOf 3 = .ok (.bipush 7, 2) := by decide +kernel
theorem dX2_kindOf_5 : decode cX2_kindOf 5 = .ok (.iand, 1) := by decide +kernel
theorem dX2_kindOf_6 : decode cX2_kindOf 6 = .ok (.ireturn, 1) := by decide +kernel
theorem dX2_typeOf_0 : decode cX2_typeOf 0 = .ok (.iload_n 0, 1) := by decide +kernel
theorem dX2_typeOf_1 : decode cX2_typeOf 1 = .ok (.iconst 1, 1) := by decide +kernel
theorem dX2_typeOf_2 : decode cX2_typeOf 2 = .ok (.isub, 1) := by decide +kernel
theorem dX2_typeOf_3 : decode cX2_typeOf 3 = .ok (.bipush 15, 2) := by decide +kernel
theorem dX2_typeOf_5 : decode cX2_typeOf 5 = .ok (.iand, 1) := by decide +kernel
theorem dX2_typeOf_6 : decode cX2_typeOf 6 = .ok (.ireturn, 1) := by decide +kernel
theorem dX2_isRaised_0 : decode cX2_isRaised 0 = .ok (.iload_n 0, 1) := by decide +kernel
theorem dX2_isRaised_1 : decode cX2_isRaised 1 = .ok (.ifCond .eq 16, 3) := by decide +kernel
theorem dX2_isRaised_4 : decode cX2_isRaised 4 = .ok (.iload_n 0, 1) := by decide +kernel
theorem dX2_isRaised_5 : decode cX2_isRaised 5 = .ok (.iconst 1, 1) := by decide +kernel
theorem dX2_isRaised_6 : decode cX2_isRaised 6 = .ok (.isub, 1) := by decide +kernel
theorem dX2_isRaised_7 : decode cX2_isRaised 7 = .ok (.bipush 8, 2) := by decide +kernel
theorem dX2_isRaised_9 : decode cX2_isRaised 9 = .ok (.iand, 1) := by decide +kernel
theorem dX2_isRaised_10 : decode cX2_isRaised 10 = .ok (.ifCond .eq 7, 3) := by decide +kernel
theorem dX2_isRaised_13 : decode cX2_isRaised 13 = .ok (.iconst 1, 1) := by decide +kernel
theorem dX2_isRaised_14 : decode cX2_isRaised 14 = .ok (.goto 4, 3) := by decide +kernel
theorem dX2_isRaised_17 : decode cX2_isRaised 17 = .ok (.iconst 0, 1) := by decide +kernel
theorem dX2_isRaised_18 : decode cX2_isRaised 18 = .ok (.ireturn, 1) := by decide +kernel
theorem dX3_going_0 : decode cX3_going 0 = .ok (.iload_n 0, 1) := by decide +kernel
theorem dX3_going_1 : decode cX3_going 1 = .ok (.bipush 6, 2) := by decide +kernel
theorem dX3_going_3 : decode cX3_going 3 = .ok (.ishl, 1) := by decide +kernel
theorem dX3_going_4 : decode cX3_going 4 = .ok (.iload_n 1, 1) := by decide +kernel
theorem dX3_going_5 : decode cX3_going 5 = .ok (.ior, 1) := by decide +kernel
theorem dX3_going_6 : decode cX3_going 6 = .ok (.iload_n 2, 1) := by decide +kernel
theorem dX3_going_7 : decode cX3_going 7 = .ok (.ifCond .eq 9, 3) := by decide +kernel
theorem dX3_going_10 : decode cX3_going 10 = .ok (.sipush 4096, 3) := by decide +kernel
theorem dX3_going_13 : decode cX3_going 13 = .ok (.goto 4, 3) := by decide +kernel
theorem dX3_going_16 : decode cX3_going 16 = .ok (.iconst 0, 1) := by decide +kernel
theorem dX3_going_17 : decode cX3_going 17 = .ok (.ior, 1) := by decide +kernel
theorem dX3_going_18 : decode cX3_going 18 = .ok (.ireturn, 1) := by decide +kernel
theorem dX3_setting_0 : decode cX3_setting 0 = .ok (.iload_n 0, 1) := by decide +kernel
theorem dX3_setting_1 : decode cX3_setting 1 = .ok (.bipush 13, 2) := by decide +kernel
theorem dX3_setting_3 : decode cX3_setting 3 = .ok (.ishl, 1) := by decide +kernel
theorem dX3_setting_4 : decode cX3_setting 4 = .ok (.sipush 4032, 3) := by decide +kernel
theorem dX3_setting_7 : decode cX3_setting 7 = .ok (.ior, 1) := by decide +kernel
theorem dX3_setting_8 : decode cX3_setting 8 = .ok (.iload_n 1, 1) := by decide +kernel
theorem dX3_setting_9 : decode cX3_setting 9 = .ok (.ior, 1) := by decide +kernel
theorem dX3_setting_10 : decode cX3_setting 10 = .ok (.ireturn, 1) := by decide +kernel
theorem dX3_isSetting_0 : decode cX3_isSetting 0 = .ok (.iload_n 0, 1) := by decide +kernel
theorem dX3_isSetting_1 : decode cX3_isSetting 1 = .ok (.bipush 6, 2) := by decide +kernel
theorem dX3_isSetting_3 : decode cX3_isSetting 3 = .ok (.ishr, 1) := by decide +kernel
theorem dX3_isSetting_4 : decode cX3_isSetting 4 = .ok (.bipush 63, 2) := by decide +kernel
theorem dX3_isSetting_6 : decode cX3_isSetting 6 = .ok (.iand, 1) := by decide +kernel
theorem dX3_isSetting_7 : decode cX3_isSetting 7 = .ok (.bipush 63, 2) := by decide +kernel
theorem dX3_isSetting_9 : decode cX3_isSetting 9 = .ok (.if_icmp .ne 7, 3) := by decide +kernel
theorem dX3_isSetting_12 : decode cX3_isSetting 12 = .ok (.iconst 1, 1) := by decide +kernel
theorem dX3_isSetting_13 : decode cX3_isSetting 13 = .ok (.goto 4, 3) := by decide +kernel
theorem dX3_isSetting_16 : decode cX3_isSetting 16 = .ok (.iconst 0, 1) := by decide +kernel
theorem dX3_isSetting_17 : decode cX3_isSetting 17 = .ok (.ireturn, 1) := by decide +kernel
theorem dX3_fromOf_0 : decode cX3_fromOf 0 = .ok (.iload_n 0, 1) := by decide +kernel
theorem dX3_fromOf_1 : decode cX3_fromOf 1 = .ok (.invokestatic 11, 3) := by decide +kernel
theorem dX3_fromOf_4 : decode cX3_fromOf 4 = .ok (.ifCond .eq 7, 3) := by decide +kernel
theorem dX3_fromOf_7 : decode cX3_fromOf 7 = .ok (.iconst (-1), 1) := by decide +kernel
theorem dX3_fromOf_8 : decode cX3_fromOf 8 = .ok (.goto 10, 3) := by decide +kernel
theorem dX3_fromOf_11 : decode cX3_fromOf 11 = .ok (.iload_n 0, 1) := by decide +kernel
theorem dX3_fromOf_12 : decode cX3_fromOf 12 = .ok (.bipush 6, 2) := by decide +kernel
theorem dX3_fromOf_14 : decode cX3_fromOf 14 = .ok (.ishr, 1) := by decide +kernel
theorem dX3_fromOf_15 : decode cX3_fromOf 15 = .ok (.bipush 63, 2) := by decide +kernel
theorem dX3_fromOf_17 : decode cX3_fromOf 17 = .ok (.iand, 1) := by decide +kernel
theorem dX3_fromOf_18 : decode cX3_fromOf 18 = .ok (.ireturn, 1) := by decide +kernel
theorem dX3_toOf_0 : decode cX3_toOf 0 = .ok (.iload_n 0, 1) := by decide +kernel
theorem dX3_toOf_1 : decode cX3_toOf 1 = .ok (.bipush 63, 2) := by decide +kernel
theorem dX3_toOf_3 : decode cX3_toOf 3 = .ok (.iand, 1) := by decide +kernel
theorem dX3_toOf_4 : decode cX3_toOf 4 = .ok (.ireturn, 1) := by decide +kernel
theorem dX3_raises_0 : decode cX3_raises 0 = .ok (.iload_n 0, 1) := by decide +kernel
theorem dX3_raises_1 : decode cX3_raises 1 = .ok (.sipush 4096, 3) := by decide +kernel
theorem dX3_raises_4 : decode cX3_raises 4 = .ok (.iand, 1) := by decide +kernel
theorem dX3_raises_5 : decode cX3_raises 5 = .ok (.ifCond .eq 7, 3) := by decide +kernel
theorem dX3_raises_8 : decode cX3_raises 8 = .ok (.iconst 1, 1) := by decide +kernel
theorem dX3_raises_9 : decode cX3_raises 9 = .ok (.goto 4, 3) := by decide +kernel
theorem dX3_raises_12 : decode cX3_raises 12 = .ok (.iconst 0, 1) := by decide +kernel
theorem dX3_raises_13 : decode cX3_raises 13 = .ok (.ireturn, 1) := by decide +kernel
theorem dX3_setKindOf_0 : decode cX3_setKindOf 0 = .ok (.iload_n 0, 1) := by decide +kernel
theorem dX3_setKindOf_1 : decode cX3_setKindOf 1 = .ok (.invokestatic 11, 3) := by decide +kernel
theorem dX3_setKindOf_4 : decode cX3_setKindOf 4 = .ok (.ifCond .eq 13, 3) := by decide +kernel
theorem dX3_setKindOf_7 : decode cX3_setKindOf 7 = .ok (.iload_n 0, 1) := by decide +kernel
theorem dX3_setKindOf_8 : decode cX3_setKindOf 8 = .ok (.bipush 13, 2) := by decide +kernel
theorem dX3_setKindOf_10 : decode cX3_setKindOf 10 = .ok (.ishr, 1) := by decide +kernel
theorem dX3_setKindOf_11 : decode cX3_setKindOf 11 = .ok (.bipush 7, 2) := by decide +kernel
theorem dX3_setKindOf_13 : decode cX3_setKindOf 13 = .ok (.iand, 1) := by decide +kernel
theorem dX3_setKindOf_14 : decode cX3_setKindOf 14 = .ok (.goto 4, 3) := by decide +kernel
theorem dX3_setKindOf_17 : decode cX3_setKindOf 17 = .ok (.iconst (-1), 1) := by decide +kernel
theorem dX3_setKindOf_18 : decode cX3_setKindOf 18 = .ok (.ireturn, 1) := by decide +kernel
theorem dX3_takenKindOf_0 : decode cX3_takenKindOf 0 = .ok (.iload_n 0, 1) := by decide +kernel
theorem dX3_takenKindOf_1 : decode cX3_takenKindOf 1 = .ok (.bipush 16, 2) := by decide +kernel
theorem dX3_takenKindOf_3 : decode cX3_takenKindOf 3 = .ok (.ishr, 1) := by decide +kernel
theorem dX3_takenKindOf_4 : decode cX3_takenKindOf 4 = .ok (.istore_n 1, 1) := by decide +kernel
theorem dX3_takenKindOf_5 : decode cX3_takenKindOf 5 = .ok (.iload_n 1, 1) := by decide +kernel
theorem dX3_takenKindOf_6 : decode cX3_takenKindOf 6 = .ok (.ifCond .ne 7, 3) := by decide +kernel
theorem dX3_takenKindOf_9 : decode cX3_takenKindOf 9 = .ok (.iconst (-1), 1) := by decide +kernel
theorem dX3_takenKindOf_10 : decode cX3_takenKindOf 10 = .ok (.goto 7, 3) := by decide +kernel
theorem dX3_takenKindOf_13 : decode cX3_takenKindOf 13 = .ok (.iload_n 1, 1) := by decide +kernel
theorem dX3_takenKindOf_14 : decode cX3_takenKindOf 14 = .ok (.invokestatic 15, 3) := by decide +kernel
theorem dX3_takenKindOf_17 : decode cX3_takenKindOf 17 = .ok (.ireturn, 1) := by decide +kernel
theorem dX4_init_0 : decode cX4_init 0 = .ok (.aload_n 0, 1) := by decide +kernel
theorem dX4_init_1 : decode cX4_init 1 = .ok (.invokespecial 1, 3) := by decide +kernel
theorem dX4_init_4 : decode cX4_init 4 = .ok (.aload_n 0, 1) := by decide +kernel
theorem dX4_init_5 : decode cX4_init 5 = .ok (.sipush 300, 3) := by decide +kernel
theorem dX4_init_8 : decode cX4_init 8 = .ok (.newarray .int, 2) := by decide +kernel
theorem dX4_init_10 : decode cX4_init 10 = .ok (.putfield 9, 3) := by decide +kernel
theorem dX4_init_13 : decode cX4_init 13 = .ok (.aload_n 0, 1) := by decide +kernel
theorem dX4_init_14 : decode cX4_init 14 = .ok (.sipush 300, 3) := by decide +kernel
theorem dX4_init_17 : decode cX4_init 17 = .ok (.newarray .boolean, 2) := by decide +kernel
theorem dX4_init_19 : decode cX4_init 19 = .ok (.putfield 13, 3) := by decide +kernel
theorem dX4_init_22 : decode cX4_init 22 = .ok (.aload_n 0, 1) := by decide +kernel
theorem dX4_init_23 : decode cX4_init 23 = .ok (.sipush 2107, 3) := by decide +kernel
theorem dX4_init_26 : decode cX4_init 26 = .ok (.newarray .long, 2) := by decide +kernel
theorem dX4_init_28 : decode cX4_init 28 = .ok (.putfield 17, 3) := by decide +kernel
theorem dX4_init_31 : decode cX4_init 31 = .ok (.aload_n 0, 1) := by decide +kernel
theorem dX4_init_32 : decode cX4_init 32 = .ok (.aload_n 1, 1) := by decide +kernel
theorem dX4_init_33 : decode cX4_init 33 = .ok (.putfield 21, 3) := by decide +kernel
theorem dX4_init_36 : decode cX4_init 36 = .ok (.return_, 1) := by decide +kernel
theorem dX4_begin_0 : decode cX4_begin 0 = .ok (.aload_n 0, 1) := by decide +kernel
theorem dX4_begin_1 : decode cX4_begin 1 = .ok (.aload_n 0, 1) := by decide +kernel
theorem dX4_begin_2 : decode cX4_begin 2 = .ok (.getfield 21, 3) := by decide +kernel
theorem dX4_begin_5 : decode cX4_begin 5 = .ok (.getfield 25, 3) := by decide +kernel
theorem dX4_begin_8 : decode cX4_begin 8 = .ok (.putfield 31, 3) := by decide +kernel
theorem dX4_begin_11 : decode cX4_begin 11 = .ok (.aload_n 0, 1) := by decide +kernel
theorem dX4_begin_12 : decode cX4_begin 12 = .ok (.iconst 0, 1) := by decide +kernel
theorem dX4_begin_13 : decode cX4_begin 13 = .ok (.putfield 34, 3) := by decide +kernel
theorem dX4_begin_16 : decode cX4_begin 16 = .ok (.aload_n 0, 1) := by decide +kernel
theorem dX4_begin_17 : decode cX4_begin 17 = .ok (.iconst 0, 1) := by decide +kernel
theorem dX4_begin_18 : decode cX4_begin 18 = .ok (.putfield 37, 3) := by decide +kernel
theorem dX4_begin_21 : decode cX4_begin 21 = .ok (.aload_n 0, 1) := by decide +kernel
theorem dX4_begin_22 : decode cX4_begin 22 = .ok (.invokevirtual 40, 3) := by decide +kernel
theorem dX4_begin_25 : decode cX4_begin 25 = .ok (.return_, 1) := by decide +kernel
theorem dX4_advance_0 : decode cX4_advance 0 = .ok (.aload_n 0, 1) := by decide +kernel
theorem dX4_advance_1 : decode cX4_advance 1 = .ok (.getfield 9, 3) := by decide +kernel
theorem dX4_advance_4 : decode cX4_advance 4 = .ok (.aload_n 0, 1) := by decide +kernel
theorem dX4_advance_5 : decode cX4_advance 5 = .ok (.getfield 34, 3) := by decide +kernel
theorem dX4_advance_8 : decode cX4_advance 8 = .ok (.iload_n 1, 1) := by decide +kernel
theorem dX4_advance_9 : decode cX4_advance 9 = .ok (.iastore, 1) := by decide +kernel
theorem dX4_advance_10 : decode cX4_advance 10 = .ok (.aload_n 0, 1) := by decide +kernel
theorem dX4_advance_11 : decode cX4_advance 11 = .ok (.aload_n 0, 1) := by decide +kernel
theorem dX4_advance_12 : decode cX4_advance 12 = .ok (.getfield 34, 3) := by decide +kernel
theorem dX4_advance_15 : decode cX4_advance 15 = .ok (.iconst 1, 1) := by decide +kernel
theorem dX4_advance_16 : decode cX4_advance 16 = .ok (.iadd, 1) := by decide +kernel
theorem dX4_advance_17 : decode cX4_advance 17 = .ok (.putfield 37, 3) := by decide +kernel
theorem dX4_advance_20 : decode cX4_advance 20 = .ok (.aload_n 0, 1) := by decide +kernel
theorem dX4_advance_21 : decode cX4_advance 21 = .ok (.invokevirtual 43, 3) := by decide +kernel
theorem dX4_advance_24 : decode cX4_advance 24 = .ok (.return_, 1) := by decide +kernel
theorem dX4_repeat_0 : decode cX4_repeat 0 = .ok (.aload_n 0, 1) := by decide +kernel
theorem dX4_repeat_1 : decode cX4_repeat 1 = .ok (.getfield 21, 3) := by decide +kernel
theorem dX4_repeat_4 : decode cX4_repeat 4 = .ok (.aload_n 0, 1) := by decide +kernel
theorem dX4_repeat_5 : decode cX4_repeat 5 = .ok (.getfield 9, 3) := by decide +kernel
theorem dX4_repeat_8 : decode cX4_repeat 8 = .ok (.aload_n 0, 1) := by decide +kernel
theorem dX4_repeat_9 : decode cX4_repeat 9 = .ok (.getfield 34, 3) := by decide +kernel
theorem dX4_repeat_12 : decode cX4_repeat 12 = .ok (.iaload, 1) := by decide +kernel
theorem dX4_repeat_13 : decode cX4_repeat 13 = .ok (.invokevirtual 46, 3) := by decide +kernel
theorem dX4_repeat_16 : decode cX4_repeat 16 = .ok (.aload_n 0, 1) := by decide +kernel
theorem dX4_repeat_17 : decode cX4_repeat 17 = .ok (.getfield 13, 3) := by decide +kernel
theorem dX4_repeat_20 : decode cX4_repeat 20 = .ok (.aload_n 0, 1) := by decide +kernel
theorem dX4_repeat_21 : decode cX4_repeat 21 = .ok (.getfield 34, 3) := by decide +kernel
theorem dX4_repeat_24 : decode cX4_repeat 24 = .ok (.aload_n 0, 1) := by decide +kernel
theorem dX4_repeat_25 : decode cX4_repeat 25 = .ok (.getfield 21, 3) := by decide +kernel
theorem dX4_repeat_28 : decode cX4_repeat 28 = .ok (.aload_n 0, 1) := by decide +kernel
theorem dX4_repeat_29 : decode cX4_repeat 29 = .ok (.getfield 21, 3) := by decide +kernel
theorem dX4_repeat_32 : decode cX4_repeat 32 = .ok (.getfield 25, 3) := by decide +kernel
theorem dX4_repeat_35 : decode cX4_repeat 35 = .ok (.invokevirtual 50, 3) := by decide +kernel
theorem dX4_repeat_38 : decode cX4_repeat 38 = .ok (.bastore, 1) := by decide +kernel
theorem dX4_repeat_39 : decode cX4_repeat 39 = .ok (.aload_n 0, 1) := by decide +kernel
theorem dX4_repeat_40 : decode cX4_repeat 40 = .ok (.dup, 1) := by decide +kernel
theorem dX4_repeat_41 : decode cX4_repeat 41 = .ok (.getfield 34, 3) := by decide +kernel
end
section
/-! ===== worlds by numbers: every cell of the two systems has a number; the judgement Sim: 'the code at pc does what the pure computation F says' ===== -/
def TB : List Cond := lw_tbl.filter goodWord
theorem TB_good {w : Cond} (h : w ∈ TB) : (w.onTables && w.keeps) = true ∨ ∃ ty, w = .arrayClass ty := good_of_word (List.mem_filter.mp h).2
theorem TB_in {w : Cond} (h : w ∈ lw_tbl) (hg : goodWord w = true) : w ∈ TB := List.mem_filter.mpr ⟨h, hg⟩
theorem TB_goodIn {w0 : Cond} (h : w0 ∈ TB) : GoodIn TB (w0 :: TB) := fun w hw => by
  rcases List.mem_cons.mp hw with rfl | hw
  · exact ⟨h, TB_good h⟩
  · exact ⟨hw, TB_good hw⟩
/-- ints (by cell and place), longs, the cells of DropChase.current and DropChase.spare -/
abbrev Wd : Type := (Nat → Nat → Int32) × (Nat → Nat → Int64) × Nat × Nat
def wdA (w : Wd) (k : Nat) (f : Nat → Int32) : Wd := (fun k' => if k' = k then f else w.1 k', w.2)
def wdI (w : Wd) (k j : Nat) (v : Int32) : Wd := wdA w k (upd (w.1 k) j v)
def wdL (w : Wd) (k j : Nat) (v : Int64) : Wd := (w.1, fun k' => if k' = k then vp_updL (w.2.1 k) j v else w.2.1 k', w.2.2)
def wdC (w : Wd) (i : Nat) : Wd := (w.1, w.2.1, i, w.2.2.2)
def wdR (w : Wd) (i : Nat) : Wd := (w.1, w.2.1, w.2.2.1, i)
/-- launch, class numbers, array classes (int, long, boolean, int[]), addresses, the static arrays' addresses, N, the cells that are there -/
abbrev Ev : Type := Launch × va_G × (Nat → ClassId) × (Nat → Nat) × (Nat → Nat) × Nat × List Nat
def Ea (E : Ev) : Nat → Nat := E.2.2.2.1
def Es (E : Ev) : Nat → Nat := E.2.2.2.2.1
def En (E : Ev) : Nat := E.2.2.2.2.2.1
def El (E : Ev) : List Nat := E.2.2.2.2.2.2
def Ey (E : Ev) : Nat → ClassId := E.2.2.1
def Ed (E : Ev) : va_G := E.2.1
/-- a method: class, bytes, locals, what it returns, its depth -/
abbrev Mt : Type := String × ByteArray × Nat × Option FieldType × Nat
def kd (k : Nat) : Nat := ([7, 9, 6, 9, 9, 11, 9, 9, 9, 9, 9, 1, 9, 9, 12, 9, 9, 9, 9, 9, 9, 9, 4, 9, 9, 9, 9, 3, 9, 0, 9, 9, 9, 5, 9, 2, 9, 11, 10, 2, 9, 11, 10, 99, 99, 99, 99, 99, 99, 99, 8, 99, 99, 9, 9, 9, 9, 9, 9, 9, 9, 9, 9, 9, 9, 9, 9, 9, 9, 9, 9, 9, 9, 99, 9, 11, 99, 9, 9, 9, 9, 9, 9, 9, 9, 11, 99, 99, 99, 99, 99, 99, 99, 9, 9, 9, 9, 9, 9, 9, 9, 99, 9] : List Nat).getD k 99
def ln (N k : Nat) : Nat := ([0, 16, 0, 12 * (N * N), N * N, 2 * (N * N), 16, 16, 33, 33, 8, 0, N, N, N, 12, 12, 12, 12, 12, 12, 12, 0, N * N, 16, 2, N * N, 0, 270 * (N * N), 0, 1000, 1000, 1000, 0, 2000, 0, 300, 300, 2107, 0, 300, 300, 2107, 0, 0, 0, 0, 0, 0, 0, 0, 0, 0, 16, 16, 8, 7, 7, 84, 12, 784, 256, 16, 16, 32000, 32000, 32000, 32000, 16, 32000, 32000, 32000, 32000, 0, 64, 49, 0, 16, 29498, 9632, 602, 600, 600, 600, 600, 600, 0, 0, 0, 0, 0, 0, 0, 1100, 1100, 1100, 1100, 1100, 1100, 16, 16, 0, 2000] : List Nat).getD k 0
def fvs (a : Nat → Nat) (w : Wd) (k : Nat) : List Value := match kd k with
  | 0 => [.ref (a 27), .ref (a 22), .ref (a (k + 1)), .ref (a (k + 2)), .ref (a (k + 3)), .int (w.1 k 5), .int (w.1 k 6), .int (w.1 k 7), .int (w.1 k 8)]
  | 1 => [.int (w.1 k 0), .ref (a (k + 1)), .ref (a (k + 2)), .ref (a (k + 3))]
  | 2 => [.ref (a 22), .ref (a (k + 1)), .ref (a (k + 2)), .ref (a (k + 3)), .int (w.1 k 4), .int (w.1 k 5), .int (w.1 k 6), .int (w.1 k 7), .int (w.1 k 8)]
  | 3 => [.ref (a 2), .ref (a 22), .int (w.1 k 2), .ref (a (k + 1))]
  | 4 => [.ref (a 2), .int (w.1 k 1), .int (w.1 k 2), .ref (a (k + 1)), .ref (a (k + 2)), .ref (a (k + 3)), .ref (a (k + 4)), .int (w.1 k 7)]
  | 5 => [.int (w.1 k 0), .ref (a (k + 1)), .int (w.1 k 2)]
  | 6 => [.int (w.1 k 0), .int (w.1 k 1), .ref (a (k + 1)), .ref (a (k + 2)), .ref (a (k + 3)), .ref (a (k + 4)), .ref (a (k + 5)), .ref (a (k + 6)), .ref (a (k + 7)), .ref (a (k + 8))]
  | 7 => [.int (w.1 k 0), .ref (a 2), .ref (a 11), .ref (a (k + 1)), .ref (a 22), .ref (a 27), .ref (a 29), .ref (a 33), .ref (a w.2.2.1), .ref (a w.2.2.2), .int (w.1 k 10), .int (w.1 k 11), .int (w.1 k 12)]
  | 8 => [.int (w.1 k 0), .int (w.1 k 1), .ref (a (k + 3)), .ref (a (k + 4)), .ref (a (k + 5)), .ref (a (k + 6)), .ref (a (k + 7)), .ref (a (k + 8)), .ref (a (k + 9)), .ref (a (k + 10)), .ref (a (k + 11)), .ref (a (k + 12)), .ref (a (k + 13)), .ref (a (k + 14)), .ref (a (k + 15)), .ref (a (k + 16)), .ref (a (k + 17)), .ref (a (k + 18)), .ref (a (k + 19)), .ref (a (k + 20)), .ref (a (k + 21)), .ref (a (k + 22)), .int (w.1 k 22), .ref (a (k + 24)), .ref (a (k + 25)), .int (w.1 k 25), .ref (a (k + 27)), .ref (a (k + 28)), .ref (a (k + 29)), .ref (a (k + 30)), .ref (a (k + 31)), .ref (a (k + 32)), .ref (a (k + 33)), .ref (a (k + 34)), .ref (a (k + 35)), .int (w.1 k 35), .int (w.1 k 36), .int (w.1 k 37), .int (w.1 k 38), .int (w.1 k 39), .int (w.1 k 40), .int (w.1 k 41), .ref (a (k + 43)), .ref (a (k + 44)), .ref (a (k + 45)), .ref (a (k + 46)), .ref (a (k + 47)), .ref (a (k + 48)), .ref (a (k + 49)), .ref (a (k + 50)), .int (w.1 k 50), .ref (a (k + 52))]
  | _ => []
def stN (j : Nat) : String := (["TURNED", "ROWS_MORE", "COLUMNS_MORE", "FIRST_STEPS", "FIRST_RUNS"] : List String).getD j ""
def stV (j : Nat) : List Int32 := ([[4, 5, 6, 7, 0, 1, 2, 3, 10, 11, 8, 9], [(-1), (-1), 0, 1, 1, 1, 0, (-1), (-2), (-2), 2, 2], [0, 1, 1, 1, 0, (-1), (-1), (-1), 1, (-1), (-1), 1], [255, 1, 171, 215, 0, 0, 0, 768, 0, 215, 215, 0, 170, 85, 215, 215], [0, 0, 0, 0, 85, 170, 1, 0, 0, 0, 0, 0, 85, 170, 0, 0]] : List (List Int32)).getD j []
def ce (E : Ev) (w : Wd) (k : Nat) : va_E :=
  if kd k < 9 then .inr (kd k, fvs (Ea E) w k)
  else if kd k = 9 then .inl (Ey E 0, ln (En E) k, .inl (w.1 k))
  else if kd k = 10 then .inl (Ey E 1, ln (En E) k, .inr (.inl (w.2.1 k)))
  else if kd k = 11 then .inl (Ey E 2, ln (En E) k, .inl (w.1 k))
  else .inl (Ey E 3, ln (En E) k, .inr (.inr (.inr (.inr (fun i => if i < En E then some (Ea E (k + 1 + i)) else none)))))
def wv (E : Ev) (w : Wd) : va_W := (El E).map fun k => (Ea E k, ce E w k)
def tyl (E : Ev) : List (ClassId × FieldType) := [(Ey E 0, .int), (Ey E 1, .long), (Ey E 2, .boolean), (Ey E 3, .array .int)]
/-- what a method may change: the cells that are there, and new ones -/
def AA (E : Ev) (sz : Nat) : Nat → Prop := fun q => (∃ k ∈ El E, Ea E k = q) ∨ sz ≤ q
def Stt (E : Ev) (A : Nat → Prop) (U : State) (H : Heap) : Prop := ∀ j, j < 5 → va_Z RX8 (stN j) "[I" (.ref (Es E j)) A U H ∧ va_T .int (Es E j) (stV j).length (fun i => .int ((stV j).getD i 0)) A U H
def nwl : List Cond := [.methodLinkNest "DropChase" 233 ⟨"DropChase$Rules", "countRows", "(III)I"⟩ "DropChase", .methodLinkNest "DropChase" 262 ⟨"DropChase$Chase", "hunterGoes", "(III)Z"⟩ "DropChase", .methodLinkNest "DropChase" 286 ⟨"DropChase$Chase", "firstFault", "(II)I"⟩ "DropChase", .methodLinkNest "DropChase$Text" 62 ⟨"DropChase", "isHandKind", "(I)Z"⟩ "DropChase"]
def NW (U : State) : Prop := ∀ w ∈ nwl, va_Nw w U
def Evn (E : Ev) (A : Nat → Prop) (U : State) (H : Heap) : Prop := va_K (Ed E) vwCl (tyl E) U ∧ Stt E A U H ∧ NW U
def rmd (d : Nat) : Room := { frames := d, cells := 0, slots := 0, locals := 64 * d }
/-- a method's end: the answer r, the world w' -/
def QR (E : Ev) (r : Option Value) (w' : Wd) : Array Value → State → Outcome → State → Prop := fun _ st oc t =>
  oc = .returned r ∧ va_P (Ed E) vwCl (wv E w') t.heap ∧ va_D (AA E st.heap.size) (wv E w') ∧ va_F (AA E st.heap.size) st t
def Sim {α : Type} (E : Ev) (M : Mt) (rt : α → Option Value) (pc : Nat) (lv : List (Nat × Value)) (st : List Value) (w : Wd) (F : Option (α × Wd)) : Prop :=
  ∀ (x : α) (w' : Wd), F = some (x, w') → ∀ (p : Program) (e : Env) (s : State) (m : MethodId) (args : Array Value) (below : List Frame) (meth : Method) (c : Code) (H : Heap) (locs : List Loc) (ls : Array Slot),
    CallFix p m c M.2.1 M.2.2.1 s args TB M.1 → meth.sig.returnType = M.2.2.2.1 → meth.locks = false → Evn E (AA E s.heap.size) s s.heap →
    va_P (Ed E) vwCl (wv E w) H → va_D (AA E s.heap.size) (wv E w) → va_S (AA E s.heap.size) s.heap H locs → lv_has ls M.2.2.1 lv →
    W p E.1 e (rmd M.2.2.2.2) s m args below meth c H locs 0 0 (MQ below (QR E (rt x) w') args s 0 0 (AA E s.heap.size)) (F0 m pc ls st)
def Ct {α : Type} (E : Ev) (M : Mt) (y : MethodName) (rt : α → Option Value) (av : List Value) (w : Wd) (F : Option (α × Wd)) : Prop :=
  ∀ (x : α) (w' : Wd), F = some (x, w') → ∀ sz : Nat, Met E.1 y (.code y M.2.1 M.2.2.1 M.2.2.2.1 :: TB) (rmd M.2.2.2.2)
    (va_Pc av (fun U => U.heap.size = sz ∧ va_P (Ed E) vwCl (wv E w) U.heap ∧ va_D (fun _ => True) (wv E w) ∧ Evn E (AA E sz) U U.heap)) (QR E (rt x) w') 0 0 (AA E sz)
def bd {α β : Type} (G : Option (β × Wd)) (K : β → Wd → Option (α × Wd)) : Option (α × Wd) := match G with
  | none => none
  | some z => K z.1 z.2
def lt {α : Type} (v : Int32) (K : Int32 → Option (α × Wd)) : Option (α × Wd) := K v
def lj {α : Type} (v : Int64) (K : Int64 → Option (α × Wd)) : Option (α × Wd) := K v
def lw {α : Type} (w : Wd) (K : Wd → Option (α × Wd)) : Option (α × Wd) := K w
def FU : Nat := 100000
def inb (i : Int32) (n : Nat) : Bool := !decide (i < 0) && decide (i.toNatClampNeg < n)
theorem inb_in {i : Int32} {n : Nat} (h : inb i n = true) : vp_in i n := by
  simp only [inb, Bool.and_eq_true, Bool.not_eq_true', decide_eq_false_iff_not, decide_eq_true_eq] at h
  intro q
  rcases q with q | q
  · exact h.1 q
  · omega
abbrev rI : Int32 → Option Value := fun x => some (.int x)
abbrev rJ : Int64 → Option Value := fun x => some (.long x)
abbrev rV : Unit → Option Value := fun _ => none
/-! the world as a list -/
theorem wv_at {E : Ev} (w : Wd) {k : Nat} (hk : k ∈ El E) : ∃ p : Nat, (El E)[p]? = some k ∧ (wv E w)[p]? = some (Ea E k, ce E w k) := by
  obtain ⟨p, hp⟩ := List.getElem?_of_mem hk
  exact ⟨p, hp, by simp [wv, hp]⟩
theorem wv_D {E : Ev} {A : Nat → Prop} {w : Wd} (sz : Nat) (h : va_D A (wv E w)) : va_D (AA E sz) (wv E w) := by
  refine ⟨h.1, fun k q hq => ?_⟩
  simp only [wv, List.getElem?_map] at hq
  cases hk : (El E)[k]? with
  | none => rw [hk] at hq; cases hq
  | some j =>
    rw [hk] at hq
    cases hq
    exact Or.inl ⟨j, List.mem_of_getElem? hk, rfl⟩
theorem wv_set {E : Ev} {A : Nat → Prop} {w w2 : Wd} {k p : Nat} {e : va_E} (hD : va_D A (wv E w)) (hp : (El E)[p]? = some k) (he : ce E w2 k = e) (ho : ∀ j, j ≠ k → ce E w2 j = ce E w j) : (wv E w).set p (Ea E k, e) = wv E w2 := by
  have hu : ∀ i, (El E)[i]? = some k → i = p := fun i hi => hD.1 i p (Ea E k, ce E w k) (Ea E k, ce E w k) (by simp [wv, hi]) (by simp [wv, hp]) rfl
  apply List.ext_getElem?
  intro i
  rw [List.getElem?_set]
  by_cases hi : p = i
  · subst hi
    have hlt : p < (wv E w).length := by
      simp only [wv, List.length_map]
      exact (List.getElem?_eq_some_iff.mp hp).1
    rw [if_pos rfl, if_pos hlt]
    simp [wv, hp, he]
  · rw [if_neg hi]
    simp only [wv, List.getElem?_map]
    cases hk : (El E)[i]? with
    | none => rfl
    | some j =>
      have hj : j ≠ k := fun q => hi ((hu i (by rw [hk, q])).symm)
      simp [ho j hj]
theorem fvs_A {a : Nat → Nat} {w : Wd} {k j : Nat} {f : Nat → Int32} (h : j ≠ k) : fvs a (wdA w k f) j = fvs a w j := by
  have e1 : (wdA w k f).1 j = w.1 j := if_neg h
  have e2 : (wdA w k f).2 = w.2 := rfl
  unfold fvs
  rw [e1, e2]
theorem ce_A {E : Ev} {w : Wd} {k j : Nat} {f : Nat → Int32} (h : j ≠ k) : ce E (wdA w k f) j = ce E w j := by
  unfold ce
  rw [fvs_A h, show (wdA w k f).1 j = w.1 j from if_neg h, show (wdA w k f).2 = w.2 from rfl]
theorem wdA_at {w : Wd} {k : Nat} {f : Nat → Int32} : (wdA w k f).1 k = f := if_pos rfl
theorem fvs_L {a : Nat → Nat} {w : Wd} {k i j : Nat} {v : Int64} : fvs a (wdL w k i v) j = fvs a w j := rfl
theorem ce_L {E : Ev} {w : Wd} {k i j : Nat} {v : Int64} (h : j ≠ k) : ce E (wdL w k i v) j = ce E w j := by
  unfold ce
  rw [fvs_L, show (wdL w k i v).1 j = w.1 j from rfl, show (wdL w k i v).2.1 j = w.2.1 j from if_neg h]
theorem AA_mono {E : Ev} {s1 s2 : Nat} (h : s1 ≤ s2) {q : Nat} (hq : AA E s2 q) : AA E s1 q := hq.elim Or.inl (fun z => Or.inr (Nat.le_trans h z))
theorem Evn_blind {E : Ev} {A : Nat → Prop} {U : State} {H : Heap} (g : JFrame) (mk : MethodId) (a : Array Value) (h : Evn E A U H) : Evn E A (U.calling g mk a) H :=
  ⟨va_K.moved (u := U) (U := U.calling g mk a) (Vm.Alike.refl U.vm) h.1, fun j hj => ⟨va_Z.moved (u := U) (U := U.calling g mk a) (Vm.Alike.refl U.vm) (h.2.1 j hj).1, va_T.moved (u := U) (U := U.calling g mk a) (Vm.Alike.refl U.vm) (h.2.1 j hj).2⟩, fun w hw => va_Nw.same (by simp only [nwl, List.mem_cons, List.not_mem_nil, or_false] at hw; rcases hw with rfl | rfl | rfl | rfl <;> rfl) (u := U) (U := U.calling g mk a) rfl (h.2.2 w hw)⟩
theorem Evn_go {E : Ev} {s U : State} {H : Heap} {locs : List Loc} (hS : va_S (AA E s.heap.size) s.heap H locs) (hW : s.WarmedH U.vm) (h : Evn E (AA E s.heap.size) s s.heap) : Evn E (AA E H.size) U H := by
  refine ⟨va_K.moved hW.alike h.1, fun j hj => ⟨?_, ?_⟩, fun w hw => ?_⟩
  · exact (((h.2.1 j hj).1.kept hS.2.1).moved hW.alike).narrow (fun q hq => AA_mono hS.1 hq)
  · exact (((h.2.1 j hj).2.kept hS.2.1).moved hW.alike).narrow (fun q hq => AA_mono hS.1 hq)
  · have h1 := h.2.2 w hw
    simp only [nwl, List.mem_cons, List.not_mem_nil, or_false] at hw
    rcases hw with rfl | rfl | rfl | rfl <;> exact va_Nw.warmM hW h1
theorem Ct.of {α : Type} {E : Ev} {M : Mt} {y : MethodName} {rt : α → Option Value} {av : List Value} {w : Wd} {F : Option (α × Wd)} (hy : plainName y.cls = true) (ho : y.cls = M.1) (hle : (lg_sl av).length ≤ M.2.2.1) (h : Sim E M rt 0 (lv_args 0 av) [] w F) : Ct E M y rt av w F := by
  intro x w' hF sz
  refine Met.ofW (cc := M.2.1) (maxL := M.2.2.1) (ret := M.2.2.2.1) hy rfl ?_
  intro p e s m args below meth c s₁ B hml hv
  obtain ⟨rfl, hsz, hP, hD, hE⟩ := hv
  subst hsz
  have hts := atoms_spec (ws := .code y M.2.1 M.2.2.1 M.2.2.2.1 :: TB) B.pre
  have hown : s.vm.findClass M.1 = some m.cls := by rw [← ho]; exact findClass_of_methodNamed B.named
  rw [lg_entry_eq]
  exact h x w' hF p e s m _ below meth c s.heap [] _ ⟨B.exec, B.bytes, hml, hown, fun w hw => hts w (List.mem_cons_of_mem _ hw)⟩ B.returns B.notSynchronized hE hP (wv_D _ hD) va_S.rf (lv_entry av hle)
section RULES
variable {α : Type} {E : Ev} {M : Mt} {rt : α → Option Value} {pc q : Nat} {lv : List (Nat × Value)} {st : List Value} {w : Wd} {F F1 F2 : Option (α × Wd)}
theorem Sim.go {pc' : Nat} {st' : List Value} (h : Sim E M rt pc' lv st' w F) (k : ∀ {p : Program} {e : Env} {s : State} {m : MethodId} {args : Array Value} {below : List Frame} {meth : Method} {c : Code} {H : Heap} {locs : List Loc} {ls : Array Slot} {Q : State → Prop}, p.tables.exec = Jvm.exec → c.code = M.2.1 → s.vm.findClass M.1 = some m.cls → (∀ w ∈ TB, w.before args s = true) → lv_has ls M.2.2.1 lv → W p E.1 e (rmd M.2.2.2.2) s m args below meth c H locs 0 0 Q (F0 m pc' ls st') → W p E.1 e (rmd M.2.2.2.2) s m args below meth c H locs 0 0 Q (F0 m pc ls st)) : Sim E M rt pc lv st w F :=
  fun x w' hF p e s m args below meth c H locs ls C hr hk hE hP hD hS hl => k C.1 C.2.1 C.2.2.2.1 C.2.2.2.2 hl (h x w' hF p e s m args below meth c H locs ls C hr hk hE hP hD hS hl)
theorem Sim.sto {pc' : Nat} {lv' : List (Nat × Value)} {st' : List Value} (h : Sim E M rt pc' lv' st' w F) (k : ∀ {p : Program} {e : Env} {s : State} {m : MethodId} {args : Array Value} {below : List Frame} {meth : Method} {c : Code} {H : Heap} {locs : List Loc} {ls : Array Slot} {Q : State → Prop}, p.tables.exec = Jvm.exec → c.code = M.2.1 → lv_has ls M.2.2.1 lv → (∀ ls' : Array Slot, lv_has ls' M.2.2.1 lv' → W p E.1 e (rmd M.2.2.2.2) s m args below meth c H locs 0 0 Q (F0 m pc' ls' st')) → W p E.1 e (rmd M.2.2.2.2) s m args below meth c H locs 0 0 Q (F0 m pc ls st)) : Sim E M rt pc lv st w F :=
  fun x w' hF p e s m args below meth c H locs ls C hr hk hE hP hD hS hl => k C.1 C.2.1 hl (fun ls' hl' => h x w' hF p e s m args below meth c H locs ls' C hr hk hE hP hD hS hl')
theorem sim_sub {lv' : List (Nat × Value)} (ks : List Nat) (hk : lv_pick lv ks = lv') (h : Sim E M rt pc lv' st w F) : Sim E M rt pc lv st w F :=
  fun x w' hF p e s m args below meth c H locs ls C hr hk' hE hP hD hS hl => h x w' hF p e s m args below meth c H locs ls C hr hk' hE hP hD hS (lv_sub hl ks hk)
theorem sim_none : Sim E M rt pc lv st w none := fun _ _ hF => by cases hF
theorem sim_guard {b : Prop} [Decidable b] (h : b → Sim E M rt pc lv st w F) : Sim E M rt pc lv st w (if b then F else none) := by
  by_cases hb : b
  · rw [if_pos hb]; exact h hb
  · rw [if_neg hb]; exact sim_none
theorem sim_iadd {x y : Int32} (hd : decode M.2.1 pc = .ok (.iadd, 1)) (hp : pc + 1 = q) (h : Sim E M rt q lv (.int (x + y) :: st) w F) : Sim E M rt pc lv (.int y :: .int x :: st) w F := by
  subst hp
  exact h.go (fun hx hb ho ht hl kk => lv_iadd hx hb hd kk)
theorem sim_isub {x y : Int32} (hd : decode M.2.1 pc = .ok (.isub, 1)) (hp : pc + 1 = q) (h : Sim E M rt q lv (.int (x - y) :: st) w F) : Sim E M rt pc lv (.int y :: .int x :: st) w F := by
  subst hp
  exact h.go (fun hx hb ho ht hl kk => lv_isub hx hb hd kk)
theorem sim_imul {x y : Int32} (hd : decode M.2.1 pc = .ok (.imul, 1)) (hp : pc + 1 = q) (h : Sim E M rt q lv (.int (x * y) :: st) w F) : Sim E M rt pc lv (.int y :: .int x :: st) w F := by
  subst hp
  exact h.go (fun hx hb ho ht hl kk => lv_imul hx hb hd kk)
theorem sim_iand {x y : Int32} (hd : decode M.2.1 pc = .ok (.iand, 1)) (hp : pc + 1 = q) (h : Sim E M rt q lv (.int (x &&& y) :: st) w F) : Sim E M rt pc lv (.int y :: .int x :: st) w F := by
  subst hp
  exact h.go (fun hx hb ho ht hl kk => lv_iand hx hb hd kk)
theorem sim_ior {x y : Int32} (hd : decode M.2.1 pc = .ok (.ior, 1)) (hp : pc + 1 = q) (h : Sim E M rt q lv (.int (x ||| y) :: st) w F) : Sim E M rt pc lv (.int y :: .int x :: st) w F := by
  subst hp
  exact h.go (fun hx hb ho ht hl kk => lv_ior hx hb hd kk)
theorem sim_ishl {x y : Int32} (hd : decode M.2.1 pc = .ok (.ishl, 1)) (hp : pc + 1 = q) (h : Sim E M rt q lv (.int (x <<< (y &&& 31)) :: st) w F) : Sim E M rt pc lv (.int y :: .int x :: st) w F := by
  subst hp
  exact h.go (fun hx hb ho ht hl kk => lv_ishl hx hb hd kk)
theorem sim_ishr {x y : Int32} (hd : decode M.2.1 pc = .ok (.ishr, 1)) (hp : pc + 1 = q) (h : Sim E M rt q lv (.int (x >>> (y &&& 31)) :: st) w F) : Sim E M rt pc lv (.int y :: .int x :: st) w F := by
  subst hp
  exact h.go (fun hx hb ho ht hl kk => lv_ishr hx hb hd kk)
theorem sim_ineg {x : Int32} (hd : decode M.2.1 pc = .ok (.ineg, 1)) (hp : pc + 1 = q) (h : Sim E M rt q lv (.int (-x) :: st) w F) : Sim E M rt pc lv (.int x :: st) w F := by
  subst hp
  exact h.go (fun hx hb ho ht hl kk => lv_ineg hx hb hd kk)
theorem sim_iconst {n : Int} (v : Int32) (hd : decode M.2.1 pc = .ok (.iconst n, 1)) (hv : Int32.ofInt n = v) (hp : pc + 1 = q) (h : Sim E M rt q lv (.int v :: st) w F) : Sim E M rt pc lv (st) w F := by
  subst hp
  exact h.go (fun hx hb ho ht hl kk => lv_iconst hx hb hd hv kk)
theorem sim_bipush {n : Int} (v : Int32) (hd : decode M.2.1 pc = .ok (.bipush n, 2)) (hv : (Int8.ofInt n).toInt32 = v) (hp : pc + 2 = q) (h : Sim E M rt q lv (.int v :: st) w F) : Sim E M rt pc lv (st) w F := by
  subst hp
  exact h.go (fun hx hb ho ht hl kk => lv_bipush hx hb hd hv kk)
theorem sim_sipush {n : Int} (v : Int32) (hd : decode M.2.1 pc = .ok (.sipush n, 3)) (hv : (Int16.ofInt n).toInt32 = v) (hp : pc + 3 = q) (h : Sim E M rt q lv (.int v :: st) w F) : Sim E M rt pc lv (st) w F := by
  subst hp
  exact h.go (fun hx hb ho ht hl kk => lv_sipush hx hb hd hv kk)
theorem sim_lconst {n : Fin 2} (v : Int64) (hd : decode M.2.1 pc = .ok (.lconst n, 1)) (hv : Int64.ofNat (n : Nat) = v) (hp : pc + 1 = q) (h : Sim E M rt q lv (.long v :: st) w F) : Sim E M rt pc lv (st) w F := by
  subst hp
  exact h.go (fun hx hb ho ht hl kk => lv_lconst hx hb hd hv kk)
theorem sim_ldc {i : Nat} (v : Int32) (hd : decode M.2.1 pc = .ok (.ldc i, 2)) (hc : Cond.constant M.1 i v ∈ TB) (hp : pc + 2 = q) (h : Sim E M rt q lv (.int v :: st) w F) : Sim E M rt pc lv (st) w F := by
  subst hp
  exact h.go (fun hx hb ho ht hl kk => lv_ldc hx hb ho (ht _ hc) hd kk)
theorem sim_ldc2 {i : Nat} (v : Int64) (hd : decode M.2.1 pc = .ok (.ldc2_w i, 3)) (hc : Cond.constantLong M.1 i v ∈ TB) (hp : pc + 3 = q) (h : Sim E M rt q lv (.long v :: st) w F) : Sim E M rt pc lv (st) w F := by
  subst hp
  exact h.go (fun hx hb ho ht hl kk => lv_ldc2 hx hb ho (ht _ hc) hd kk)
theorem sim_iload {i : Nat} {x : Int32} (k : Nat) (hd : decode M.2.1 pc = .ok (.iload i, 2)) (hk : lv[k]? = some (i, .int x)) (hp : pc + 2 = q) (h : Sim E M rt q lv (.int x :: st) w F) : Sim E M rt pc lv (st) w F := by
  subst hp
  exact h.go (fun hx hb ho ht hl kk => lv_iload hx hb hd (lv_at hl k hk) kk)
theorem sim_iload_n {i : Fin 4} {x : Int32} (k : Nat) (hd : decode M.2.1 pc = .ok (.iload_n i, 1)) (hk : lv[k]? = some ((i : Nat), .int x)) (hp : pc + 1 = q) (h : Sim E M rt q lv (.int x :: st) w F) : Sim E M rt pc lv (st) w F := by
  subst hp
  exact h.go (fun hx hb ho ht hl kk => lv_iload_n hx hb hd rfl (lv_at hl k hk) kk)
theorem sim_aload {i : Nat} {x : Nat} (k : Nat) (hd : decode M.2.1 pc = .ok (.aload i, 2)) (hk : lv[k]? = some (i, .ref x)) (hp : pc + 2 = q) (h : Sim E M rt q lv (.ref x :: st) w F) : Sim E M rt pc lv (st) w F := by
  subst hp
  exact h.go (fun hx hb ho ht hl kk => lv_aload hx hb hd (lv_at hl k hk) kk)
theorem sim_aload_n {i : Fin 4} {x : Nat} (k : Nat) (hd : decode M.2.1 pc = .ok (.aload_n i, 1)) (hk : lv[k]? = some ((i : Nat), .ref x)) (hp : pc + 1 = q) (h : Sim E M rt q lv (.ref x :: st) w F) : Sim E M rt pc lv (st) w F := by
  subst hp
  exact h.go (fun hx hb ho ht hl kk => lv_aload_n hx hb hd rfl (lv_at hl k hk) kk)
theorem sim_lload {i : Nat} {x : Int64} (k : Nat) (hd : decode M.2.1 pc = .ok (.lload i, 2)) (hk : lv[k]? = some (i, .long x)) (hp : pc + 2 = q) (h : Sim E M rt q lv (.long x :: st) w F) : Sim E M rt pc lv (st) w F := by
  subst hp
  exact h.go (fun hx hb ho ht hl kk => lv_lload hx hb hd (lv_at hl k hk) kk)
theorem sim_lload_n {i : Fin 4} {x : Int64} (k : Nat) (hd : decode M.2.1 pc = .ok (.lload_n i, 1)) (hk : lv[k]? = some ((i : Nat), .long x)) (hp : pc + 1 = q) (h : Sim E M rt q lv (.long x :: st) w F) : Sim E M rt pc lv (st) w F := by
  subst hp
  exact h.go (fun hx hb ho ht hl kk => lv_lload_n hx hb hd rfl (lv_at hl k hk) kk)
theorem sim_dup {v : Value} (hd : decode M.2.1 pc = .ok (.dup, 1)) (hv : v.category = 1) (hp : pc + 1 = q) (h : Sim E M rt q lv (v :: v :: st) w F) : Sim E M rt pc lv (v :: st) w F := by
  subst hp
  exact h.go (fun hx hb ho ht hl kk => lv_dup hx hb hd hv kk)
theorem sim_dup2 {u v : Value} (hd : decode M.2.1 pc = .ok (.dup2, 1)) (hv : v.category = 1) (hu : u.category = 1) (hp : pc + 1 = q) (h : Sim E M rt q lv (v :: u :: v :: u :: st) w F) : Sim E M rt pc lv (v :: u :: st) w F := by
  subst hp
  exact h.go (fun hx hb ho ht hl kk => lv_dup2_11 hx hb hd hv hu kk)
theorem sim_dup_x1 {u v : Value} (hd : decode M.2.1 pc = .ok (.dup_x1, 1)) (hv : v.category = 1) (hu : u.category = 1) (hp : pc + 1 = q) (h : Sim E M rt q lv (v :: u :: v :: st) w F) : Sim E M rt pc lv (v :: u :: st) w F := by
  subst hp
  exact h.go (fun hx hb ho ht hl kk => lv_dup_x1 hx hb hd hv hu kk)
theorem sim_i2l {x : Int32} (hd : decode M.2.1 pc = .ok (.i2l, 1)) (hp : pc + 1 = q) (h : Sim E M rt q lv (.long x.toInt64 :: st) w F) : Sim E M rt pc lv (.int x :: st) w F := by
  subst hp
  exact h.go (fun hx hb ho ht hl kk => lv_i2l hx hb hd rfl kk)
theorem sim_i2b {x : Int32} (hd : decode M.2.1 pc = .ok (.i2b, 1)) (hp : pc + 1 = q) (h : Sim E M rt q lv (.int x.toInt8.toInt32 :: st) w F) : Sim E M rt pc lv (.int x :: st) w F := by
  subst hp
  exact h.go (fun hx hb ho ht hl kk => lv_i2b hx hb hd rfl kk)
theorem sim_i2s {x : Int32} (hd : decode M.2.1 pc = .ok (.i2s, 1)) (hp : pc + 1 = q) (h : Sim E M rt q lv (.int x.toInt16.toInt32 :: st) w F) : Sim E M rt pc lv (.int x :: st) w F := by
  subst hp
  exact h.go (fun hx hb ho ht hl kk => lv_i2s hx hb hd rfl kk)
theorem sim_i2c {x : Int32} (hd : decode M.2.1 pc = .ok (.i2c, 1)) (hp : pc + 1 = q) (h : Sim E M rt q lv (.int (x.toUInt32 % 65536).toInt32 :: st) w F) : Sim E M rt pc lv (.int x :: st) w F := by
  subst hp
  exact h.go (fun hx hb ho ht hl kk => lv_i2c hx hb hd rfl kk)
theorem sim_ladd {x y : Int64} (hd : decode M.2.1 pc = .ok (.ladd, 1)) (hp : pc + 1 = q) (h : Sim E M rt q lv (.long (x + y) :: st) w F) : Sim E M rt pc lv (.long y :: .long x :: st) w F := by
  subst hp
  exact h.go (fun hx hb ho ht hl kk => lv_ladd hx hb hd kk)
theorem sim_lmul {x y : Int64} (hd : decode M.2.1 pc = .ok (.lmul, 1)) (hp : pc + 1 = q) (h : Sim E M rt q lv (.long (x * y) :: st) w F) : Sim E M rt pc lv (.long y :: .long x :: st) w F := by
  subst hp
  exact h.go (fun hx hb ho ht hl kk => lv_lmul hx hb hd kk)
theorem sim_lor {x y : Int64} (hd : decode M.2.1 pc = .ok (.lor, 1)) (hp : pc + 1 = q) (h : Sim E M rt q lv (.long (x ||| y) :: st) w F) : Sim E M rt pc lv (.long y :: .long x :: st) w F := by
  subst hp
  exact h.go (fun hx hb ho ht hl kk => lv_lor hx hb hd kk)
theorem sim_lshl {x : Int64} {y : Int32} (hd : decode M.2.1 pc = .ok (.lshl, 1)) (hp : pc + 1 = q) (h : Sim E M rt q lv (.long (x <<< (y.toInt64 &&& 63)) :: st) w F) : Sim E M rt pc lv (.int y :: .long x :: st) w F := by
  subst hp
  exact h.go (fun hx hb ho ht hl kk => lv_lshl hx hb hd rfl kk)
theorem sim_lcmp {x y : Int64} (hd : decode M.2.1 pc = .ok (.lcmp, 1)) (hp : pc + 1 = q) (h : Sim E M rt q lv (.int (lg_cmp x y) :: st) w F) : Sim E M rt pc lv (.long y :: .long x :: st) w F := by
  subst hp
  exact h.go (fun hx hb ho ht hl kk => W.lcmp hx hb hd kk)
theorem sim_goto {off : Int} (hd : decode M.2.1 pc = .ok (.goto off, 3)) (ht : (pc : Int) + off = (q : Int)) (h : Sim E M rt q lv st w F) : Sim E M rt pc lv st w F := h.go (fun hx hb ho ht2 hl k => lv_goto hx hb hd ht k)
theorem sim_idiv {x y : Int32} (hd : decode M.2.1 pc = .ok (.idiv, 1)) (hp : pc + 1 = q) (h : Sim E M rt q lv (.int (x / y) :: st) w F) : Sim E M rt pc lv (.int y :: .int x :: st) w (if ¬ y = 0 then F else none) := by
  subst hp
  refine sim_guard (fun hy => ?_)
  exact h.go (fun hx hb ho ht hl k => lv_idiv hx hb hd hy k)
theorem sim_irem {x y : Int32} (hd : decode M.2.1 pc = .ok (.irem, 1)) (hp : pc + 1 = q) (h : Sim E M rt q lv (.int (x - x / y * y) :: st) w F) : Sim E M rt pc lv (.int y :: .int x :: st) w (if ¬ y = 0 then F else none) := by
  subst hp
  refine sim_guard (fun hy => ?_)
  exact h.go (fun hx hb ho ht hl k => lv_irem hx hb hd hy k)
theorem sim_istore {i : Nat} {x : Int32} (lv2 : List (Nat × Value)) (hd : decode M.2.1 pc = .ok (.istore i, 2)) (hn : i < M.2.2.1) (hl2 : (i, Value.int x) :: lv.filter (fun q => !(q.1 == i) && !(q.1 + 1 == i && q.2.category == 2)) = lv2) (hp : pc + 2 = q) (h : Sim E M rt q lv2 st w F) : Sim E M rt pc lv (.int x :: st) w F := by
  subst hp
  exact h.sto (fun hx hb hl k => lv_istore hx hb hd hl hn hl2 k)
theorem sim_istore_n {i : Fin 4} {x : Int32} (lv2 : List (Nat × Value)) (hd : decode M.2.1 pc = .ok (.istore_n i, 1)) (hn : (i : Nat) < M.2.2.1) (hl2 : ((i : Nat), Value.int x) :: lv.filter (fun q => !(q.1 == (i : Nat)) && !(q.1 + 1 == (i : Nat) && q.2.category == 2)) = lv2) (hp : pc + 1 = q) (h : Sim E M rt q lv2 st w F) : Sim E M rt pc lv (.int x :: st) w F := by
  subst hp
  exact h.sto (fun hx hb hl k => lv_istore_n hx hb hd rfl hl hn hl2 k)
theorem sim_astore_n {i : Fin 4} {x : Nat} (lv2 : List (Nat × Value)) (hd : decode M.2.1 pc = .ok (.astore_n i, 1)) (hn : (i : Nat) < M.2.2.1) (hl2 : ((i : Nat), Value.ref x) :: lv.filter (fun q => !(q.1 == (i : Nat)) && !(q.1 + 1 == (i : Nat) && q.2.category == 2)) = lv2) (hp : pc + 1 = q) (h : Sim E M rt q lv2 st w F) : Sim E M rt pc lv (.ref x :: st) w F := by
  subst hp
  exact h.sto (fun hx hb hl k => lv_astore_n hx hb hd rfl hl hn hl2 k)
theorem sim_lstore {i : Nat} {x : Int64} (lv2 : List (Nat × Value)) (hd : decode M.2.1 pc = .ok (.lstore i, 2)) (hn : i + 1 < M.2.2.1) (hl2 : (i, Value.long x) :: lv.filter (fun q => !(q.1 == i) && (!(q.1 == i + 1) && !(q.1 + 1 == i && q.2.category == 2))) = lv2) (hp : pc + 2 = q) (h : Sim E M rt q lv2 st w F) : Sim E M rt pc lv (.long x :: st) w F := by
  subst hp
  exact h.sto (fun hx hb hl k => lv_lstore hx hb hd hl hn hl2 k)
theorem sim_lstore_n {i : Fin 4} {x : Int64} (lv2 : List (Nat × Value)) (hd : decode M.2.1 pc = .ok (.lstore_n i, 1)) (hn : (i : Nat) + 1 < M.2.2.1) (hl2 : ((i : Nat), Value.long x) :: lv.filter (fun q => !(q.1 == (i : Nat)) && (!(q.1 == (i : Nat) + 1) && !(q.1 + 1 == (i : Nat) && q.2.category == 2))) = lv2) (hp : pc + 1 = q) (h : Sim E M rt q lv2 st w F) : Sim E M rt pc lv (.long x :: st) w F := by
  subst hp
  exact h.sto (fun hx hb hl k => lv_lstore_n hx hb hd rfl hl hn hl2 k)
theorem sim_iinc {i : Nat} {n : Int} {x : Int32} (v : Int32) (k : Nat) (lv2 : List (Nat × Value)) (hd : decode M.2.1 pc = .ok (.iinc i n, 3)) (hk : lv[k]? = some (i, .int x)) (hv : x + Int32.ofInt n = v) (hn : i < M.2.2.1) (hl2 : (i, Value.int v) :: lv.filter (fun q => !(q.1 == i) && !(q.1 + 1 == i && q.2.category == 2)) = lv2) (hp : pc + 3 = q) (h : Sim E M rt q lv2 st w F) : Sim E M rt pc lv st w F := by
  subst hp
  exact h.sto (fun hx hb hl kk => lv_iinc hx hb hd hl hk hv hn hl2 kk)
theorem sim_if_ne {x : Int32} {off : Int} (tgt : Nat) (hd : decode M.2.1 pc = .ok (.ifCond .ne off, 3)) (ht : (pc : Int) + off = (tgt : Int)) (hp : pc + 3 = q) (h1 : ¬ (x = 0) → Sim E M rt tgt lv st w F1) (h2 : x = 0 → Sim E M rt q lv st w F2) : Sim E M rt pc lv (.int x :: st) w (if x = 0 then F2 else F1) := by
  subst hp
  intro r w' hF p e s m args below meth c H locs ls C hr hk hE hP hD hS hl
  exact lv_if_ne C.1 C.2.1 hd ht (fun z => h1 z r w' (by rw [if_neg z] at hF; exact hF) p e s m args below meth c H locs ls C hr hk hE hP hD hS hl) (fun z => h2 z r w' (by rw [if_pos z] at hF; exact hF) p e s m args below meth c H locs ls C hr hk hE hP hD hS hl)
theorem sim_icmp_ne {x y : Int32} {off : Int} (tgt : Nat) (hd : decode M.2.1 pc = .ok (.if_icmp .ne off, 3)) (ht : (pc : Int) + off = (tgt : Int)) (hp : pc + 3 = q) (h1 : ¬ (x = y) → Sim E M rt tgt lv st w F1) (h2 : x = y → Sim E M rt q lv st w F2) : Sim E M rt pc lv (.int y :: .int x :: st) w (if x = y then F2 else F1) := by
  subst hp
  intro r w' hF p e s m args below meth c H locs ls C hr hk hE hP hD hS hl
  exact lv_icmp_ne C.1 C.2.1 hd ht (fun z => h1 z r w' (by rw [if_neg z] at hF; exact hF) p e s m args below meth c H locs ls C hr hk hE hP hD hS hl) (fun z => h2 z r w' (by rw [if_pos z] at hF; exact hF) p e s m args below meth c H locs ls C hr hk hE hP hD hS hl)
theorem sim_if_eq {x : Int32} {off : Int} (tgt : Nat) (hd : decode M.2.1 pc = .ok (.ifCond .eq off, 3)) (ht : (pc : Int) + off = (tgt : Int)) (hp : pc + 3 = q) (h1 : x = 0 → Sim E M rt tgt lv st w F1) (h2 : ¬ (x = 0) → Sim E M rt q lv st w F2) : Sim E M rt pc lv (.int x :: st) w (if x = 0 then F1 else F2) := by
  subst hp
  intro r w' hF p e s m args below meth c H locs ls C hr hk hE hP hD hS hl
  exact lv_if_eq C.1 C.2.1 hd ht (fun z => h1 z r w' (by rw [if_pos z] at hF; exact hF) p e s m args below meth c H locs ls C hr hk hE hP hD hS hl) (fun z => h2 z r w' (by rw [if_neg z] at hF; exact hF) p e s m args below meth c H locs ls C hr hk hE hP hD hS hl)
theorem sim_icmp_eq {x y : Int32} {off : Int} (tgt : Nat) (hd : decode M.2.1 pc = .ok (.if_icmp .eq off, 3)) (ht : (pc : Int) + off = (tgt : Int)) (hp : pc + 3 = q) (h1 : x = y → Sim E M rt tgt lv st w F1) (h2 : ¬ (x = y) → Sim E M rt q lv st w F2) : Sim E M rt pc lv (.int y :: .int x :: st) w (if x = y then F1 else F2) := by
  subst hp
  intro r w' hF p e s m args below meth c H locs ls C hr hk hE hP hD hS hl
  exact lv_icmp_eq C.1 C.2.1 hd ht (fun z => h1 z r w' (by rw [if_pos z] at hF; exact hF) p e s m args below meth c H locs ls C hr hk hE hP hD hS hl) (fun z => h2 z r w' (by rw [if_neg z] at hF; exact hF) p e s m args below meth c H locs ls C hr hk hE hP hD hS hl)
theorem sim_if_lt {x : Int32} {off : Int} (tgt : Nat) (hd : decode M.2.1 pc = .ok (.ifCond .lt off, 3)) (ht : (pc : Int) + off = (tgt : Int)) (hp : pc + 3 = q) (h1 : x < 0 → Sim E M rt tgt lv st w F1) (h2 : ¬ (x < 0) → Sim E M rt q lv st w F2) : Sim E M rt pc lv (.int x :: st) w (if x < 0 then F1 else F2) := by
  subst hp
  intro r w' hF p e s m args below meth c H locs ls C hr hk hE hP hD hS hl
  exact lv_if_lt C.1 C.2.1 hd ht (fun z => h1 z r w' (by rw [if_pos z] at hF; exact hF) p e s m args below meth c H locs ls C hr hk hE hP hD hS hl) (fun z => h2 z r w' (by rw [if_neg z] at hF; exact hF) p e s m args below meth c H locs ls C hr hk hE hP hD hS hl)
theorem sim_icmp_lt {x y : Int32} {off : Int} (tgt : Nat) (hd : decode M.2.1 pc = .ok (.if_icmp .lt off, 3)) (ht : (pc : Int) + off = (tgt : Int)) (hp : pc + 3 = q) (h1 : x < y → Sim E M rt tgt lv st w F1) (h2 : ¬ (x < y) → Sim E M rt q lv st w F2) : Sim E M rt pc lv (.int y :: .int x :: st) w (if x < y then F1 else F2) := by
  subst hp
  intro r w' hF p e s m args below meth c H locs ls C hr hk hE hP hD hS hl
  exact lv_icmp_lt C.1 C.2.1 hd ht (fun z => h1 z r w' (by rw [if_pos z] at hF; exact hF) p e s m args below meth c H locs ls C hr hk hE hP hD hS hl) (fun z => h2 z r w' (by rw [if_neg z] at hF; exact hF) p e s m args below meth c H locs ls C hr hk hE hP hD hS hl)
theorem sim_if_ge {x : Int32} {off : Int} (tgt : Nat) (hd : decode M.2.1 pc = .ok (.ifCond .ge off, 3)) (ht : (pc : Int) + off = (tgt : Int)) (hp : pc + 3 = q) (h1 : 0 ≤ x → Sim E M rt tgt lv st w F1) (h2 : ¬ (0 ≤ x) → Sim E M rt q lv st w F2) : Sim E M rt pc lv (.int x :: st) w (if 0 ≤ x then F1 else F2) := by
  subst hp
  intro r w' hF p e s m args below meth c H locs ls C hr hk hE hP hD hS hl
  exact lv_if_ge C.1 C.2.1 hd ht (fun z => h1 z r w' (by rw [if_pos z] at hF; exact hF) p e s m args below meth c H locs ls C hr hk hE hP hD hS hl) (fun z => h2 z r w' (by rw [if_neg z] at hF; exact hF) p e s m args below meth c H locs ls C hr hk hE hP hD hS hl)
theorem sim_icmp_ge {x y : Int32} {off : Int} (tgt : Nat) (hd : decode M.2.1 pc = .ok (.if_icmp .ge off, 3)) (ht : (pc : Int) + off = (tgt : Int)) (hp : pc + 3 = q) (h1 : y ≤ x → Sim E M rt tgt lv st w F1) (h2 : ¬ (y ≤ x) → Sim E M rt q lv st w F2) : Sim E M rt pc lv (.int y :: .int x :: st) w (if y ≤ x then F1 else F2) := by
  subst hp
  intro r w' hF p e s m args below meth c H locs ls C hr hk hE hP hD hS hl
  exact lv_icmp_ge C.1 C.2.1 hd ht (fun z => h1 z r w' (by rw [if_pos z] at hF; exact hF) p e s m args below meth c H locs ls C hr hk hE hP hD hS hl) (fun z => h2 z r w' (by rw [if_neg z] at hF; exact hF) p e s m args below meth c H locs ls C hr hk hE hP hD hS hl)
theorem sim_if_gt {x : Int32} {off : Int} (tgt : Nat) (hd : decode M.2.1 pc = .ok (.ifCond .gt off, 3)) (ht : (pc : Int) + off = (tgt : Int)) (hp : pc + 3 = q) (h1 : 0 < x → Sim E M rt tgt lv st w F1) (h2 : ¬ (0 < x) → Sim E M rt q lv st w F2) : Sim E M rt pc lv (.int x :: st) w (if 0 < x then F1 else F2) := by
  subst hp
  intro r w' hF p e s m args below meth c H locs ls C hr hk hE hP hD hS hl
  exact lv_if_gt C.1 C.2.1 hd ht (fun z => h1 z r w' (by rw [if_pos z] at hF; exact hF) p e s m args below meth c H locs ls C hr hk hE hP hD hS hl) (fun z => h2 z r w' (by rw [if_neg z] at hF; exact hF) p e s m args below meth c H locs ls C hr hk hE hP hD hS hl)
theorem sim_icmp_gt {x y : Int32} {off : Int} (tgt : Nat) (hd : decode M.2.1 pc = .ok (.if_icmp .gt off, 3)) (ht : (pc : Int) + off = (tgt : Int)) (hp : pc + 3 = q) (h1 : y < x → Sim E M rt tgt lv st w F1) (h2 : ¬ (y < x) → Sim E M rt q lv st w F2) : Sim E M rt pc lv (.int y :: .int x :: st) w (if y < x then F1 else F2) := by
  subst hp
  intro r w' hF p e s m args below meth c H locs ls C hr hk hE hP hD hS hl
  exact lv_icmp_gt C.1 C.2.1 hd ht (fun z => h1 z r w' (by rw [if_pos z] at hF; exact hF) p e s m args below meth c H locs ls C hr hk hE hP hD hS hl) (fun z => h2 z r w' (by rw [if_neg z] at hF; exact hF) p e s m args below meth c H locs ls C hr hk hE hP hD hS hl)
theorem sim_if_le {x : Int32} {off : Int} (tgt : Nat) (hd : decode M.2.1 pc = .ok (.ifCond .le off, 3)) (ht : (pc : Int) + off = (tgt : Int)) (hp : pc + 3 = q) (h1 : x ≤ 0 → Sim E M rt tgt lv st w F1) (h2 : ¬ (x ≤ 0) → Sim E M rt q lv st w F2) : Sim E M rt pc lv (.int x :: st) w (if x ≤ 0 then F1 else F2) := by
  subst hp
  intro r w' hF p e s m args below meth c H locs ls C hr hk hE hP hD hS hl
  exact lv_if_le C.1 C.2.1 hd ht (fun z => h1 z r w' (by rw [if_pos z] at hF; exact hF) p e s m args below meth c H locs ls C hr hk hE hP hD hS hl) (fun z => h2 z r w' (by rw [if_neg z] at hF; exact hF) p e s m args below meth c H locs ls C hr hk hE hP hD hS hl)
theorem sim_icmp_le {x y : Int32} {off : Int} (tgt : Nat) (hd : decode M.2.1 pc = .ok (.if_icmp .le off, 3)) (ht : (pc : Int) + off = (tgt : Int)) (hp : pc + 3 = q) (h1 : x ≤ y → Sim E M rt tgt lv st w F1) (h2 : ¬ (x ≤ y) → Sim E M rt q lv st w F2) : Sim E M rt pc lv (.int y :: .int x :: st) w (if x ≤ y then F1 else F2) := by
  subst hp
  intro r w' hF p e s m args below meth c H locs ls C hr hk hE hP hD hS hl
  exact lv_icmp_le C.1 C.2.1 hd ht (fun z => h1 z r w' (by rw [if_pos z] at hF; exact hF) p e s m args below meth c H locs ls C hr hk hE hP hD hS hl) (fun z => h2 z r w' (by rw [if_neg z] at hF; exact hF) p e s m args below meth c H locs ls C hr hk hE hP hD hS hl)
theorem sim_iret {x : Int32} (hr : M.2.2.2.1 = some .int) (hd : decode M.2.1 pc = .ok (.ireturn, 1)) : Sim E M rI pc lv [.int x] w (some (x, w)) := by
  intro r w' hF p e s m args below meth c H locs ls C hrt hk hE hP hD hS hl
  cases hF
  exact W.iret C.1 C.2.1 (hrt.trans hr) (fun t ht hW => ⟨rfl, by rw [ht]; exact hP, hD, hS.F ht⟩) hS.2.2 hd hk
def zb (x : Int32) : Bool := decide (x = 0) || decide (x = 1)
theorem zb_nar {x : Int32} (h : zb x = true) : narrow .boolean (.int x) = .int x := by
  simp only [zb, Bool.or_eq_true, decide_eq_true_eq] at h
  rcases h with rfl | rfl <;> rfl
theorem sim_zret {x : Int32} (hr : M.2.2.2.1 = some .boolean) (hd : decode M.2.1 pc = .ok (.ireturn, 1)) : Sim E M rI pc lv [.int x] w (if zb x = true then some (x, w) else none) := by
  refine sim_guard (fun hz => ?_)
  intro r w' hF p e s m args below meth c H locs ls C hrt hk hE hP hD hS hl
  cases hF
  exact W.zret C.1 C.2.1 (hrt.trans hr) (zb_nar hz) (fun t ht hW => ⟨rfl, by rw [ht]; exact hP, hD, hS.F ht⟩) hS.2.2 hd hk
theorem sim_lret {x : Int64} (hr : M.2.2.2.1 = some .long) (hd : decode M.2.1 pc = .ok (.lreturn, 1)) : Sim E M rJ pc lv [.long x] w (some (x, w)) := by
  intro r w' hF p e s m args below meth c H locs ls C hrt hk hE hP hD hS hl
  cases hF
  exact W.lret C.1 C.2.1 (hrt.trans hr) (fun t ht hW => ⟨rfl, by rw [ht]; exact hP, hD, hS.F ht⟩) hS.2.2 hd hk
theorem sim_vret (hr : M.2.2.2.1 = none) (hd : decode M.2.1 pc = .ok (.return_, 1)) : Sim E M rV pc lv [] w (some ((), w)) := by
  intro r w' hF p e s m args below meth c H locs ls C hrt hk hE hP hD hS hl
  cases hF
  exact W.vret C.1 C.2.1 (hrt.trans hr) (fun t ht hW => ⟨rfl, by rw [ht]; exact hP, hD, hS.F ht⟩) hS.2.2 hd hk
def FL (own : String) (idx ci j : Nat) : Prop := ∃ (C : String) (T : u_T) (n : Nat), vwCl[ci]? = some (C, T, n) ∧ j < n ∧ (∀ w ∈ u_ws C T n, w ∈ TB) ∧ Cond.fieldLink own idx (T j).1 (T j).2.1 (T j).2.2.1 ∈ TB
theorem ce_obj {k ci : Nat} (hk : kd k = ci) (hc : ci < 9) : ce E w k = .inr (ci, fvs (Ea E) w k) := by
  unfold ce
  rw [hk, if_pos hc]
theorem sim_get {k ci j idx : Nat} {v : Value} (hL : k ∈ El E) (hk : kd k = ci) (hc : ci < 9) (hf : FL M.1 idx ci j) (hv : (fvs (Ea E) w k)[j]? = some v) (hd : decode M.2.1 pc = .ok (.getfield idx, 3)) (hp : pc + 3 = q) (h : Sim E M rt q lv (v :: st) w F) : Sim E M rt pc lv (.ref (Ea E k) :: st) w F := by
  subst hp
  intro r w' hF p e s m args below meth c H locs ls C hr hk2 hE hP hD hS hl
  obtain ⟨C1, T, n, f1, f2, f3, f4⟩ := hf
  obtain ⟨p0, -, h0⟩ := wv_at w hL
  rw [ce_obj hk hc] at h0
  exact va_get (D := Ed E) (ci := ci) (v := v) (C := C1) (T := T) (N := n) C.1 C.2.1 C.2.2.2.2 f3 C.2.2.2.1 hE.1 hP p0 h0 f1 j f2 (C.2.2.2.2 _ f4) (fun _ z => z) hv hd (h r w' hF p e s m args below meth c H locs ls C hr hk2 hE hP hD hS hl)
def FP (own : String) (idx ci j : Nat) (ty : FieldType) : Prop := ∃ (C : String) (T : u_T) (n : Nat) (ty0 : Nat → FieldType), vwCl[ci]? = some (C, T, n) ∧ j < n ∧ (∀ w ∈ u_ws C T n, w ∈ TB) ∧ Cond.fieldLink own idx (T j).1 (T j).2.1 (T j).2.2.1 ∈ TB ∧ (∀ k, k < n → parseFieldDescriptor (T k).2.2.1 = some (ty0 k)) ∧ (∀ a, a < n → ∀ b, b < n → a ≠ b → (T a).2.1 ≠ (T b).2.1) ∧ (T j).2.2.2 = false ∧ parseFieldDescriptor (T j).2.2.1 = some ty
theorem sim_putx {k ci j idx : Nat} {v : Value} {ty : FieldType} {w2 : Wd} (hL : k ∈ El E) (hk : kd k = ci) (hc : ci < 9) (hf : FP M.1 idx ci j ty) (hn : narrow ty v = v) (hfit : fits ty v = true) (hset : (fvs (Ea E) w k).set j v = fvs (Ea E) w2 k) (hj : j < (fvs (Ea E) w k).length) (ho : ∀ i, i ≠ k → ce E w2 i = ce E w i) (hd : decode M.2.1 pc = .ok (.putfield idx, 3)) (hp : pc + 3 = q) (h : Sim E M rt q lv st w2 F) : Sim E M rt pc lv (v :: .ref (Ea E k) :: st) w F := by
  subst hp
  intro r w' hF p e s m args below meth c H locs ls C hr hk2 hE hP hD hS hl
  obtain ⟨C1, T, n, ty0, f1, f2, f3, f4, f5, f6, f7, f8⟩ := hf
  obtain ⟨p0, hp0, h0⟩ := wv_at w hL
  rw [ce_obj hk hc] at h0
  refine va_put (D := Ed E) (ci := ci) (v := v) (ty := ty) (C := C1) (T := T) (N := n) C.1 C.2.1 C.2.2.2.2 f3 ty0 f5 f6 C.2.2.2.1 hE.1 hP hD hS p0 h0 f1 j f2 (C.2.2.2.2 _ f4) (fun _ z => z) f7 f8 hn hfit hj hd (fun H1 locs1 hP1 hD1 hS1 => ?_)
  rw [hset, wv_set (w2 := w2) hD hp0 (ce_obj hk hc) ho] at hP1 hD1
  exact h r w' hF p e s m args below meth c H1 locs1 ls C hr hk2 hE hP1 hD1 hS1 hl
theorem sim_put {k ci j idx : Nat} {v : Int32} {ty : FieldType} (hL : k ∈ El E) (hk : kd k = ci) (hc : ci < 9) (hf : FP M.1 idx ci j ty) (hn : narrow ty (.int v) = .int v) (hfit : fits ty (.int v) = true) (hset : (fvs (Ea E) w k).set j (.int v) = fvs (Ea E) (wdI w k j v) k) (hj : j < (fvs (Ea E) w k).length) (hd : decode M.2.1 pc = .ok (.putfield idx, 3)) (hp : pc + 3 = q) (h : Sim E M rt q lv st (wdI w k j v) F) : Sim E M rt pc lv (.int v :: .ref (Ea E k) :: st) w F :=
  sim_putx hL hk hc hf hn hfit hset hj (fun i hi => ce_A hi) hd hp h
/-! arrays -/
theorem ce_int {k : Nat} (hk : kd k = 9) : ce E w k = .inl (Ey E 0, ln (En E) k, .inl (w.1 k)) := by
  unfold ce
  rw [hk]
  rfl
theorem ce_bool {k : Nat} (hk : kd k = 11) : ce E w k = .inl (Ey E 2, ln (En E) k, .inl (w.1 k)) := by
  unfold ce
  rw [hk]
  rfl
theorem ce_long {k : Nat} (hk : kd k = 10) : ce E w k = .inl (Ey E 1, ln (En E) k, .inr (.inl (w.2.1 k))) := by
  unfold ce
  rw [hk]
  rfl
theorem ce_row {k : Nat} (hk : kd k = 12) : ce E w k = .inl (Ey E 3, ln (En E) k, .inr (.inr (.inr (.inr (fun i => if i < En E then some (Ea E (k + 1 + i)) else none))))) := by
  unfold ce
  rw [hk]
  rfl
theorem sim_iaload {k n : Nat} {i : Int32} (hL : k ∈ El E) (hk : kd k = 9) (hn : ln (En E) k = n) (hd : decode M.2.1 pc = .ok (.iaload, 1)) (hp : pc + 1 = q) (h : Sim E M rt q lv (.int (w.1 k i.toNatClampNeg) :: st) w F) : Sim E M rt pc lv (.int i :: .ref (Ea E k) :: st) w (if inb i n = true then F else none) := by
  subst hp hn
  refine sim_guard (fun hi => ?_)
  intro r w' hF p e s m args below meth c H locs ls C hr hk2 hE hP hD hS hl
  obtain ⟨p0, -, h0⟩ := wv_at w hL
  rw [ce_int hk] at h0
  exact va_iald C.1 C.2.1 hE.1 hP p0 0 h0 rfl (inb_in hi) hd (h r w' hF p e s m args below meth c H locs ls C hr hk2 hE hP hD hS hl)
theorem sim_baload {k n : Nat} {i : Int32} (hL : k ∈ El E) (hk : kd k = 11) (hn : ln (En E) k = n) (hd : decode M.2.1 pc = .ok (.baload, 1)) (hp : pc + 1 = q) (h : Sim E M rt q lv (.int (w.1 k i.toNatClampNeg) :: st) w F) : Sim E M rt pc lv (.int i :: .ref (Ea E k) :: st) w (if inb i n = true then F else none) := by
  subst hp hn
  refine sim_guard (fun hi => ?_)
  intro r w' hF p e s m args below meth c H locs ls C hr hk2 hE hP hD hS hl
  obtain ⟨p0, -, h0⟩ := wv_at w hL
  rw [ce_bool hk] at h0
  exact va_zald C.1 C.2.1 hE.1 hP p0 2 h0 rfl (inb_in hi) hd (h r w' hF p e s m args below meth c H locs ls C hr hk2 hE hP hD hS hl)
theorem sim_laload {k n : Nat} {i : Int32} (hL : k ∈ El E) (hk : kd k = 10) (hn : ln (En E) k = n) (hd : decode M.2.1 pc = .ok (.laload, 1)) (hp : pc + 1 = q) (h : Sim E M rt q lv (.long (w.2.1 k i.toNatClampNeg) :: st) w F) : Sim E M rt pc lv (.int i :: .ref (Ea E k) :: st) w (if inb i n = true then F else none) := by
  subst hp hn
  refine sim_guard (fun hi => ?_)
  intro r w' hF p e s m args below meth c H locs ls C hr hk2 hE hP hD hS hl
  obtain ⟨p0, -, h0⟩ := wv_at w hL
  rw [ce_long hk] at h0
  exact va_lald C.1 C.2.1 hE.1 hP p0 1 h0 rfl (inb_in hi) hd (h r w' hF p e s m args below meth c H locs ls C hr hk2 hE hP hD hS hl)
theorem sim_aaload {k n : Nat} {i : Int32} (hL : k ∈ El E) (hk : kd k = 12) (hn : ln (En E) k = n) (hnN : n = En E) (hd : decode M.2.1 pc = .ok (.aaload, 1)) (hp : pc + 1 = q) (h : inb i n = true → Sim E M rt q lv (.ref (Ea E (k + 1 + i.toNatClampNeg)) :: st) w F) : Sim E M rt pc lv (.int i :: .ref (Ea E k) :: st) w (if inb i n = true then F else none) := by
  subst hp
  refine sim_guard (fun hi => ?_)
  replace h := h hi
  intro r w' hF p e s m args below meth c H locs ls C hr hk2 hE hP hD hS hl
  obtain ⟨p0, -, h0⟩ := wv_at w hL
  rw [ce_row hk, hn] at h0
  have hlt : i.toNatClampNeg < n := Nat.not_le.mp fun z => (inb_in hi) (Or.inr z)
  refine W.aald (v := va_rf ((fun i => if i < En E then some (Ea E (k + 1 + i)) else none) i.toNatClampNeg)) (ty := .array .int) C.1 C.2.1 (hP p0 _ h0) ((hE.1.2 3 (Ey E 3, .array .int) rfl).1 n (fun j => va_rf ((fun i => if i < En E then some (Ea E (k + 1 + i)) else none) j))) rfl (fun q => by cases q) (by show ¬ (i < 0 ∨ (arrV _ _ _).slots.size ≤ _); rw [arrV_size]; exact inb_in hi) (by show (arrV _ _ _).slots[_]? = _; rw [arrV_read _ _ hlt]) rfl rfl hd ?_
  rw [show ((fun i => if i < En E then some (Ea E (k + 1 + i)) else none) i.toNatClampNeg : Option Nat) = some (Ea E (k + 1 + i.toNatClampNeg)) from if_pos (hnN ▸ hlt)]
  exact h r w' hF p e s m args below meth c H locs ls C hr hk2 hE hP hD hS hl
theorem sim_iastore {k n : Nat} {i x : Int32} (hL : k ∈ El E) (hk : kd k = 9) (hn : ln (En E) k = n) (hd : decode M.2.1 pc = .ok (.iastore, 1)) (hp : pc + 1 = q) (h : Sim E M rt q lv st (wdI w k i.toNatClampNeg x) F) : Sim E M rt pc lv (.int x :: .int i :: .ref (Ea E k) :: st) w (if inb i n = true then F else none) := by
  subst hp hn
  refine sim_guard (fun hi => ?_)
  intro r w' hF p e s m args below meth c H locs ls C hr hk2 hE hP hD hS hl
  obtain ⟨p0, hp0, h0⟩ := wv_at w hL
  rw [ce_int hk] at h0
  refine va_iast C.1 C.2.1 hE.1 hP hD hS p0 0 h0 rfl (inb_in hi) hd (fun H1 locs1 hP1 hD1 hS1 => ?_)
  rw [wv_set (w2 := wdI w k i.toNatClampNeg x) hD hp0 (by rw [ce_int hk]; unfold wdI; rw [wdA_at]) (fun j hj => ce_A hj)] at hP1 hD1
  exact h r w' hF p e s m args below meth c H1 locs1 ls C hr hk2 hE hP1 hD1 hS1 hl
theorem sim_bastore {k n : Nat} {i x : Int32} (hL : k ∈ El E) (hk : kd k = 11) (hn : ln (En E) k = n) (hd : decode M.2.1 pc = .ok (.bastore, 1)) (hp : pc + 1 = q) (h : Sim E M rt q lv st (wdI w k i.toNatClampNeg (vp_nar .boolean x)) F) : Sim E M rt pc lv (.int x :: .int i :: .ref (Ea E k) :: st) w (if inb i n = true then F else none) := by
  subst hp hn
  refine sim_guard (fun hi => ?_)
  intro r w' hF p e s m args below meth c H locs ls C hr hk2 hE hP hD hS hl
  obtain ⟨p0, hp0, h0⟩ := wv_at w hL
  rw [ce_bool hk] at h0
  refine va_zast C.1 C.2.1 hE.1 hP hD hS p0 2 h0 rfl (inb_in hi) hd (fun H1 locs1 hP1 hD1 hS1 => ?_)
  rw [wv_set (w2 := wdI w k i.toNatClampNeg (vp_nar .boolean x)) hD hp0 (by rw [ce_bool hk]; unfold wdI; rw [wdA_at]) (fun j hj => ce_A hj)] at hP1 hD1
  exact h r w' hF p e s m args below meth c H1 locs1 ls C hr hk2 hE hP1 hD1 hS1 hl
theorem sim_lastore {k n : Nat} {i : Int32} {x : Int64} (hL : k ∈ El E) (hk : kd k = 10) (hn : ln (En E) k = n) (hd : decode M.2.1 pc = .ok (.lastore, 1)) (hp : pc + 1 = q) (h : Sim E M rt q lv st (wdL w k i.toNatClampNeg x) F) : Sim E M rt pc lv (.long x :: .int i :: .ref (Ea E k) :: st) w (if inb i n = true then F else none) := by
  subst hp hn
  refine sim_guard (fun hi => ?_)
  intro r w' hF p e s m args below meth c H locs ls C hr hk2 hE hP hD hS hl
  obtain ⟨p0, hp0, h0⟩ := wv_at w hL
  rw [ce_long hk] at h0
  refine va_last C.1 C.2.1 hE.1 hP hD hS p0 1 h0 rfl (inb_in hi) hd (fun H1 locs1 hP1 hD1 hS1 => ?_)
  rw [wv_set (w2 := wdL w k i.toNatClampNeg x) hD hp0 (by rw [ce_long hk]; show Sum.inl (_, _, _) = _; rw [show (wdL w k i.toNatClampNeg x).2.1 k = vp_updL (w.2.1 k) i.toNatClampNeg x from if_pos rfl]) (fun j hj => ce_L hj)] at hP1 hD1
  exact h r w' hF p e s m args below meth c H1 locs1 ls C hr hk2 hE hP1 hD1 hS1 hl
theorem sim_alen {k n : Nat} {v : Int32} (hL : k ∈ El E) (hk : kd k = 9) (hn : ln (En E) k = n) (hv : Int32.ofNat n = v) (hd : decode M.2.1 pc = .ok (.arraylength, 1)) (hp : pc + 1 = q) (h : Sim E M rt q lv (.int v :: st) w F) : Sim E M rt pc lv (.ref (Ea E k) :: st) w F := by
  subst hp hn
  intro r w' hF p e s m args below meth c H locs ls C hr hk2 hE hP hD hS hl
  obtain ⟨p0, -, h0⟩ := wv_at w hL
  rw [ce_int hk] at h0
  exact va_alen C.1 C.2.1 hE.1 hP p0 0 h0 rfl hv hd (h r w' hF p e s m args below meth c H locs ls C hr hk2 hE hP hD hS hl)
/-! static arrays -/
theorem sim_gets {j idx : Nat} {nm : String} (hj : j < 5) (hnm : stN j = nm) (hlk : Cond.fieldLink M.1 idx RX8 nm "[I" ∈ TB) (hd : decode M.2.1 pc = .ok (.getstatic idx, 3)) (hp : pc + 3 = q) (h : Sim E M rt q lv (.ref (Es E j) :: st) w F) : Sim E M rt pc lv st w F := by
  subst hp hnm
  intro r w' hF p e s m args below meth c H locs ls C hr hk2 hE hP hD hS hl
  exact va_gets C.1 C.2.1 (hE.2.1 j hj).1 hS C.2.2.2.1 (C.2.2.2.2 _ hlk) (fun _ z => z) hd (h r w' hF p e s m args below meth c H locs ls C hr hk2 hE hP hD hS hl)
theorem sim_tload {j n : Nat} {i : Int32} (hj : j < 5) (hn : (stV j).length = n) (hd : decode M.2.1 pc = .ok (.iaload, 1)) (hp : pc + 1 = q) (h : Sim E M rt q lv (.int ((stV j).getD i.toNatClampNeg 0) :: st) w F) : Sim E M rt pc lv (.int i :: .ref (Es E j) :: st) w (if inb i n = true then F else none) := by
  subst hp hn
  refine sim_guard (fun hi => ?_)
  intro r w' hF p e s m args below meth c H locs ls C hr hk2 hE hP hD hS hl
  exact va_ti C.1 C.2.1 (hE.2.1 j hj).2 hS (inb_in hi) rfl hd (h r w' hF p e s m args below meth c H locs ls C hr hk2 hE hP hD hS hl)
/-! calls -/
def CB (own : String) (idx : Nat) (y : MethodName) (Mc : Mt) (n : Nat) : Prop := Cond.code y Mc.2.1 Mc.2.2.1 Mc.2.2.2.1 ∈ TB ∧ Cond.methodLink own idx y ∈ TB ∧ Cond.initialized y.cls ∈ TB ∧ (y.cls ≠ "java/lang/invoke/MethodHandle" ∧ y.cls ≠ "java/lang/invoke/VarHandle" ∧ (parseMethodDescriptor y.desc).map (fun d => d.parameters.length) = some n)
theorem ww_call {p : Program} {e : Env} {R : Room} {s : State} {m : MethodId} {args aa : Array Value} {below : List Frame} {meth : Method} {c : Code} {H : Heap} {locs : List Loc} {Q : State → Prop} {ls : Array Slot} {st0 rest : List Value} {r : Option Value} {w1 : Wd}
    (hr : va_Run p E.1 e R s m args below meth c H locs 0 0 0 0 (F0 m pc ls st0) rest (QR E r w1 aa) (AA E H.size)) (hS : va_S (AA E s.heap.size) s.heap H locs)
    (kk : ∀ (H1 : Heap) (locs1 : List Loc), va_P (Ed E) vwCl (wv E w1) H1 → va_D (AA E s.heap.size) (wv E w1) → va_S (AA E s.heap.size) s.heap H1 locs1 → W p E.1 e R s m args below meth c H1 locs1 0 0 Q (F0 m (pc + 3) ls (r.toList ++ rest))) : W p E.1 e R s m args below meth c H locs 0 0 Q (F0 m pc ls st0) := by
  intro T hT X
  obtain ⟨v, st₀, t, T', L', h0, X', hL, e1, e2, ⟨hv, hP1, hD1, hz, hk⟩, stp⟩ := hr T hT X
  cases hv
  rw [h0] at hz hk hD1
  have hA : ∀ z, AA E H.size z → AA E s.heap.size z := fun z hz => AA_mono hS.1 hz
  obtain ⟨t2, a1, b1⟩ := kk T'.heap (locs ++ L') (by rw [e1]; exact hP1) (wv_D _ hD1)
    ⟨Nat.le_trans hS.1 (by rw [e1]; exact hz), fun z h1 h2 => by rw [e1, hk z (Nat.lt_of_lt_of_le h1 hS.1) (fun y => h2 (hA z y))]; exact hS.2.1 z h1 h2, fun z hz => by
      rcases List.mem_append.mp hz with h | h
      · exact hS.2.2 z h
      · exact hA _ (hL z h)⟩ T' rfl X'
  exact ⟨t2, stp t2 a1, b1⟩
theorem pre_ok {p0 : Wd} {s : State} {H : Heap} {locs : List Loc} {A : Nat → Prop} {As : List Value} (hE : Evn E (AA E s.heap.size) s s.heap) (hP : va_P (Ed E) vwCl (wv E p0) H) (hD : va_D A (wv E p0)) (hS : va_S (AA E s.heap.size) s.heap H locs) :
    PreS s H (va_Pc As (fun U => U.heap.size = H.size ∧ va_P (Ed E) vwCl (wv E p0) U.heap ∧ va_D (fun _ => True) (wv E p0) ∧ Evn E (AA E H.size) U U.heap)) As :=
  ⟨fun a U g mk z => ⟨z.1, z.2.1, z.2.2.1, z.2.2.2.1, Evn_blind g mk a z.2.2.2.2⟩, fun U hU hW => ⟨rfl, by rw [hU], by rw [hU]; exact hP, hD.weaken (fun _ _ _ _ => trivial), by rw [hU]; exact Evn_go hS hW hE⟩⟩
theorem CB.callB {Mc : Mt} {y : MethodName} {own : String} {idx n : Nat} {s : State} {args : Array Value} {R : Room} (hC : CB own idx y Mc n) (ht : ∀ w ∈ TB, w.before args s = true) (hd1 : Mc.2.2.2.2 + 1 ≤ R.frames) (hd2 : 8 + (Mc.2.2.1 + 11) + 64 * Mc.2.2.2.2 ≤ R.locals) :
    CallB R s args own idx y Mc.2.1 Mc.2.2.1 Mc.2.2.2.1 (.code y Mc.2.1 Mc.2.2.1 Mc.2.2.2.1 :: TB) (rmd Mc.2.2.2.2) 0 0 n :=
  callB_of n ht (TB_goodIn hC.1) rfl rfl rfl (ht _ hC.2.2.1) (ht _ hC.2.1) hC.2.2.2 ⟨hd1, hd2⟩
variable {β : Type} {rt' : β → Option Value} {G : Option (β × Wd)} {K : β → Wd → Option (α × Wd)} {Mc : Mt} {y : MethodName} {idx n : Nat}
def DD (M Mc : Mt) : Bool := decide (Mc.2.2.2.2 + 1 ≤ M.2.2.2.2) && decide (Mc.2.2.1 ≤ 45)
theorem DD_use {M Mc : Mt} (h : DD M Mc = true) : Mc.2.2.2.2 + 1 ≤ (rmd M.2.2.2.2).frames ∧ 8 + (Mc.2.2.1 + 11) + 64 * Mc.2.2.2.2 ≤ (rmd M.2.2.2.2).locals := by
  simp only [DD, Bool.and_eq_true, decide_eq_true_eq] at h
  refine ⟨h.1, ?_⟩
  show _ ≤ 64 * M.2.2.2.2
  omega
theorem sim_callS (As rest : List Value) (hC : Ct E Mc y rt' As w G) (hcb : CB M.1 idx y Mc n) (hst : Cond.static y ∈ TB) (hn : As.length = n) (hD : DD M Mc = true) (hstk : st = As.reverse ++ rest) (hrest : (rest.map fun v => v.category).sum ≤ 8) (hd : decode M.2.1 pc = .ok (.invokestatic idx, 3)) (hp : pc + 3 = q) (h : ∀ x w1, Sim E M rt q lv ((rt' x).toList ++ rest) w1 (K x w1)) : Sim E M rt pc lv st w (bd G K) := by
  subst hp hstk
  intro r w' hF p e s m args below meth c H locs ls C hr hk hE hP hDD hS hl
  cases hG : G with
  | none => rw [hG] at hF; cases hF
  | some z =>
    obtain ⟨x, w1⟩ := z
    rw [hG] at hF
    exact ww_call (va_runS (As := As) (rest := rest) ⟨C.1, C.2.1, C.2.2.1, C.2.2.2.1, C.2.2.2.2⟩ (hC x w1 hG H.size) ⟨hcb.callB C.2.2.2.2 (DD_use hD).1 (DD_use hD).2, C.2.2.2.2 _ hst⟩ (pre_ok hE hP hDD hS) rfl hn hl.1 rfl (lv_room hrest) hd ⟨Nat.le_refl 0, Nat.le_refl 0⟩) hS
      (fun H1 locs1 hP1 hD1 hS1 => h x w1 r w' hF p e s m args below meth c H1 locs1 ls C hr hk hE hP1 hD1 hS1 hl)
theorem recv_ok {k ci : Nat} {C1 : String} {T : u_T} {nf : Nat} {s : State} {H : Heap} (hL : k ∈ El E) (hk : kd k = ci) (hc : ci < 9) (hcl : vwCl[ci]? = some (C1, T, nf)) (hK : va_K (Ed E) vwCl (tyl E) s) (hP : va_P (Ed E) vwCl (wv E w) H) : ∃ cell : Cell, H[Ea E k]? = some cell ∧ cell.vm.isStatics = false ∧ s.vm.findClass C1 = some cell.cls := by
  obtain ⟨p0, -, h0⟩ := wv_at w hL
  rw [ce_obj hk hc] at h0
  exact va_recv (q := (C1, T, nf)) hK hP hcl h0
theorem sim_callV {k ci : Nat} {T : u_T} {nf : Nat} (As rest : List Value) (hC : Ct E Mc y rt' (.ref (Ea E k) :: As) w G) (hL : k ∈ El E) (hk : kd k = ci) (hc : ci < 9) (hcl : vwCl[ci]? = some (y.cls, T, nf)) (hcb : CB M.1 idx y Mc n) (hin : Cond.instanceMethod y ∈ TB) (hse : Cond.selects y.cls y y ∈ TB) (hn : As.length = n) (hD : DD M Mc = true) (hstk : st = As.reverse ++ .ref (Ea E k) :: rest) (hrest : (rest.map fun v => v.category).sum ≤ 8) (hd : decode M.2.1 pc = .ok (.invokevirtual idx, 3)) (hp : pc + 3 = q) (h : ∀ x w1, Sim E M rt q lv ((rt' x).toList ++ rest) w1 (K x w1)) : Sim E M rt pc lv st w (bd G K) := by
  subst hp hstk
  intro r w' hF p e s m args below meth c H locs ls C hr hk2 hE hP hDD hS hl
  cases hG : G with
  | none => rw [hG] at hF; cases hF
  | some z =>
    obtain ⟨x, w1⟩ := z
    rw [hG] at hF
    exact ww_call (va_runV (C := y.cls) (As := As) (rest := rest) ⟨C.1, C.2.1, C.2.2.1, C.2.2.2.1, C.2.2.2.2⟩ (hC x w1 hG H.size) ⟨hcb.callB C.2.2.2.2 (DD_use hD).1 (DD_use hD).2, C.2.2.2.2 _ hin, C.2.2.2.2 _ hse⟩ ⟨(pre_ok hE hP hDD hS).1, recv_ok hL hk hc hcl hE.1 hP, (pre_ok hE hP hDD hS).2⟩ rfl hn hl.1 rfl (lv_room hrest) hd ⟨Nat.le_refl 0, Nat.le_refl 0⟩) hS
      (fun H1 locs1 hP1 hD1 hS1 => h x w1 r w' hF p e s m args below meth c H1 locs1 ls C hr hk2 hE hP1 hD1 hS1 hl)
def CN (own : String) (idx : Nat) (y : MethodName) (Mc : Mt) (n : Nat) : Prop := Cond.code y Mc.2.1 Mc.2.2.1 Mc.2.2.2.1 ∈ TB ∧ Cond.methodLinkNest own idx y "DropChase" ∈ nwl ∧ Cond.initialized y.cls ∈ TB ∧ (y.cls ≠ "java/lang/invoke/MethodHandle" ∧ y.cls ≠ "java/lang/invoke/VarHandle" ∧ (parseMethodDescriptor y.desc).map (fun d => d.parameters.length) = some n)
theorem sim_callVN {k ci : Nat} {T : u_T} {nf : Nat} (As rest : List Value) (hC : Ct E Mc y rt' (.ref (Ea E k) :: As) w G) (hL : k ∈ El E) (hk : kd k = ci) (hc : ci < 9) (hcl : vwCl[ci]? = some (y.cls, T, nf)) (hcb : CN M.1 idx y Mc n) (hin : Cond.instanceMethod y ∈ TB) (hse : Cond.selects y.cls y y ∈ TB) (hn : As.length = n) (hD : DD M Mc = true) (hstk : st = As.reverse ++ .ref (Ea E k) :: rest) (hrest : (rest.map fun v => v.category).sum ≤ 8) (hd : decode M.2.1 pc = .ok (.invokevirtual idx, 3)) (hp : pc + 3 = q) (h : ∀ x w1, Sim E M rt q lv ((rt' x).toList ++ rest) w1 (K x w1)) : Sim E M rt pc lv st w (bd G K) := by
  subst hp hstk
  intro r w' hF p e s m args below meth c H locs ls C hr hk2 hE hP hDD hS hl
  cases hG : G with
  | none => rw [hG] at hF; cases hF
  | some z =>
    obtain ⟨x, w1⟩ := z
    rw [hG] at hF
    exact ww_call (va_runVN (C := y.cls) (As := As) (rest := rest) ⟨C.1, C.2.1, C.2.2.1, C.2.2.2.1, C.2.2.2.2⟩ (hC x w1 hG H.size) ⟨va_cnB n C.2.2.2.2 (TB_goodIn hcb.1) rfl rfl rfl (hE.2.2 _ hcb.2.1) (C.2.2.2.2 _ hcb.2.2.1) hcb.2.2.2 (DD_use hD), C.2.2.2.2 _ hin, C.2.2.2.2 _ hse⟩ ⟨(pre_ok hE hP hDD hS).1, recv_ok hL hk hc hcl hE.1 hP, (pre_ok hE hP hDD hS).2⟩ rfl hn hl.1 rfl (lv_room hrest) hd ⟨Nat.le_refl 0, Nat.le_refl 0⟩) hS
      (fun H1 locs1 hP1 hD1 hS1 => h x w1 r w' hF p e s m args below meth c H1 locs1 ls C hr hk2 hE hP1 hD1 hS1 hl)
theorem sim_callSN (As rest : List Value) (hC : Ct E Mc y rt' As w G) (hcb : CN M.1 idx y Mc n) (hst : Cond.static y ∈ TB) (hn : As.length = n) (hD : DD M Mc = true) (hstk : st = As.reverse ++ rest) (hrest : (rest.map fun v => v.category).sum ≤ 8) (hd : decode M.2.1 pc = .ok (.invokestatic idx, 3)) (hp : pc + 3 = q) (h : ∀ x w1, Sim E M rt q lv ((rt' x).toList ++ rest) w1 (K x w1)) : Sim E M rt pc lv st w (bd G K) := by
  subst hp hstk
  intro r w' hF p e s m args below meth c H locs ls C hr hk hE hP hDD hS hl
  cases hG : G with
  | none => rw [hG] at hF; cases hF
  | some z =>
    obtain ⟨x, w1⟩ := z
    rw [hG] at hF
    exact ww_call (va_runSN (As := As) (rest := rest) ⟨C.1, C.2.1, C.2.2.1, C.2.2.2.1, C.2.2.2.2⟩ (hC x w1 hG H.size) ⟨va_cnB n C.2.2.2.2 (TB_goodIn hcb.1) rfl rfl rfl (hE.2.2 _ hcb.2.1) (C.2.2.2.2 _ hcb.2.2.1) hcb.2.2.2 (DD_use hD), C.2.2.2.2 _ hst, trivial⟩ (pre_ok hE hP hDD hS) rfl hn hl.1 rfl (lv_room hrest) hd ⟨Nat.le_refl 0, Nat.le_refl 0⟩) hS
      (fun H1 locs1 hP1 hD1 hS1 => h x w1 r w' hF p e s m args below meth c H1 locs1 ls C hr hk hE hP1 hD1 hS1 hl)
theorem sim_lt {v : Int32} {K : Int32 → Option (α × Wd)} (h : ∀ u : Int32, Sim E M rt pc lv (.int u :: st) w (K u)) : Sim E M rt pc lv (.int v :: st) w (lt v K) := h v
theorem sim_lj {v : Int64} {K : Int64 → Option (α × Wd)} (h : ∀ u : Int64, Sim E M rt pc lv (.long u :: st) w (K u)) : Sim E M rt pc lv (.long v :: st) w (lj v K) := h v
theorem sim_lw {K : Wd → Option (α × Wd)} (h : ∀ u : Wd, Sim E M rt pc lv st u (K u)) : Sim E M rt pc lv st w (lw w K) := h w
theorem sim_tabIn {x : Int32} {dflt hi off : Int} {offs : Array Int} {len i t : Nat} (hd : decode M.2.1 pc = .ok (.tableswitch dflt 0 hi offs, len)) (hx : x.toInt = (i : Int)) (hi2 : ¬ hi < (i : Int)) (ho : offs[i]? = some off) (ht : (pc : Int) + off = (t : Int)) (h : Sim E M rt t lv st w F) : Sim E M rt pc lv (.int x :: st) w F :=
  h.go (fun hx1 hb ho1 ht2 hl kk => lv_tableIn hx1 hb hd (by rw [hx]; omega) (by rw [hx]; exact hi2) (by rw [hx, Int.sub_zero, Int.toNat_natCast]; exact ho) ht kk)
theorem sim_tabOut {x : Int32} {dflt hi : Int} {offs : Array Int} {len t : Nat} (hd : decode M.2.1 pc = .ok (.tableswitch dflt 0 hi offs, len)) (hx : x.toInt < 0 ∨ hi < x.toInt) (ht : (pc : Int) + dflt = (t : Int)) (h : Sim E M rt t lv st w F) : Sim E M rt pc lv (.int x :: st) w F :=
  h.go (fun hx1 hb ho1 ht2 hl kk => lv_tableOut hx1 hb hd hx ht kk)
theorem sim_tab5 {x : Int32} {dflt o0 o1 o2 o3 o4 : Int} {len : Nat} (t0 t1 t2 t3 t4 td : Nat) {F_0 F_1 F_2 F_3 F_4 Fd : Option (α × Wd)} (hd : decode M.2.1 pc = .ok (.tableswitch dflt 0 4 #[o0, o1, o2, o3, o4], len)) (e0 : (pc : Int) + o0 = (t0 : Int)) (e1 : (pc : Int) + o1 = (t1 : Int)) (e2 : (pc : Int) + o2 = (t2 : Int)) (e3 : (pc : Int) + o3 = (t3 : Int)) (e4 : (pc : Int) + o4 = (t4 : Int)) (ed : (pc : Int) + dflt = (td : Int)) (h0 : Sim E M rt t0 lv st w F_0) (h1 : Sim E M rt t1 lv st w F_1) (h2 : Sim E M rt t2 lv st w F_2) (h3 : Sim E M rt t3 lv st w F_3) (h4 : Sim E M rt t4 lv st w F_4) (hdf : Sim E M rt td lv st w Fd) : Sim E M rt pc lv (.int x :: st) w (if x = 0 then F_0 else if x = 1 then F_1 else if x = 2 then F_2 else if x = 3 then F_3 else if x = 4 then F_4 else Fd) := by
  by_cases c0 : x = 0
  · rw [if_pos c0]
    exact sim_tabIn (i := 0) hd (by rw [c0]; rfl) (by decide) rfl e0 h0
  rw [if_neg c0]
  by_cases c1 : x = 1
  · rw [if_pos c1]
    exact sim_tabIn (i := 1) hd (by rw [c1]; rfl) (by decide) rfl e1 h1
  rw [if_neg c1]
  by_cases c2 : x = 2
  · rw [if_pos c2]
    exact sim_tabIn (i := 2) hd (by rw [c2]; rfl) (by decide) rfl e2 h2
  rw [if_neg c2]
  by_cases c3 : x = 3
  · rw [if_pos c3]
    exact sim_tabIn (i := 3) hd (by rw [c3]; rfl) (by decide) rfl e3 h3
  rw [if_neg c3]
  by_cases c4 : x = 4
  · rw [if_pos c4]
    exact sim_tabIn (i := 4) hd (by rw [c4]; rfl) (by decide) rfl e4 h4
  rw [if_neg c4]
  refine sim_tabOut hd ?_ ed hdf
  rcases Int.lt_or_le x.toInt 0 with z | z
  · exact Or.inl z
  rcases Int.lt_or_le 4 x.toInt with z2 | z2
  · exact Or.inr z2
  exfalso
  have hh : x.toInt = 0 ∨ x.toInt = 1 ∨ x.toInt = 2 ∨ x.toInt = 3 ∨ x.toInt = 4 := by omega
  rcases hh with z3 | z3 | z3 | z3 | z3
  · exact c0 (Int32.toInt_inj.mp (z3.trans (by rfl)))
  · exact c1 (Int32.toInt_inj.mp (z3.trans (by rfl)))
  · exact c2 (Int32.toInt_inj.mp (z3.trans (by rfl)))
  · exact c3 (Int32.toInt_inj.mp (z3.trans (by rfl)))
  · exact c4 (Int32.toInt_inj.mp (z3.trans (by rfl)))
theorem sim_tab6 {x : Int32} {dflt o0 o1 o2 o3 o4 o5 : Int} {len : Nat} (t0 t1 t2 t3 t4 t5 td : Nat) {F_0 F_1 F_2 F_3 F_4 F_5 Fd : Option (α × Wd)} (hd : decode M.2.1 pc = .ok (.tableswitch dflt 0 5 #[o0, o1, o2, o3, o4, o5], len)) (e0 : (pc : Int) + o0 = (t0 : Int)) (e1 : (pc : Int) + o1 = (t1 : Int)) (e2 : (pc : Int) + o2 = (t2 : Int)) (e3 : (pc : Int) + o3 = (t3 : Int)) (e4 : (pc : Int) + o4 = (t4 : Int)) (e5 : (pc : Int) + o5 = (t5 : Int)) (ed : (pc : Int) + dflt = (td : Int)) (h0 : Sim E M rt t0 lv st w F_0) (h1 : Sim E M rt t1 lv st w F_1) (h2 : Sim E M rt t2 lv st w F_2) (h3 : Sim E M rt t3 lv st w F_3) (h4 : Sim E M rt t4 lv st w F_4) (h5 : Sim E M rt t5 lv st w F_5) (hdf : Sim E M rt td lv st w Fd) : Sim E M rt pc lv (.int x :: st) w (if x = 0 then F_0 else if x = 1 then F_1 else if x = 2 then F_2 else if x = 3 then F_3 else if x = 4 then F_4 else if x = 5 then F_5 else Fd) := by
  by_cases c0 : x = 0
  · rw [if_pos c0]
    exact sim_tabIn (i := 0) hd (by rw [c0]; rfl) (by decide) rfl e0 h0
  rw [if_neg c0]
  by_cases c1 : x = 1
  · rw [if_pos c1]
    exact sim_tabIn (i := 1) hd (by rw [c1]; rfl) (by decide) rfl e1 h1
  rw [if_neg c1]
  by_cases c2 : x = 2
  · rw [if_pos c2]
    exact sim_tabIn (i := 2) hd (by rw [c2]; rfl) (by decide) rfl e2 h2
  rw [if_neg c2]
  by_cases c3 : x = 3
  · rw [if_pos c3]
    exact sim_tabIn (i := 3) hd (by rw [c3]; rfl) (by decide) rfl e3 h3
  rw [if_neg c3]
  by_cases c4 : x = 4
  · rw [if_pos c4]
    exact sim_tabIn (i := 4) hd (by rw [c4]; rfl) (by decide) rfl e4 h4
  rw [if_neg c4]
  by_cases c5 : x = 5
  · rw [if_pos c5]
    exact sim_tabIn (i := 5) hd (by rw [c5]; rfl) (by decide) rfl e5 h5
  rw [if_neg c5]
  refine sim_tabOut hd ?_ ed hdf
  rcases Int.lt_or_le x.toInt 0 with z | z
  · exact Or.inl z
  rcases Int.lt_or_le 5 x.toInt with z2 | z2
  · exact Or.inr z2
  exfalso
  have hh : x.toInt = 0 ∨ x.toInt = 1 ∨ x.toInt = 2 ∨ x.toInt = 3 ∨ x.toInt = 4 ∨ x.toInt = 5 := by omega
  rcases hh with z3 | z3 | z3 | z3 | z3 | z3
  · exact c0 (Int32.toInt_inj.mp (z3.trans (by rfl)))
  · exact c1 (Int32.toInt_inj.mp (z3.trans (by rfl)))
  · exact c2 (Int32.toInt_inj.mp (z3.trans (by rfl)))
  · exact c3 (Int32.toInt_inj.mp (z3.trans (by rfl)))
  · exact c4 (Int32.toInt_inj.mp (z3.trans (by rfl)))
  · exact c5 (Int32.toInt_inj.mp (z3.trans (by rfl)))
theorem sim_tab7 {x : Int32} {dflt o0 o1 o2 o3 o4 o5 o6 : Int} {len : Nat} (t0 t1 t2 t3 t4 t5 t6 td : Nat) {F_0 F_1 F_2 F_3 F_4 F_5 F_6 Fd : Option (α × Wd)} (hd : decode M.2.1 pc = .ok (.tableswitch dflt 0 6 #[o0, o1, o2, o3, o4, o5, o6], len)) (e0 : (pc : Int) + o0 = (t0 : Int)) (e1 : (pc : Int) + o1 = (t1 : Int)) (e2 : (pc : Int) + o2 = (t2 : Int)) (e3 : (pc : Int) + o3 = (t3 : Int)) (e4 : (pc : Int) + o4 = (t4 : Int)) (e5 : (pc : Int) + o5 = (t5 : Int)) (e6 : (pc : Int) + o6 = (t6 : Int)) (ed : (pc : Int) + dflt = (td : Int)) (h0 : Sim E M rt t0 lv st w F_0) (h1 : Sim E M rt t1 lv st w F_1) (h2 : Sim E M rt t2 lv st w F_2) (h3 : Sim E M rt t3 lv st w F_3) (h4 : Sim E M rt t4 lv st w F_4) (h5 : Sim E M rt t5 lv st w F_5) (h6 : Sim E M rt t6 lv st w F_6) (hdf : Sim E M rt td lv st w Fd) : Sim E M rt pc lv (.int x :: st) w (if x = 0 then F_0 else if x = 1 then F_1 else if x = 2 then F_2 else if x = 3 then F_3 else if x = 4 then F_4 else if x = 5 then F_5 else if x = 6 then F_6 else Fd) := by
  by_cases c0 : x = 0
  · rw [if_pos c0]
    exact sim_tabIn (i := 0) hd (by rw [c0]; rfl) (by decide) rfl e0 h0
  rw [if_neg c0]
  by_cases c1 : x = 1
  · rw [if_pos c1]
    exact sim_tabIn (i := 1) hd (by rw [c1]; rfl) (by decide) rfl e1 h1
  rw [if_neg c1]
  by_cases c2 : x = 2
  · rw [if_pos c2]
    exact sim_tabIn (i := 2) hd (by rw [c2]; rfl) (by decide) rfl e2 h2
  rw [if_neg c2]
  by_cases c3 : x = 3
  · rw [if_pos c3]
    exact sim_tabIn (i := 3) hd (by rw [c3]; rfl) (by decide) rfl e3 h3
  rw [if_neg c3]
  by_cases c4 : x = 4
  · rw [if_pos c4]
    exact sim_tabIn (i := 4) hd (by rw [c4]; rfl) (by decide) rfl e4 h4
  rw [if_neg c4]
  by_cases c5 : x = 5
  · rw [if_pos c5]
    exact sim_tabIn (i := 5) hd (by rw [c5]; rfl) (by decide) rfl e5 h5
  rw [if_neg c5]
  by_cases c6 : x = 6
  · rw [if_pos c6]
    exact sim_tabIn (i := 6) hd (by rw [c6]; rfl) (by decide) rfl e6 h6
  rw [if_neg c6]
  refine sim_tabOut hd ?_ ed hdf
  rcases Int.lt_or_le x.toInt 0 with z | z
  · exact Or.inl z
  rcases Int.lt_or_le 6 x.toInt with z2 | z2
  · exact Or.inr z2
  exfalso
  have hh : x.toInt = 0 ∨ x.toInt = 1 ∨ x.toInt = 2 ∨ x.toInt = 3 ∨ x.toInt = 4 ∨ x.toInt = 5 ∨ x.toInt = 6 := by omega
  rcases hh with z3 | z3 | z3 | z3 | z3 | z3 | z3
  · exact c0 (Int32.toInt_inj.mp (z3.trans (by rfl)))
  · exact c1 (Int32.toInt_inj.mp (z3.trans (by rfl)))
  · exact c2 (Int32.toInt_inj.mp (z3.trans (by rfl)))
  · exact c3 (Int32.toInt_inj.mp (z3.trans (by rfl)))
  · exact c4 (Int32.toInt_inj.mp (z3.trans (by rfl)))
  · exact c5 (Int32.toInt_inj.mp (z3.trans (by rfl)))
  · exact c6 (Int32.toInt_inj.mp (z3.trans (by rfl)))
theorem sim_min {x y : Int32} (hlk : Cond.methodLink M.1 idx Lib.Math.min.name ∈ TB) (hst : Cond.static Lib.Math.min.name ∈ TB) (hini : Cond.initialized "java/lang/Math" ∈ TB) (hcode : Cond.code Lib.Math.min.name Lib.Math.min.code 2 (some .int) ∈ TB) (hrest : (st.map fun v => v.category).sum ≤ 8) (hdp : 1 ≤ M.2.2.2.2) (hd : decode M.2.1 pc = .ok (.invokestatic idx, 3)) (hp : pc + 3 = q) (h : Sim E M rt q lv (.int (if y < x then y else x) :: st) w F) : Sim E M rt pc lv (.int y :: .int x :: st) w F := by
  subst hp
  intro r w' hF p e s m args below meth c H locs ls C hr hk2 hE hP hD hS hl
  exact va_mmin C.1 C.2.1 (C.2.2.1.trans hl.1.symm) C.2.2.2.1 (C.2.2.2.2 _ hlk) (C.2.2.2.2 _ hst) (C.2.2.2.2 _ hini) (C.2.2.2.2 _ hcode) hdp (by show _ ≤ 64 * M.2.2.2.2; omega) (Nat.le_refl 0) (Nat.le_refl 0) hd (h r w' hF p e s m args below meth c H locs ls C hr hk2 hE hP hD hS hl)
def cpok (sp dp n : Int32) (n0 n1 : Nat) : Bool := !decide (sp < 0) && (!decide (dp < 0) && (!decide (n < 0) && (decide (sp.toNatClampNeg + n.toNatClampNeg ≤ n0) && decide (dp.toNatClampNeg + n.toNatClampNeg ≤ n1))))
theorem sim_copy {k0 k1 n0 n1 : Nat} {sp dp m1 : Int32} (hL0 : k0 ∈ El E) (hk0 : kd k0 = 9) (hn0 : ln (En E) k0 = n0) (hL1 : k1 ∈ El E) (hk1 : kd k1 = 9) (hn1 : ln (En E) k1 = n1) (hlk : Cond.methodLink M.1 idx arraycopyName ∈ TB) (hnat : Cond.native arraycopyName ∈ TB) (hst : Cond.static arraycopyName ∈ TB) (hini : Cond.initialized "java/lang/System" ∈ TB) (hrest : (st.map fun v => v.category).sum + (nativeFrameWords "java/lang/System" "arraycopy" 5 + 11) ≤ 64) (hdp : 1 ≤ M.2.2.2.2) (hd : decode M.2.1 pc = .ok (.invokestatic idx, 3)) (hp : pc + 3 = q)
    (h : Sim E M rt q lv st (wdA w k1 (va_cpy (w.1 k0) (w.1 k1) sp.toNatClampNeg dp.toNatClampNeg m1.toNatClampNeg)) F) : Sim E M rt pc lv (.int m1 :: .int dp :: .ref (Ea E k1) :: .int sp :: .ref (Ea E k0) :: st) w (if cpok sp dp m1 n0 n1 = true then F else none) := by
  subst hp hn0 hn1
  refine sim_guard (fun hi => ?_)
  simp only [cpok, Bool.and_eq_true, Bool.not_eq_true', decide_eq_false_iff_not, decide_eq_true_eq] at hi
  intro r w' hF p e s m args below meth c H locs ls C hr hk2 hE hP hD hS hl
  obtain ⟨p0, hp0, h0⟩ := wv_at w hL0
  obtain ⟨p1, hp1, h1⟩ := wv_at w hL1
  rw [ce_int hk0] at h0
  rw [ce_int hk1] at h1
  refine va_copyi C.1 C.2.1 (C.2.2.1.trans hl.1.symm) C.2.2.2.1 (C.2.2.2.2 _ hlk) (C.2.2.2.2 _ hnat) (C.2.2.2.2 _ hst) (C.2.2.2.2 _ hini) hE.1 hP hD hS p0 p1 0 0 h0 h1 rfl rfl rfl hi.1 hi.2.1 hi.2.2.1 hi.2.2.2.1 hi.2.2.2.2 (fun _ _ => rfl) hdp (by show _ ≤ 64 * M.2.2.2.2; omega) hd (fun H1 locs1 hP1 hD1 hS1 => ?_)
  rw [wv_set (w2 := wdA w k1 (va_cpy (w.1 k0) (w.1 k1) sp.toNatClampNeg dp.toNatClampNeg m1.toNatClampNeg)) hD hp1 (by rw [ce_int hk1, wdA_at]) (fun j hj => ce_A hj)] at hP1 hD1
  exact h r w' hF p e s m args below meth c H1 locs1 ls C hr hk2 hE hP1 hD1 hS1 hl
end RULES
/-! which cells are there -/
def inM (k : Nat) : Bool := decide (50 ≤ k) && decide (k ≤ 102)
def inW (k : Nat) : Bool := decide (2 ≤ k) && decide (k ≤ 10)
def inX (k : Nat) : Bool := decide (k ≤ 14) || (decide (22 ≤ k) && decide (k ≤ 42))
def LM (E : Ev) : Prop := ∀ k, inM k = true → k ∈ El E
def LW (E : Ev) : Prop := ∀ k, inW k = true → k ∈ El E
def LX (E : Ev) : Prop := (∀ k, inX k = true → k ∈ El E) ∧ (∀ i, i < En E → 15 + i ∈ El E) ∧ 5 ≤ En E ∧ En E ≤ 7
theorem LX.w {E : Ev} (h : LX E) : LW E := fun k hk => h.1 k (by simp only [inW, inX, Bool.and_eq_true, Bool.or_eq_true, decide_eq_true_eq] at hk ⊢; omega)
def okP (o : Nat) : Bool := o == 35 || o == 39
theorem okP_or {o : Nat} (h : okP o = true) : o = 35 ∨ o = 39 := by simpa [okP] using h
theorem okP_kd {o : Nat} (h : okP o = true) : kd o = 2 ∧ kd (o + 1) = 9 ∧ kd (o + 2) = 11 ∧ kd (o + 3) = 10 := by
  rcases okP_or h with rfl | rfl <;> exact ⟨rfl, rfl, rfl, rfl⟩
theorem okP_ln {o : Nat} (h : okP o = true) (N : Nat) : ln N (o + 1) = 300 ∧ ln N (o + 2) = 300 ∧ ln N (o + 3) = 2107 := by
  rcases okP_or h with rfl | rfl <;> exact ⟨rfl, rfl, rfl⟩
theorem okP_in {o : Nat} (h : okP o = true) {E : Ev} (hL : LX E) : o ∈ El E ∧ o + 1 ∈ El E ∧ o + 2 ∈ El E ∧ o + 3 ∈ El E := by
  rcases okP_or h with rfl | rfl <;> exact ⟨hL.1 _ rfl, hL.1 _ rfl, hL.1 _ rfl, hL.1 _ rfl⟩
theorem row_kd : ∀ i, i < 7 → kd (14 + 1 + i) = 9 := by decide
theorem row_ln (N : Nat) {i : Nat} (h : i < 7) : ln N (14 + 1 + i) = 12 := by
  rcases (show i = 0 ∨ i = 1 ∨ i = 2 ∨ i = 3 ∨ i = 4 ∨ i = 5 ∨ i = 6 by omega) with rfl | rfl | rfl | rfl | rfl | rfl | rfl <;> rfl
theorem inb_lt {i : Int32} {n : Nat} (h : inb i n = true) : i.toNatClampNeg < n := by
  simp only [inb, Bool.and_eq_true, decide_eq_true_eq] at h
  exact h.2
end
