-- ===== PART A: goes FIRST, ahead of the names: the tables' words, and 'selects' of the private methods out of them =====
/-- a private method of a class that the tables say can be made, by its rows of tables_1 -/
def lw_okq (q : MethodName × Nat) : Prop := (q.1.cls ≠ "java/lang/invoke/MethodHandle" ∧ q.1.cls ≠ "java/lang/invoke/VarHandle") ∧ Cond.instantiable q.1.cls q.2 ∈ tables_1 ∧ Cond.privateMethod q.1 ∈ tables_1 ∧ Cond.instanceMethod q.1 ∈ tables_1
theorem lw_p0 : lw_okq (⟨"NearlyShut", "hasPartOf", "(II)Z"⟩, 14) := ⟨⟨by decide +kernel, by decide +kernel⟩, List.mem_of_getElem? (i := 23) (by decide +kernel), List.mem_of_getElem? (i := 542) (by decide +kernel), List.mem_of_getElem? (i := 543) (by decide +kernel)⟩
theorem lw_p1 : lw_okq (⟨"NearlyShut", "hasMachine", "(I)Z"⟩, 14) := ⟨⟨by decide +kernel, by decide +kernel⟩, List.mem_of_getElem? (i := 23) (by decide +kernel), List.mem_of_getElem? (i := 546) (by decide +kernel), List.mem_of_getElem? (i := 547) (by decide +kernel)⟩
theorem lw_p2 : lw_okq (⟨"NearlyShut", "hasPart", "(I)Z"⟩, 14) := ⟨⟨by decide +kernel, by decide +kernel⟩, List.mem_of_getElem? (i := 23) (by decide +kernel), List.mem_of_getElem? (i := 550) (by decide +kernel), List.mem_of_getElem? (i := 551) (by decide +kernel)⟩
theorem lw_p3 : lw_okq (⟨"NearlyShut$Door", "farthest", "(LNearlyShut$Drawing;I)I"⟩, 10) := ⟨⟨by decide +kernel, by decide +kernel⟩, List.mem_of_getElem? (i := 125) (by decide +kernel), List.mem_of_getElem? (i := 581) (by decide +kernel), List.mem_of_getElem? (i := 582) (by decide +kernel)⟩
theorem lw_p4 : lw_okq (⟨"NearlyShut$Door", "mostAsked", "(LNearlyShut$Drawing;II)I"⟩, 10) := ⟨⟨by decide +kernel, by decide +kernel⟩, List.mem_of_getElem? (i := 125) (by decide +kernel), List.mem_of_getElem? (i := 587) (by decide +kernel), List.mem_of_getElem? (i := 588) (by decide +kernel)⟩
theorem lw_p5 : lw_okq (⟨"NearlyShut", "canTry", "(IIIIII)Z"⟩, 14) := ⟨⟨by decide +kernel, by decide +kernel⟩, List.mem_of_getElem? (i := 23) (by decide +kernel), List.mem_of_getElem? (i := 658) (by decide +kernel), List.mem_of_getElem? (i := 659) (by decide +kernel)⟩
theorem lw_p6 : lw_okq (⟨"NearlyShut", "isUnlikeAt", "(IIIII)Z"⟩, 14) := ⟨⟨by decide +kernel, by decide +kernel⟩, List.mem_of_getElem? (i := 23) (by decide +kernel), List.mem_of_getElem? (i := 662) (by decide +kernel), List.mem_of_getElem? (i := 663) (by decide +kernel)⟩
theorem lw_p7 : lw_okq (⟨"NearlyShut$Changes", "coinsOf", "(I)I"⟩, 6) := ⟨⟨by decide +kernel, by decide +kernel⟩, List.mem_of_getElem? (i := 167) (by decide +kernel), List.mem_of_getElem? (i := 682) (by decide +kernel), List.mem_of_getElem? (i := 683) (by decide +kernel)⟩
theorem lw_p8 : lw_okq (⟨"NearlyShut", "unlikePair", "(IIIIII)I"⟩, 14) := ⟨⟨by decide +kernel, by decide +kernel⟩, List.mem_of_getElem? (i := 23) (by decide +kernel), List.mem_of_getElem? (i := 698) (by decide +kernel), List.mem_of_getElem? (i := 699) (by decide +kernel)⟩
theorem lw_p9 : lw_okq (⟨"NearlyShut$Door", "gatherHooks", "(LNearlyShut$Drawing;)I"⟩, 10) := ⟨⟨by decide +kernel, by decide +kernel⟩, List.mem_of_getElem? (i := 125) (by decide +kernel), List.mem_of_getElem? (i := 710) (by decide +kernel), List.mem_of_getElem? (i := 711) (by decide +kernel)⟩
theorem lw_p10 : lw_okq (⟨"NearlyShut$Door", "holdAgainst", "(II)I"⟩, 10) := ⟨⟨by decide +kernel, by decide +kernel⟩, List.mem_of_getElem? (i := 125) (by decide +kernel), List.mem_of_getElem? (i := 714) (by decide +kernel), List.mem_of_getElem? (i := 715) (by decide +kernel)⟩
theorem lw_p11 : lw_okq (⟨"NearlyShut$Tape", "skipBlanks", "()V"⟩, 7) := ⟨⟨by decide +kernel, by decide +kernel⟩, List.mem_of_getElem? (i := 199) (by decide +kernel), List.mem_of_getElem? (i := 748) (by decide +kernel), List.mem_of_getElem? (i := 749) (by decide +kernel)⟩
theorem lw_p12 : lw_okq (⟨"NearlyShut$Tape", "byteAt", "(I)I"⟩, 7) := ⟨⟨by decide +kernel, by decide +kernel⟩, List.mem_of_getElem? (i := 199) (by decide +kernel), List.mem_of_getElem? (i := 752) (by decide +kernel), List.mem_of_getElem? (i := 753) (by decide +kernel)⟩
theorem lw_p13 : lw_okq (⟨"NearlyShut$Tape", "splitOne", "(I)I"⟩, 7) := ⟨⟨by decide +kernel, by decide +kernel⟩, List.mem_of_getElem? (i := 199) (by decide +kernel), List.mem_of_getElem? (i := 756) (by decide +kernel), List.mem_of_getElem? (i := 757) (by decide +kernel)⟩
theorem lw_p14 : lw_okq (⟨"NearlyShut$Tape", "splitNumber", "()I"⟩, 7) := ⟨⟨by decide +kernel, by decide +kernel⟩, List.mem_of_getElem? (i := 199) (by decide +kernel), List.mem_of_getElem? (i := 763) (by decide +kernel), List.mem_of_getElem? (i := 764) (by decide +kernel)⟩
theorem lw_p15 : lw_okq (⟨"NearlyShut$Tape", "splitWord", "()I"⟩, 7) := ⟨⟨by decide +kernel, by decide +kernel⟩, List.mem_of_getElem? (i := 199) (by decide +kernel), List.mem_of_getElem? (i := 770) (by decide +kernel), List.mem_of_getElem? (i := 771) (by decide +kernel)⟩
def lw_privs_1 : List (MethodName × Nat) := [(⟨"NearlyShut", "hasPartOf", "(II)Z"⟩, 14), (⟨"NearlyShut", "hasMachine", "(I)Z"⟩, 14), (⟨"NearlyShut", "hasPart", "(I)Z"⟩, 14), (⟨"NearlyShut$Door", "farthest", "(LNearlyShut$Drawing;I)I"⟩, 10), (⟨"NearlyShut$Door", "mostAsked", "(LNearlyShut$Drawing;II)I"⟩, 10), (⟨"NearlyShut", "canTry", "(IIIIII)Z"⟩, 14), (⟨"NearlyShut", "isUnlikeAt", "(IIIII)Z"⟩, 14), (⟨"NearlyShut$Changes", "coinsOf", "(I)I"⟩, 6), (⟨"NearlyShut", "unlikePair", "(IIIIII)I"⟩, 14), (⟨"NearlyShut$Door", "gatherHooks", "(LNearlyShut$Drawing;)I"⟩, 10), (⟨"NearlyShut$Door", "holdAgainst", "(II)I"⟩, 10), (⟨"NearlyShut$Tape", "skipBlanks", "()V"⟩, 7), (⟨"NearlyShut$Tape", "byteAt", "(I)I"⟩, 7), (⟨"NearlyShut$Tape", "splitOne", "(I)I"⟩, 7), (⟨"NearlyShut$Tape", "splitNumber", "()I"⟩, 7), (⟨"NearlyShut$Tape", "splitWord", "()I"⟩, 7)]
theorem lw_r1 : ∀ q ∈ lw_privs_1, lw_okq q := List.forall_mem_cons.mpr ⟨lw_p0, List.forall_mem_cons.mpr ⟨lw_p1, List.forall_mem_cons.mpr ⟨lw_p2, List.forall_mem_cons.mpr ⟨lw_p3, List.forall_mem_cons.mpr ⟨lw_p4, List.forall_mem_cons.mpr ⟨lw_p5, List.forall_mem_cons.mpr ⟨lw_p6, List.forall_mem_cons.mpr ⟨lw_p7, List.forall_mem_cons.mpr ⟨lw_p8, List.forall_mem_cons.mpr ⟨lw_p9, List.forall_mem_cons.mpr ⟨lw_p10, List.forall_mem_cons.mpr ⟨lw_p11, List.forall_mem_cons.mpr ⟨lw_p12, List.forall_mem_cons.mpr ⟨lw_p13, List.forall_mem_cons.mpr ⟨lw_p14, List.forall_mem_cons.mpr ⟨lw_p15, fun _ h => absurd h List.not_mem_nil⟩⟩⟩⟩⟩⟩⟩⟩⟩⟩⟩⟩⟩⟩⟩⟩
theorem lw_p16 : lw_okq (⟨"NearlyShut$Tape", "isSame", "(II)Z"⟩, 7) := ⟨⟨by decide +kernel, by decide +kernel⟩, List.mem_of_getElem? (i := 199) (by decide +kernel), List.mem_of_getElem? (i := 823) (by decide +kernel), List.mem_of_getElem? (i := 824) (by decide +kernel)⟩
theorem lw_p17 : lw_okq (⟨"NearlyShut$Reader", "step", "()V"⟩, 7) := ⟨⟨by decide +kernel, by decide +kernel⟩, List.mem_of_getElem? (i := 193) (by decide +kernel), List.mem_of_getElem? (i := 831) (by decide +kernel), List.mem_of_getElem? (i := 832) (by decide +kernel)⟩
theorem lw_p18 : lw_okq (⟨"NearlyShut$Reader", "readClause", "(I)Z"⟩, 7) := ⟨⟨by decide +kernel, by decide +kernel⟩, List.mem_of_getElem? (i := 193) (by decide +kernel), List.mem_of_getElem? (i := 835) (by decide +kernel), List.mem_of_getElem? (i := 836) (by decide +kernel)⟩
theorem lw_p19 : lw_okq (⟨"NearlyShut$Reader", "fail", "(I)Z"⟩, 7) := ⟨⟨by decide +kernel, by decide +kernel⟩, List.mem_of_getElem? (i := 193) (by decide +kernel), List.mem_of_getElem? (i := 840) (by decide +kernel), List.mem_of_getElem? (i := 841) (by decide +kernel)⟩
theorem lw_p20 : lw_okq (⟨"NearlyShut$Reader", "readBody", "(II)Z"⟩, 7) := ⟨⟨by decide +kernel, by decide +kernel⟩, List.mem_of_getElem? (i := 193) (by decide +kernel), List.mem_of_getElem? (i := 844) (by decide +kernel), List.mem_of_getElem? (i := 845) (by decide +kernel)⟩
theorem lw_p21 : lw_okq (⟨"NearlyShut$Reader", "readMust", "(I)Z"⟩, 7) := ⟨⟨by decide +kernel, by decide +kernel⟩, List.mem_of_getElem? (i := 193) (by decide +kernel), List.mem_of_getElem? (i := 848) (by decide +kernel), List.mem_of_getElem? (i := 849) (by decide +kernel)⟩
theorem lw_p22 : lw_okq (⟨"NearlyShut$Reader", "isNumberTo", "(I)Z"⟩, 7) := ⟨⟨by decide +kernel, by decide +kernel⟩, List.mem_of_getElem? (i := 193) (by decide +kernel), List.mem_of_getElem? (i := 852) (by decide +kernel), List.mem_of_getElem? (i := 853) (by decide +kernel)⟩
theorem lw_p23 : lw_okq (⟨"NearlyShut$Reader", "readSum", "()Z"⟩, 7) := ⟨⟨by decide +kernel, by decide +kernel⟩, List.mem_of_getElem? (i := 193) (by decide +kernel), List.mem_of_getElem? (i := 856) (by decide +kernel), List.mem_of_getElem? (i := 857) (by decide +kernel)⟩
theorem lw_p24 : lw_okq (⟨"NearlyShut$Reader", "readValue", "()Z"⟩, 7) := ⟨⟨by decide +kernel, by decide +kernel⟩, List.mem_of_getElem? (i := 193) (by decide +kernel), List.mem_of_getElem? (i := 860) (by decide +kernel), List.mem_of_getElem? (i := 861) (by decide +kernel)⟩
theorem lw_p25 : lw_okq (⟨"NearlyShut$Reader", "readLook", "(I)Z"⟩, 7) := ⟨⟨by decide +kernel, by decide +kernel⟩, List.mem_of_getElem? (i := 193) (by decide +kernel), List.mem_of_getElem? (i := 868) (by decide +kernel), List.mem_of_getElem? (i := 869) (by decide +kernel)⟩
theorem lw_p26 : lw_okq (⟨"NearlyShut$Reader", "readTest", "(I)Z"⟩, 7) := ⟨⟨by decide +kernel, by decide +kernel⟩, List.mem_of_getElem? (i := 193) (by decide +kernel), List.mem_of_getElem? (i := 872) (by decide +kernel), List.mem_of_getElem? (i := 873) (by decide +kernel)⟩
theorem lw_p27 : lw_okq (⟨"NearlyShut$Reader", "readFact", "(I)Z"⟩, 7) := ⟨⟨by decide +kernel, by decide +kernel⟩, List.mem_of_getElem? (i := 193) (by decide +kernel), List.mem_of_getElem? (i := 876) (by decide +kernel), List.mem_of_getElem? (i := 877) (by decide +kernel)⟩
theorem lw_p28 : lw_okq (⟨"NearlyShut$Reader", "readInner", "(I)Z"⟩, 7) := ⟨⟨by decide +kernel, by decide +kernel⟩, List.mem_of_getElem? (i := 193) (by decide +kernel), List.mem_of_getElem? (i := 880) (by decide +kernel), List.mem_of_getElem? (i := 881) (by decide +kernel)⟩
theorem lw_p29 : lw_okq (⟨"NearlyShut$Reader", "comparing", "()I"⟩, 7) := ⟨⟨by decide +kernel, by decide +kernel⟩, List.mem_of_getElem? (i := 193) (by decide +kernel), List.mem_of_getElem? (i := 884) (by decide +kernel), List.mem_of_getElem? (i := 885) (by decide +kernel)⟩
theorem lw_p30 : lw_okq (⟨"NearlyShut", "gatherBinding", "(I)V"⟩, 14) := ⟨⟨by decide +kernel, by decide +kernel⟩, List.mem_of_getElem? (i := 23) (by decide +kernel), List.mem_of_getElem? (i := 905) (by decide +kernel), List.mem_of_getElem? (i := 906) (by decide +kernel)⟩
theorem lw_p31 : lw_okq (⟨"NearlyShut$Binding", "valueOf", "(LNearlyShut$Order;II)I"⟩, 8) := ⟨⟨by decide +kernel, by decide +kernel⟩, List.mem_of_getElem? (i := 310) (by decide +kernel), List.mem_of_getElem? (i := 933) (by decide +kernel), List.mem_of_getElem? (i := 934) (by decide +kernel)⟩
def lw_privs_2 : List (MethodName × Nat) := [(⟨"NearlyShut$Tape", "isSame", "(II)Z"⟩, 7), (⟨"NearlyShut$Reader", "step", "()V"⟩, 7), (⟨"NearlyShut$Reader", "readClause", "(I)Z"⟩, 7), (⟨"NearlyShut$Reader", "fail", "(I)Z"⟩, 7), (⟨"NearlyShut$Reader", "readBody", "(II)Z"⟩, 7), (⟨"NearlyShut$Reader", "readMust", "(I)Z"⟩, 7), (⟨"NearlyShut$Reader", "isNumberTo", "(I)Z"⟩, 7), (⟨"NearlyShut$Reader", "readSum", "()Z"⟩, 7), (⟨"NearlyShut$Reader", "readValue", "()Z"⟩, 7), (⟨"NearlyShut$Reader", "readLook", "(I)Z"⟩, 7), (⟨"NearlyShut$Reader", "readTest", "(I)Z"⟩, 7), (⟨"NearlyShut$Reader", "readFact", "(I)Z"⟩, 7), (⟨"NearlyShut$Reader", "readInner", "(I)Z"⟩, 7), (⟨"NearlyShut$Reader", "comparing", "()I"⟩, 7), (⟨"NearlyShut", "gatherBinding", "(I)V"⟩, 14), (⟨"NearlyShut$Binding", "valueOf", "(LNearlyShut$Order;II)I"⟩, 8)]
theorem lw_r2 : ∀ q ∈ lw_privs_2, lw_okq q := List.forall_mem_cons.mpr ⟨lw_p16, List.forall_mem_cons.mpr ⟨lw_p17, List.forall_mem_cons.mpr ⟨lw_p18, List.forall_mem_cons.mpr ⟨lw_p19, List.forall_mem_cons.mpr ⟨lw_p20, List.forall_mem_cons.mpr ⟨lw_p21, List.forall_mem_cons.mpr ⟨lw_p22, List.forall_mem_cons.mpr ⟨lw_p23, List.forall_mem_cons.mpr ⟨lw_p24, List.forall_mem_cons.mpr ⟨lw_p25, List.forall_mem_cons.mpr ⟨lw_p26, List.forall_mem_cons.mpr ⟨lw_p27, List.forall_mem_cons.mpr ⟨lw_p28, List.forall_mem_cons.mpr ⟨lw_p29, List.forall_mem_cons.mpr ⟨lw_p30, List.forall_mem_cons.mpr ⟨lw_p31, fun _ h => absurd h List.not_mem_nil⟩⟩⟩⟩⟩⟩⟩⟩⟩⟩⟩⟩⟩⟩⟩⟩
theorem lw_p32 : lw_okq (⟨"NearlyShut$Binding", "bindByClause", "(LNearlyShut$Order;II)V"⟩, 8) := ⟨⟨by decide +kernel, by decide +kernel⟩, List.mem_of_getElem? (i := 310) (by decide +kernel), List.mem_of_getElem? (i := 941) (by decide +kernel), List.mem_of_getElem? (i := 942) (by decide +kernel)⟩
theorem lw_p33 : lw_okq (⟨"NearlyShut", "canBeDone", "(III)Z"⟩, 14) := ⟨⟨by decide +kernel, by decide +kernel⟩, List.mem_of_getElem? (i := 23) (by decide +kernel), List.mem_of_getElem? (i := 954) (by decide +kernel), List.mem_of_getElem? (i := 955) (by decide +kernel)⟩
theorem lw_p34 : lw_okq (⟨"NearlyShut$Stamps", "findTurn", "(II)I"⟩, 13) := ⟨⟨by decide +kernel, by decide +kernel⟩, List.mem_of_getElem? (i := 345) (by decide +kernel), List.mem_of_getElem? (i := 962) (by decide +kernel), List.mem_of_getElem? (i := 963) (by decide +kernel)⟩
theorem lw_p35 : lw_okq (⟨"NearlyShut$Truth", "choose", "(LNearlyShut$Stamps;I)Z"⟩, 7) := ⟨⟨by decide +kernel, by decide +kernel⟩, List.mem_of_getElem? (i := 409) (by decide +kernel), List.mem_of_getElem? (i := 998) (by decide +kernel), List.mem_of_getElem? (i := 999) (by decide +kernel)⟩
theorem lw_p36 : lw_okq (⟨"NearlyShut$Truth", "moveChoices", "(LNearlyShut$Stamps;I)V"⟩, 7) := ⟨⟨by decide +kernel, by decide +kernel⟩, List.mem_of_getElem? (i := 409) (by decide +kernel), List.mem_of_getElem? (i := 1002) (by decide +kernel), List.mem_of_getElem? (i := 1003) (by decide +kernel)⟩
theorem lw_p37 : lw_okq (⟨"NearlyShut$Truth", "queueHolders", "(LNearlyShut$Stamps;II)I"⟩, 7) := ⟨⟨by decide +kernel, by decide +kernel⟩, List.mem_of_getElem? (i := 409) (by decide +kernel), List.mem_of_getElem? (i := 1006) (by decide +kernel), List.mem_of_getElem? (i := 1007) (by decide +kernel)⟩
theorem lw_p38 : lw_okq (⟨"NearlyShutModel", "isDriven", "(II)Z"⟩, 93) := ⟨⟨by decide +kernel, by decide +kernel⟩, List.mem_of_getElem? (i := 1115) (by decide +kernel), List.mem_of_getElem? (i := 1414) (by decide +kernel), List.mem_of_getElem? (i := 1415) (by decide +kernel)⟩
theorem lw_p39 : lw_okq (⟨"NearlyShutModel", "isPart", "(I)Z"⟩, 93) := ⟨⟨by decide +kernel, by decide +kernel⟩, List.mem_of_getElem? (i := 1115) (by decide +kernel), List.mem_of_getElem? (i := 1418) (by decide +kernel), List.mem_of_getElem? (i := 1419) (by decide +kernel)⟩
theorem lw_p40 : lw_okq (⟨"NearlyShutModel", "clears", "(II)V"⟩, 93) := ⟨⟨by decide +kernel, by decide +kernel⟩, List.mem_of_getElem? (i := 1115) (by decide +kernel), List.mem_of_getElem? (i := 1429) (by decide +kernel), List.mem_of_getElem? (i := 1430) (by decide +kernel)⟩
theorem lw_p41 : lw_okq (⟨"NearlyShutModel", "isMachine", "(I)Z"⟩, 93) := ⟨⟨by decide +kernel, by decide +kernel⟩, List.mem_of_getElem? (i := 1115) (by decide +kernel), List.mem_of_getElem? (i := 1437) (by decide +kernel), List.mem_of_getElem? (i := 1438) (by decide +kernel)⟩
theorem lw_p42 : lw_okq (⟨"NearlyShutModel", "takes", "(I)V"⟩, 93) := ⟨⟨by decide +kernel, by decide +kernel⟩, List.mem_of_getElem? (i := 1115) (by decide +kernel), List.mem_of_getElem? (i := 1450) (by decide +kernel), List.mem_of_getElem? (i := 1451) (by decide +kernel)⟩
theorem lw_p43 : lw_okq (⟨"NearlyShutModel", "pushes", "(II)I"⟩, 93) := ⟨⟨by decide +kernel, by decide +kernel⟩, List.mem_of_getElem? (i := 1115) (by decide +kernel), List.mem_of_getElem? (i := 1454) (by decide +kernel), List.mem_of_getElem? (i := 1455) (by decide +kernel)⟩
theorem lw_p44 : lw_okq (⟨"NearlyShutModel", "lets", "(II)Z"⟩, 93) := ⟨⟨by decide +kernel, by decide +kernel⟩, List.mem_of_getElem? (i := 1115) (by decide +kernel), List.mem_of_getElem? (i := 1458) (by decide +kernel), List.mem_of_getElem? (i := 1459) (by decide +kernel)⟩
theorem lw_p45 : lw_okq (⟨"NearlyShutModel", "isOver", "(I)Z"⟩, 93) := ⟨⟨by decide +kernel, by decide +kernel⟩, List.mem_of_getElem? (i := 1115) (by decide +kernel), List.mem_of_getElem? (i := 1470) (by decide +kernel), List.mem_of_getElem? (i := 1471) (by decide +kernel)⟩
theorem lw_p46 : lw_okq (⟨"NearlyShutModel", "isShut", "()Z"⟩, 93) := ⟨⟨by decide +kernel, by decide +kernel⟩, List.mem_of_getElem? (i := 1115) (by decide +kernel), List.mem_of_getElem? (i := 1480) (by decide +kernel), List.mem_of_getElem? (i := 1481) (by decide +kernel)⟩
theorem lw_p47 : lw_okq (⟨"NearlyShutModel", "looksSo", "(I)Z"⟩, 93) := ⟨⟨by decide +kernel, by decide +kernel⟩, List.mem_of_getElem? (i := 1115) (by decide +kernel), List.mem_of_getElem? (i := 1484) (by decide +kernel), List.mem_of_getElem? (i := 1485) (by decide +kernel)⟩
def lw_privs_3 : List (MethodName × Nat) := [(⟨"NearlyShut$Binding", "bindByClause", "(LNearlyShut$Order;II)V"⟩, 8), (⟨"NearlyShut", "canBeDone", "(III)Z"⟩, 14), (⟨"NearlyShut$Stamps", "findTurn", "(II)I"⟩, 13), (⟨"NearlyShut$Truth", "choose", "(LNearlyShut$Stamps;I)Z"⟩, 7), (⟨"NearlyShut$Truth", "moveChoices", "(LNearlyShut$Stamps;I)V"⟩, 7), (⟨"NearlyShut$Truth", "queueHolders", "(LNearlyShut$Stamps;II)I"⟩, 7), (⟨"NearlyShutModel", "isDriven", "(II)Z"⟩, 93), (⟨"NearlyShutModel", "isPart", "(I)Z"⟩, 93), (⟨"NearlyShutModel", "clears", "(II)V"⟩, 93), (⟨"NearlyShutModel", "isMachine", "(I)Z"⟩, 93), (⟨"NearlyShutModel", "takes", "(I)V"⟩, 93), (⟨"NearlyShutModel", "pushes", "(II)I"⟩, 93), (⟨"NearlyShutModel", "lets", "(II)Z"⟩, 93), (⟨"NearlyShutModel", "isOver", "(I)Z"⟩, 93), (⟨"NearlyShutModel", "isShut", "()Z"⟩, 93), (⟨"NearlyShutModel", "looksSo", "(I)Z"⟩, 93)]
theorem lw_r3 : ∀ q ∈ lw_privs_3, lw_okq q := List.forall_mem_cons.mpr ⟨lw_p32, List.forall_mem_cons.mpr ⟨lw_p33, List.forall_mem_cons.mpr ⟨lw_p34, List.forall_mem_cons.mpr ⟨lw_p35, List.forall_mem_cons.mpr ⟨lw_p36, List.forall_mem_cons.mpr ⟨lw_p37, List.forall_mem_cons.mpr ⟨lw_p38, List.forall_mem_cons.mpr ⟨lw_p39, List.forall_mem_cons.mpr ⟨lw_p40, List.forall_mem_cons.mpr ⟨lw_p41, List.forall_mem_cons.mpr ⟨lw_p42, List.forall_mem_cons.mpr ⟨lw_p43, List.forall_mem_cons.mpr ⟨lw_p44, List.forall_mem_cons.mpr ⟨lw_p45, List.forall_mem_cons.mpr ⟨lw_p46, List.forall_mem_cons.mpr ⟨lw_p47, fun _ h => absurd h List.not_mem_nil⟩⟩⟩⟩⟩⟩⟩⟩⟩⟩⟩⟩⟩⟩⟩⟩
theorem lw_p48 : lw_okq (⟨"NearlyShutModel", "isUnlike", "(I)Z"⟩, 93) := ⟨⟨by decide +kernel, by decide +kernel⟩, List.mem_of_getElem? (i := 1115) (by decide +kernel), List.mem_of_getElem? (i := 1491) (by decide +kernel), List.mem_of_getElem? (i := 1492) (by decide +kernel)⟩
theorem lw_p49 : lw_okq (⟨"NearlyShutModel", "isTrial", "(IIIIII)Z"⟩, 93) := ⟨⟨by decide +kernel, by decide +kernel⟩, List.mem_of_getElem? (i := 1115) (by decide +kernel), List.mem_of_getElem? (i := 1499) (by decide +kernel), List.mem_of_getElem? (i := 1500) (by decide +kernel)⟩
theorem lw_p50 : lw_okq (⟨"NearlyShutModel", "unlikes", "(IIIIIIII)I"⟩, 93) := ⟨⟨by decide +kernel, by decide +kernel⟩, List.mem_of_getElem? (i := 1115) (by decide +kernel), List.mem_of_getElem? (i := 1503) (by decide +kernel), List.mem_of_getElem? (i := 1504) (by decide +kernel)⟩
theorem lw_p51 : lw_okq (⟨"NearlyShutModel", "alters", "(I)V"⟩, 93) := ⟨⟨by decide +kernel, by decide +kernel⟩, List.mem_of_getElem? (i := 1115) (by decide +kernel), List.mem_of_getElem? (i := 1507) (by decide +kernel), List.mem_of_getElem? (i := 1508) (by decide +kernel)⟩
theorem lw_p52 : lw_okq (⟨"NearlyShutModel", "put", "(I)V"⟩, 93) := ⟨⟨by decide +kernel, by decide +kernel⟩, List.mem_of_getElem? (i := 1115) (by decide +kernel), List.mem_of_getElem? (i := 1537) (by decide +kernel), List.mem_of_getElem? (i := 1538) (by decide +kernel)⟩
theorem lw_p53 : lw_okq (⟨"NearlyShutModel", "clause", "(I)V"⟩, 93) := ⟨⟨by decide +kernel, by decide +kernel⟩, List.mem_of_getElem? (i := 1115) (by decide +kernel), List.mem_of_getElem? (i := 1549) (by decide +kernel), List.mem_of_getElem? (i := 1550) (by decide +kernel)⟩
theorem lw_p54 : lw_okq (⟨"NearlyShutModel", "blanks", "()V"⟩, 93) := ⟨⟨by decide +kernel, by decide +kernel⟩, List.mem_of_getElem? (i := 1115) (by decide +kernel), List.mem_of_getElem? (i := 1553) (by decide +kernel), List.mem_of_getElem? (i := 1554) (by decide +kernel)⟩
theorem lw_p55 : lw_okq (⟨"NearlyShutModel", "sign", "()I"⟩, 93) := ⟨⟨by decide +kernel, by decide +kernel⟩, List.mem_of_getElem? (i := 1115) (by decide +kernel), List.mem_of_getElem? (i := 1557) (by decide +kernel), List.mem_of_getElem? (i := 1558) (by decide +kernel)⟩
theorem lw_p56 : lw_okq (⟨"NearlyShutModel", "stands", "(Ljava/lang/String;)Z"⟩, 93) := ⟨⟨by decide +kernel, by decide +kernel⟩, List.mem_of_getElem? (i := 1115) (by decide +kernel), List.mem_of_getElem? (i := 1568) (by decide +kernel), List.mem_of_getElem? (i := 1569) (by decide +kernel)⟩
theorem lw_p57 : lw_okq (⟨"NearlyShutModel", "fails", "(II)V"⟩, 93) := ⟨⟨by decide +kernel, by decide +kernel⟩, List.mem_of_getElem? (i := 1115) (by decide +kernel), List.mem_of_getElem? (i := 1574) (by decide +kernel), List.mem_of_getElem? (i := 1575) (by decide +kernel)⟩
theorem lw_p58 : lw_okq (⟨"NearlyShutModel", "digits", "(I)I"⟩, 93) := ⟨⟨by decide +kernel, by decide +kernel⟩, List.mem_of_getElem? (i := 1115) (by decide +kernel), List.mem_of_getElem? (i := 1578) (by decide +kernel), List.mem_of_getElem? (i := 1579) (by decide +kernel)⟩
theorem lw_p59 : lw_okq (⟨"NearlyShutModel", "isDigit", "()Z"⟩, 93) := ⟨⟨by decide +kernel, by decide +kernel⟩, List.mem_of_getElem? (i := 1115) (by decide +kernel), List.mem_of_getElem? (i := 1582) (by decide +kernel), List.mem_of_getElem? (i := 1583) (by decide +kernel)⟩
theorem lw_p60 : lw_okq (⟨"NearlyShutModel", "takes", "(Ljava/lang/String;)Z"⟩, 93) := ⟨⟨by decide +kernel, by decide +kernel⟩, List.mem_of_getElem? (i := 1115) (by decide +kernel), List.mem_of_getElem? (i := 1589) (by decide +kernel), List.mem_of_getElem? (i := 1590) (by decide +kernel)⟩
theorem lw_p61 : lw_okq (⟨"NearlyShutModel", "sum", "()V"⟩, 93) := ⟨⟨by decide +kernel, by decide +kernel⟩, List.mem_of_getElem? (i := 1115) (by decide +kernel), List.mem_of_getElem? (i := 1593) (by decide +kernel), List.mem_of_getElem? (i := 1594) (by decide +kernel)⟩
theorem lw_p62 : lw_okq (⟨"NearlyShutModel", "value", "()V"⟩, 93) := ⟨⟨by decide +kernel, by decide +kernel⟩, List.mem_of_getElem? (i := 1115) (by decide +kernel), List.mem_of_getElem? (i := 1597) (by decide +kernel), List.mem_of_getElem? (i := 1598) (by decide +kernel)⟩
theorem lw_p63 : lw_okq (⟨"NearlyShutModel", "isCounted", "(I)V"⟩, 93) := ⟨⟨by decide +kernel, by decide +kernel⟩, List.mem_of_getElem? (i := 1115) (by decide +kernel), List.mem_of_getElem? (i := 1602) (by decide +kernel), List.mem_of_getElem? (i := 1603) (by decide +kernel)⟩
def lw_privs_4 : List (MethodName × Nat) := [(⟨"NearlyShutModel", "isUnlike", "(I)Z"⟩, 93), (⟨"NearlyShutModel", "isTrial", "(IIIIII)Z"⟩, 93), (⟨"NearlyShutModel", "unlikes", "(IIIIIIII)I"⟩, 93), (⟨"NearlyShutModel", "alters", "(I)V"⟩, 93), (⟨"NearlyShutModel", "put", "(I)V"⟩, 93), (⟨"NearlyShutModel", "clause", "(I)V"⟩, 93), (⟨"NearlyShutModel", "blanks", "()V"⟩, 93), (⟨"NearlyShutModel", "sign", "()I"⟩, 93), (⟨"NearlyShutModel", "stands", "(Ljava/lang/String;)Z"⟩, 93), (⟨"NearlyShutModel", "fails", "(II)V"⟩, 93), (⟨"NearlyShutModel", "digits", "(I)I"⟩, 93), (⟨"NearlyShutModel", "isDigit", "()Z"⟩, 93), (⟨"NearlyShutModel", "takes", "(Ljava/lang/String;)Z"⟩, 93), (⟨"NearlyShutModel", "sum", "()V"⟩, 93), (⟨"NearlyShutModel", "value", "()V"⟩, 93), (⟨"NearlyShutModel", "isCounted", "(I)V"⟩, 93)]
theorem lw_r4 : ∀ q ∈ lw_privs_4, lw_okq q := List.forall_mem_cons.mpr ⟨lw_p48, List.forall_mem_cons.mpr ⟨lw_p49, List.forall_mem_cons.mpr ⟨lw_p50, List.forall_mem_cons.mpr ⟨lw_p51, List.forall_mem_cons.mpr ⟨lw_p52, List.forall_mem_cons.mpr ⟨lw_p53, List.forall_mem_cons.mpr ⟨lw_p54, List.forall_mem_cons.mpr ⟨lw_p55, List.forall_mem_cons.mpr ⟨lw_p56, List.forall_mem_cons.mpr ⟨lw_p57, List.forall_mem_cons.mpr ⟨lw_p58, List.forall_mem_cons.mpr ⟨lw_p59, List.forall_mem_cons.mpr ⟨lw_p60, List.forall_mem_cons.mpr ⟨lw_p61, List.forall_mem_cons.mpr ⟨lw_p62, List.forall_mem_cons.mpr ⟨lw_p63, fun _ h => absurd h List.not_mem_nil⟩⟩⟩⟩⟩⟩⟩⟩⟩⟩⟩⟩⟩⟩⟩⟩
theorem lw_p64 : lw_okq (⟨"NearlyShutModel", "entry", "(II)V"⟩, 93) := ⟨⟨by decide +kernel, by decide +kernel⟩, List.mem_of_getElem? (i := 1115) (by decide +kernel), List.mem_of_getElem? (i := 1606) (by decide +kernel), List.mem_of_getElem? (i := 1607) (by decide +kernel)⟩
theorem lw_p65 : lw_okq (⟨"NearlyShutModel", "test", "()V"⟩, 93) := ⟨⟨by decide +kernel, by decide +kernel⟩, List.mem_of_getElem? (i := 1115) (by decide +kernel), List.mem_of_getElem? (i := 1628) (by decide +kernel), List.mem_of_getElem? (i := 1629) (by decide +kernel)⟩
theorem lw_p66 : lw_okq (⟨"NearlyShutModel", "fact", "()Z"⟩, 93) := ⟨⟨by decide +kernel, by decide +kernel⟩, List.mem_of_getElem? (i := 1115) (by decide +kernel), List.mem_of_getElem? (i := 1632) (by decide +kernel), List.mem_of_getElem? (i := 1633) (by decide +kernel)⟩
theorem lw_p67 : lw_okq (⟨"NearlyShutModel", "opens", "(I)V"⟩, 93) := ⟨⟨by decide +kernel, by decide +kernel⟩, List.mem_of_getElem? (i := 1115) (by decide +kernel), List.mem_of_getElem? (i := 1637) (by decide +kernel), List.mem_of_getElem? (i := 1638) (by decide +kernel)⟩
theorem lw_p68 : lw_okq (⟨"NearlyShutModel", "compared", "()V"⟩, 93) := ⟨⟨by decide +kernel, by decide +kernel⟩, List.mem_of_getElem? (i := 1115) (by decide +kernel), List.mem_of_getElem? (i := 1641) (by decide +kernel), List.mem_of_getElem? (i := 1642) (by decide +kernel)⟩
theorem lw_p69 : lw_okq (⟨"NearlyShutModel", "answers", "(I)V"⟩, 93) := ⟨⟨by decide +kernel, by decide +kernel⟩, List.mem_of_getElem? (i := 1115) (by decide +kernel), List.mem_of_getElem? (i := 1645) (by decide +kernel), List.mem_of_getElem? (i := 1646) (by decide +kernel)⟩
theorem lw_p70 : lw_okq (⟨"NearlyShutModel", "top", "()I"⟩, 93) := ⟨⟨by decide +kernel, by decide +kernel⟩, List.mem_of_getElem? (i := 1115) (by decide +kernel), List.mem_of_getElem? (i := 1649) (by decide +kernel), List.mem_of_getElem? (i := 1650) (by decide +kernel)⟩
theorem lw_p71 : lw_okq (⟨"NearlyShutModel", "binds", "(I)V"⟩, 93) := ⟨⟨by decide +kernel, by decide +kernel⟩, List.mem_of_getElem? (i := 1115) (by decide +kernel), List.mem_of_getElem? (i := 1664) (by decide +kernel), List.mem_of_getElem? (i := 1665) (by decide +kernel)⟩
theorem lw_p72 : lw_okq (⟨"NearlyShutModel", "doneOf", "(I)I"⟩, 93) := ⟨⟨by decide +kernel, by decide +kernel⟩, List.mem_of_getElem? (i := 1115) (by decide +kernel), List.mem_of_getElem? (i := 1668) (by decide +kernel), List.mem_of_getElem? (i := 1669) (by decide +kernel)⟩
theorem lw_p73 : lw_okq (⟨"NearlyShutModel", "answer", "(III)J"⟩, 93) := ⟨⟨by decide +kernel, by decide +kernel⟩, List.mem_of_getElem? (i := 1115) (by decide +kernel), List.mem_of_getElem? (i := 1672) (by decide +kernel), List.mem_of_getElem? (i := 1673) (by decide +kernel)⟩
theorem lw_p74 : lw_okq (⟨"NearlyShutModel", "binds", "(III)V"⟩, 93) := ⟨⟨by decide +kernel, by decide +kernel⟩, List.mem_of_getElem? (i := 1115) (by decide +kernel), List.mem_of_getElem? (i := 1682) (by decide +kernel), List.mem_of_getElem? (i := 1683) (by decide +kernel)⟩
theorem lw_p75 : lw_okq (⟨"NearlyShutModel", "looks", "()V"⟩, 93) := ⟨⟨by decide +kernel, by decide +kernel⟩, List.mem_of_getElem? (i := 1115) (by decide +kernel), List.mem_of_getElem? (i := 1699) (by decide +kernel), List.mem_of_getElem? (i := 1700) (by decide +kernel)⟩
theorem lw_p76 : lw_okq (⟨"NearlyShutModel", "needOf", "(I)I"⟩, 93) := ⟨⟨by decide +kernel, by decide +kernel⟩, List.mem_of_getElem? (i := 1115) (by decide +kernel), List.mem_of_getElem? (i := 1703) (by decide +kernel), List.mem_of_getElem? (i := 1704) (by decide +kernel)⟩
theorem lw_p77 : lw_okq (⟨"NearlyShutModel", "canBe", "(II)Z"⟩, 93) := ⟨⟨by decide +kernel, by decide +kernel⟩, List.mem_of_getElem? (i := 1115) (by decide +kernel), List.mem_of_getElem? (i := 1707) (by decide +kernel), List.mem_of_getElem? (i := 1708) (by decide +kernel)⟩
theorem lw_p78 : lw_okq (⟨"NearlyShutModel", "fits", "(III)Z"⟩, 93) := ⟨⟨by decide +kernel, by decide +kernel⟩, List.mem_of_getElem? (i := 1115) (by decide +kernel), List.mem_of_getElem? (i := 1711) (by decide +kernel), List.mem_of_getElem? (i := 1712) (by decide +kernel)⟩
theorem lw_p79 : lw_okq (⟨"NearlyShutModel", "finds", "(II)Z"⟩, 93) := ⟨⟨by decide +kernel, by decide +kernel⟩, List.mem_of_getElem? (i := 1115) (by decide +kernel), List.mem_of_getElem? (i := 1715) (by decide +kernel), List.mem_of_getElem? (i := 1716) (by decide +kernel)⟩
def lw_privs_5 : List (MethodName × Nat) := [(⟨"NearlyShutModel", "entry", "(II)V"⟩, 93), (⟨"NearlyShutModel", "test", "()V"⟩, 93), (⟨"NearlyShutModel", "fact", "()Z"⟩, 93), (⟨"NearlyShutModel", "opens", "(I)V"⟩, 93), (⟨"NearlyShutModel", "compared", "()V"⟩, 93), (⟨"NearlyShutModel", "answers", "(I)V"⟩, 93), (⟨"NearlyShutModel", "top", "()I"⟩, 93), (⟨"NearlyShutModel", "binds", "(I)V"⟩, 93), (⟨"NearlyShutModel", "doneOf", "(I)I"⟩, 93), (⟨"NearlyShutModel", "answer", "(III)J"⟩, 93), (⟨"NearlyShutModel", "binds", "(III)V"⟩, 93), (⟨"NearlyShutModel", "looks", "()V"⟩, 93), (⟨"NearlyShutModel", "needOf", "(I)I"⟩, 93), (⟨"NearlyShutModel", "canBe", "(II)Z"⟩, 93), (⟨"NearlyShutModel", "fits", "(III)Z"⟩, 93), (⟨"NearlyShutModel", "finds", "(II)Z"⟩, 93)]
theorem lw_r5 : ∀ q ∈ lw_privs_5, lw_okq q := List.forall_mem_cons.mpr ⟨lw_p64, List.forall_mem_cons.mpr ⟨lw_p65, List.forall_mem_cons.mpr ⟨lw_p66, List.forall_mem_cons.mpr ⟨lw_p67, List.forall_mem_cons.mpr ⟨lw_p68, List.forall_mem_cons.mpr ⟨lw_p69, List.forall_mem_cons.mpr ⟨lw_p70, List.forall_mem_cons.mpr ⟨lw_p71, List.forall_mem_cons.mpr ⟨lw_p72, List.forall_mem_cons.mpr ⟨lw_p73, List.forall_mem_cons.mpr ⟨lw_p74, List.forall_mem_cons.mpr ⟨lw_p75, List.forall_mem_cons.mpr ⟨lw_p76, List.forall_mem_cons.mpr ⟨lw_p77, List.forall_mem_cons.mpr ⟨lw_p78, List.forall_mem_cons.mpr ⟨lw_p79, fun _ h => absurd h List.not_mem_nil⟩⟩⟩⟩⟩⟩⟩⟩⟩⟩⟩⟩⟩⟩⟩⟩
theorem lw_p80 : lw_okq (⟨"NearlyShutModel", "gives", "(II)V"⟩, 93) := ⟨⟨by decide +kernel, by decide +kernel⟩, List.mem_of_getElem? (i := 1115) (by decide +kernel), List.mem_of_getElem? (i := 1719) (by decide +kernel), List.mem_of_getElem? (i := 1720) (by decide +kernel)⟩
theorem lw_p81 : lw_okq (⟨"NearlyShutModel", "isIn", "(II)Z"⟩, 93) := ⟨⟨by decide +kernel, by decide +kernel⟩, List.mem_of_getElem? (i := 1115) (by decide +kernel), List.mem_of_getElem? (i := 1723) (by decide +kernel), List.mem_of_getElem? (i := 1724) (by decide +kernel)⟩
theorem lw_p82 : lw_okq (⟨"NearlyShutModel", "knows", "(I)V"⟩, 93) := ⟨⟨by decide +kernel, by decide +kernel⟩, List.mem_of_getElem? (i := 1115) (by decide +kernel), List.mem_of_getElem? (i := 1743) (by decide +kernel), List.mem_of_getElem? (i := 1744) (by decide +kernel)⟩
theorem lw_p83 : lw_okq (⟨"NearlyShutModel", "carries", "(I)V"⟩, 93) := ⟨⟨by decide +kernel, by decide +kernel⟩, List.mem_of_getElem? (i := 1115) (by decide +kernel), List.mem_of_getElem? (i := 1783) (by decide +kernel), List.mem_of_getElem? (i := 1784) (by decide +kernel)⟩
theorem lw_p84 : lw_okq (⟨"NearlyShutModel", "carry", "([I)V"⟩, 93) := ⟨⟨by decide +kernel, by decide +kernel⟩, List.mem_of_getElem? (i := 1115) (by decide +kernel), List.mem_of_getElem? (i := 1787) (by decide +kernel), List.mem_of_getElem? (i := 1788) (by decide +kernel)⟩
theorem lw_p85 : lw_okq (⟨"NearlyShutModel", "forgets", "()V"⟩, 93) := ⟨⟨by decide +kernel, by decide +kernel⟩, List.mem_of_getElem? (i := 1115) (by decide +kernel), List.mem_of_getElem? (i := 1795) (by decide +kernel), List.mem_of_getElem? (i := 1796) (by decide +kernel)⟩
def lw_privs_6 : List (MethodName × Nat) := [(⟨"NearlyShutModel", "gives", "(II)V"⟩, 93), (⟨"NearlyShutModel", "isIn", "(II)Z"⟩, 93), (⟨"NearlyShutModel", "knows", "(I)V"⟩, 93), (⟨"NearlyShutModel", "carries", "(I)V"⟩, 93), (⟨"NearlyShutModel", "carry", "([I)V"⟩, 93), (⟨"NearlyShutModel", "forgets", "()V"⟩, 93)]
theorem lw_r6 : ∀ q ∈ lw_privs_6, lw_okq q := List.forall_mem_cons.mpr ⟨lw_p80, List.forall_mem_cons.mpr ⟨lw_p81, List.forall_mem_cons.mpr ⟨lw_p82, List.forall_mem_cons.mpr ⟨lw_p83, List.forall_mem_cons.mpr ⟨lw_p84, List.forall_mem_cons.mpr ⟨lw_p85, fun _ h => absurd h List.not_mem_nil⟩⟩⟩⟩⟩⟩
def lw_privs : List (MethodName × Nat) := lw_privs_1 ++ (lw_privs_2 ++ (lw_privs_3 ++ (lw_privs_4 ++ (lw_privs_5 ++ (lw_privs_6)))))
def lw_tbl : List Cond := k2_sels lw_privs ++ tables_1
theorem lw_privs_ok : ∀ q ∈ lw_privs, lw_okq q := by
  show ∀ q ∈ lw_privs_1 ++ (lw_privs_2 ++ (lw_privs_3 ++ (lw_privs_4 ++ (lw_privs_5 ++ (lw_privs_6))))), lw_okq q
  exact List.forall_mem_append.mpr ⟨lw_r1, List.forall_mem_append.mpr ⟨lw_r2, List.forall_mem_append.mpr ⟨lw_r3, List.forall_mem_append.mpr ⟨lw_r4, List.forall_mem_append.mpr ⟨lw_r5, lw_r6⟩⟩⟩⟩⟩

def RX0 : String := "NearlyShut$Binding"
def TX0 : u_T := fun k => match k with
  | 0 => ("NearlyShut$Binding", "owed", "I", false)
  | 1 => ("NearlyShut$Binding", "late", "I", false)
  | 2 => ("NearlyShut$Binding", "look", "I", false)
  | 3 => ("NearlyShut$Binding", "grounded", "Z", false)
  | 4 => ("NearlyShut$Binding", "force", "I", false)
  | 5 => ("NearlyShut$Binding", "done", "I", false)
  | 6 => ("NearlyShut$Binding", "facts", "[I", true)
  | _ => ("NearlyShut$Binding", "stack", "[I", true)
def tyX0 : Nat → FieldType := fun k => match k with
  | 0 => .int
  | 1 => .int
  | 2 => .int
  | 3 => .boolean
  | 4 => .int
  | 5 => .int
  | 6 => .array .int
  | _ => .array .int
theorem nmX0 : ∀ a, a < 8 → ∀ b, b < 8 → a ≠ b → (TX0 a).2.1 ≠ (TX0 b).2.1 := by decide +kernel
theorem tyX0_ok : ∀ k, k < 8 → parseFieldDescriptor (TX0 k).2.2.1 = some (tyX0 k) := by decide +kernel
abbrev cX0_init : ByteArray := prog_2_method_1_code
def yX0_init : MethodName := ⟨RX0, "<init>", "()V"⟩
abbrev cX0_begin : ByteArray := prog_2_method_2_code
def yX0_begin : MethodName := ⟨RX0, "begin", "(III)V"⟩
abbrev cX0_know : ByteArray := prog_2_method_3_code
def yX0_know : MethodName := ⟨RX0, "know", "(LNearlyShut$Fleet;I)V"⟩
abbrev cX0_heldForce : ByteArray := prog_2_method_4_code
def yX0_heldForce : MethodName := ⟨RX0, "heldForce", "()I"⟩
abbrev cX0_bindBy : ByteArray := prog_2_method_5_code
def yX0_bindBy : MethodName := ⟨RX0, "bindBy", "(LNearlyShut$Order;I)V"⟩
abbrev cX0_bindByClause : ByteArray := prog_2_method_6_code
def yX0_bindByClause : MethodName := ⟨RX0, "bindByClause", "(LNearlyShut$Order;II)V"⟩
abbrev cX0_valueOf : ByteArray := prog_2_method_7_code
def yX0_valueOf : MethodName := ⟨RX0, "valueOf", "(LNearlyShut$Order;II)I"⟩
abbrev cX0_joined : ByteArray := prog_2_method_8_code
def yX0_joined : MethodName := ⟨RX0, "joined", "(III)I"⟩
def RX1 : String := "NearlyShut$Changes"
def TX1 : u_T := fun k => match k with
  | 0 => ("NearlyShut$Changes", "count", "I", false)
  | 1 => ("NearlyShut$Changes", "part", "[I", true)
  | 2 => ("NearlyShut$Changes", "gap", "[I", true)
  | 3 => ("NearlyShut$Changes", "mark", "[I", true)
  | 4 => ("NearlyShut$Changes", "strength", "[I", true)
  | _ => ("NearlyShut$Changes", "coins", "[I", true)
def tyX1 : Nat → FieldType := fun k => match k with
  | 0 => .int
  | 1 => .array .int
  | 2 => .array .int
  | 3 => .array .int
  | 4 => .array .int
  | _ => .array .int
theorem nmX1 : ∀ a, a < 6 → ∀ b, b < 6 → a ≠ b → (TX1 a).2.1 ≠ (TX1 b).2.1 := by decide +kernel
theorem tyX1_ok : ∀ k, k < 6 → parseFieldDescriptor (TX1 k).2.2.1 = some (tyX1 k) := by decide +kernel
abbrev cX1_init : ByteArray := prog_3_method_1_code
def yX1_init : MethodName := ⟨RX1, "<init>", "()V"⟩
abbrev cX1_add : ByteArray := prog_3_method_2_code
def yX1_add : MethodName := ⟨RX1, "add", "(IIIII)I"⟩
abbrev cX1_coinsOf : ByteArray := prog_3_method_3_code
def yX1_coinsOf : MethodName := ⟨RX1, "coinsOf", "(I)I"⟩
abbrev cX1_isCheaper : ByteArray := prog_3_method_4_code
def yX1_isCheaper : MethodName := ⟨RX1, "isCheaper", "(II)Z"⟩
abbrev cX1_applyTo : ByteArray := prog_3_method_5_code
def yX1_applyTo : MethodName := ⟨RX1, "applyTo", "(LNearlyShut$Door;I)V"⟩
def RX2 : String := "NearlyShut$Door"
def TX2 : u_T := fun k => match k with
  | 0 => ("NearlyShut$Door", "gap", "[I", true)
  | 1 => ("NearlyShut$Door", "strength", "[I", true)
  | 2 => ("NearlyShut$Door", "mark", "[I", true)
  | 3 => ("NearlyShut$Door", "wear", "[I", true)
  | 4 => ("NearlyShut$Door", "set", "[I", true)
  | 5 => ("NearlyShut$Door", "bent", "[I", true)
  | 6 => ("NearlyShut$Door", "place", "[I", true)
  | 7 => ("NearlyShut$Door", "asked", "[I", true)
  | 8 => ("NearlyShut$Door", "allowed", "[I", true)
  | _ => ("NearlyShut$Door", "bears", "[I", true)
def tyX2 : Nat → FieldType := fun k => match k with
  | 0 => .array .int
  | 1 => .array .int
  | 2 => .array .int
  | 3 => .array .int
  | 4 => .array .int
  | 5 => .array .int
  | 6 => .array .int
  | 7 => .array .int
  | 8 => .array .int
  | _ => .array .int
theorem nmX2 : ∀ a, a < 10 → ∀ b, b < 10 → a ≠ b → (TX2 a).2.1 ≠ (TX2 b).2.1 := by decide +kernel
theorem tyX2_ok : ∀ k, k < 10 → parseFieldDescriptor (TX2 k).2.2.1 = some (tyX2 k) := by decide +kernel
abbrev cX2_init : ByteArray := prog_4_method_1_code
def yX2_init : MethodName := ⟨RX2, "<init>", "()V"⟩
abbrev cX2_load : ByteArray := prog_4_method_2_code
def yX2_load : MethodName := ⟨RX2, "load", "(LNearlyShut$Drawing;LNearlyShut$Fleet;I)V"⟩
abbrev cX2_save : ByteArray := prog_4_method_3_code
def yX2_save : MethodName := ⟨RX2, "save", "(LNearlyShut$Fleet;I)V"⟩
abbrev cX2_press : ByteArray := prog_4_method_4_code
def yX2_press : MethodName := ⟨RX2, "press", "(LNearlyShut$Drawing;II)V"⟩
abbrev cX2_farthest : ByteArray := prog_4_method_5_code
def yX2_farthest : MethodName := ⟨RX2, "farthest", "(LNearlyShut$Drawing;I)I"⟩
abbrev cX2_mostAsked : ByteArray := prog_4_method_6_code
def yX2_mostAsked : MethodName := ⟨RX2, "mostAsked", "(LNearlyShut$Drawing;II)I"⟩
abbrev cX2_bend : ByteArray := prog_4_method_7_code
def yX2_bend : MethodName := ⟨RX2, "bend", "(LNearlyShut$Drawing;)V"⟩
abbrev cX2_isOver : ByteArray := prog_4_method_8_code
def yX2_isOver : MethodName := ⟨RX2, "isOver", "(LNearlyShut$Drawing;I)Z"⟩
abbrev cX2_isShut : ByteArray := prog_4_method_9_code
def yX2_isShut : MethodName := ⟨RX2, "isShut", "(LNearlyShut$Drawing;)Z"⟩
abbrev cX2_looksShut : ByteArray := prog_4_method_10_code
def yX2_looksShut : MethodName := ⟨RX2, "looksShut", "(LNearlyShut$Drawing;I)Z"⟩
abbrev cX2_lookBit : ByteArray := prog_4_method_11_code
def yX2_lookBit : MethodName := ⟨RX2, "lookBit", "(I)I"⟩
abbrev cX2_isUnlike : ByteArray := prog_4_method_12_code
def yX2_isUnlike : MethodName := ⟨RX2, "isUnlike", "(LNearlyShut$Drawing;I)Z"⟩
abbrev cX2_heightItGoes : ByteArray := prog_4_method_13_code
def yX2_heightItGoes : MethodName := ⟨RX2, "heightItGoes", "(LNearlyShut$Drawing;I)I"⟩
abbrev cX2_gatherHooks : ByteArray := prog_4_method_14_code
def yX2_gatherHooks : MethodName := ⟨RX2, "gatherHooks", "(LNearlyShut$Drawing;)I"⟩
abbrev cX2_holdAgainst : ByteArray := prog_4_method_15_code
def yX2_holdAgainst : MethodName := ⟨RX2, "holdAgainst", "(II)I"⟩
def RX3 : String := "NearlyShut$Drawing"
def TX3 : u_T := fun k => match k with
  | 0 => ("NearlyShut$Drawing", "count", "I", false)
  | 1 => ("NearlyShut$Drawing", "kind", "[I", true)
  | 2 => ("NearlyShut$Drawing", "driver", "[I", true)
  | 3 => ("NearlyShut$Drawing", "gap", "[I", true)
  | 4 => ("NearlyShut$Drawing", "times", "[I", true)
  | 5 => ("NearlyShut$Drawing", "by", "[I", true)
  | 6 => ("NearlyShut$Drawing", "limit", "[I", true)
  | 7 => ("NearlyShut$Drawing", "strength", "[I", true)
  | 8 => ("NearlyShut$Drawing", "mark", "[I", true)
  | _ => ("NearlyShut$Drawing", "wears", "[I", true)
def tyX3 : Nat → FieldType := fun k => match k with
  | 0 => .int
  | 1 => .array .int
  | 2 => .array .int
  | 3 => .array .int
  | 4 => .array .int
  | 5 => .array .int
  | 6 => .array .int
  | 7 => .array .int
  | 8 => .array .int
  | _ => .array .int
theorem nmX3 : ∀ a, a < 10 → ∀ b, b < 10 → a ≠ b → (TX3 a).2.1 ≠ (TX3 b).2.1 := by decide +kernel
theorem tyX3_ok : ∀ k, k < 10 → parseFieldDescriptor (TX3 k).2.2.1 = some (tyX3 k) := by decide +kernel
abbrev cX3_init : ByteArray := prog_5_method_1_code
def yX3_init : MethodName := ⟨RX3, "<init>", "()V"⟩
abbrev cX3_takesKind : ByteArray := prog_5_method_2_code
def yX3_takesKind : MethodName := ⟨RX3, "takesKind", "(II)Z"⟩
abbrev cX3_add : ByteArray := prog_5_method_3_code
def yX3_add : MethodName := ⟨RX3, "add", "(IIIIIII)I"⟩
def RX4 : String := "NearlyShut$Fleet"
def TX4 : u_T := fun k => match k with
  | 0 => ("NearlyShut$Fleet", "count", "I", false)
  | 1 => ("NearlyShut$Fleet", "wear", "[I", true)
  | 2 => ("NearlyShut$Fleet", "set", "[I", true)
  | 3 => ("NearlyShut$Fleet", "bent", "[I", true)
  | 4 => ("NearlyShut$Fleet", "place", "[I", true)
  | 5 => ("NearlyShut$Fleet", "flights", "[I", true)
  | _ => ("NearlyShut$Fleet", "took", "[I", true)
def tyX4 : Nat → FieldType := fun k => match k with
  | 0 => .int
  | 1 => .array .int
  | 2 => .array .int
  | 3 => .array .int
  | 4 => .array .int
  | 5 => .array .int
  | _ => .array .int
theorem nmX4 : ∀ a, a < 7 → ∀ b, b < 7 → a ≠ b → (TX4 a).2.1 ≠ (TX4 b).2.1 := by decide +kernel
theorem tyX4_ok : ∀ k, k < 7 → parseFieldDescriptor (TX4 k).2.2.1 = some (tyX4 k) := by decide +kernel
abbrev cX4_init : ByteArray := prog_6_method_1_code
def yX4_init : MethodName := ⟨RX4, "<init>", "()V"⟩
abbrev cX4_spot : ByteArray := prog_6_method_2_code
def yX4_spot : MethodName := ⟨RX4, "spot", "(II)I"⟩
abbrev cX4_add : ByteArray := prog_6_method_3_code
def yX4_add : MethodName := ⟨RX4, "add", "()I"⟩
abbrev cX4_letGo : ByteArray := prog_6_method_4_code
def yX4_letGo : MethodName := ⟨RX4, "letGo", "(I)V"⟩
abbrev cX4_hasTaken : ByteArray := prog_6_method_5_code
def yX4_hasTaken : MethodName := ⟨RX4, "hasTaken", "(II)Z"⟩
abbrev cX4_addFlights : ByteArray := prog_6_method_6_code
def yX4_addFlights : MethodName := ⟨RX4, "addFlights", "(LNearlyShut$Drawing;II)V"⟩
abbrev cX4_sumOf : ByteArray := prog_6_method_7_code
def yX4_sumOf : MethodName := ⟨RX4, "sumOf", "([II)I"⟩
abbrev cX4_become : ByteArray := prog_6_method_8_code
def yX4_become : MethodName := ⟨RX4, "become", "(LNearlyShut$Fleet;)V"⟩
def RX5 : String := "NearlyShut$Order"
def TX5 : u_T := fun k => match k with
  | 0 => ("NearlyShut$Order", "kind", "I", false)
  | 1 => ("NearlyShut$Order", "day", "I", false)
  | 2 => ("NearlyShut$Order", "clauses", "I", false)
  | 3 => ("NearlyShut$Order", "length", "I", false)
  | 4 => ("NearlyShut$Order", "head", "[I", true)
  | 5 => ("NearlyShut$Order", "number", "[I", true)
  | 6 => ("NearlyShut$Order", "days", "[I", true)
  | 7 => ("NearlyShut$Order", "testFrom", "[I", true)
  | 8 => ("NearlyShut$Order", "testTo", "[I", true)
  | _ => ("NearlyShut$Order", "code", "[I", true)
def tyX5 : Nat → FieldType := fun k => match k with
  | 0 => .int
  | 1 => .int
  | 2 => .int
  | 3 => .int
  | 4 => .array .int
  | 5 => .array .int
  | 6 => .array .int
  | 7 => .array .int
  | 8 => .array .int
  | _ => .array .int
theorem nmX5 : ∀ a, a < 10 → ∀ b, b < 10 → a ≠ b → (TX5 a).2.1 ≠ (TX5 b).2.1 := by decide +kernel
theorem tyX5_ok : ∀ k, k < 10 → parseFieldDescriptor (TX5 k).2.2.1 = some (tyX5 k) := by decide +kernel
abbrev cX5_init : ByteArray := prog_7_method_1_code
def yX5_init : MethodName := ⟨RX5, "<init>", "()V"⟩
abbrev cX5_clear : ByteArray := prog_7_method_2_code
def yX5_clear : MethodName := ⟨RX5, "clear", "()V"⟩
abbrev cX5_emit : ByteArray := prog_7_method_3_code
def yX5_emit : MethodName := ⟨RX5, "emit", "(I)V"⟩
def RX6 : String := "NearlyShut$Papers"
def TX6 : u_T := fun k => match k with
  | 0 => ("NearlyShut$Papers", "count", "I", false)
  | 1 => ("NearlyShut$Papers", "machine", "[I", true)
  | 2 => ("NearlyShut$Papers", "day", "[I", true)
  | 3 => ("NearlyShut$Papers", "from", "[I", true)
  | 4 => ("NearlyShut$Papers", "needs", "[I", true)
  | _ => ("NearlyShut$Papers", "readOn", "[I", true)
def tyX6 : Nat → FieldType := fun k => match k with
  | 0 => .int
  | 1 => .array .int
  | 2 => .array .int
  | 3 => .array .int
  | 4 => .array .int
  | _ => .array .int
theorem nmX6 : ∀ a, a < 6 → ∀ b, b < 6 → a ≠ b → (TX6 a).2.1 ≠ (TX6 b).2.1 := by decide +kernel
theorem tyX6_ok : ∀ k, k < 6 → parseFieldDescriptor (TX6 k).2.2.1 = some (tyX6 k) := by decide +kernel
abbrev cX6_init : ByteArray := prog_8_method_1_code
def yX6_init : MethodName := ⟨RX6, "<init>", "()V"⟩
abbrev cX6_add : ByteArray := prog_8_method_2_code
def yX6_add : MethodName := ⟨RX6, "add", "(III)I"⟩
abbrev cX6_putReading : ByteArray := prog_8_method_3_code
def yX6_putReading : MethodName := ⟨RX6, "putReading", "(III)V"⟩
abbrev cX6_gatherKnowing : ByteArray := prog_8_method_4_code
def yX6_gatherKnowing : MethodName := ⟨RX6, "gatherKnowing", "(I)V"⟩
abbrev cX6_warnsOf : ByteArray := prog_8_method_5_code
def yX6_warnsOf : MethodName := ⟨RX6, "warnsOf", "(II)Z"⟩
abbrev cX6_forgetFrom : ByteArray := prog_8_method_6_code
def yX6_forgetFrom : MethodName := ⟨RX6, "forgetFrom", "(I)V"⟩
def RX7 : String := "NearlyShut$Reader"
def TX7 : u_T := fun k => match k with
  | 0 => ("NearlyShut$Reader", "tape", "LNearlyShut$Tape;", true)
  | 1 => ("NearlyShut$Reader", "order", "LNearlyShut$Order;", false)
  | 2 => ("NearlyShut$Reader", "at", "I", false)
  | 3 => ("NearlyShut$Reader", "sign", "I", false)
  | 4 => ("NearlyShut$Reader", "number", "I", false)
  | 5 => ("NearlyShut$Reader", "values", "I", false)
  | _ => ("NearlyShut$Reader", "fault", "I", false)
def tyX7 : Nat → FieldType := fun k => match k with
  | 0 => .object "NearlyShut$Tape"
  | 1 => .object "NearlyShut$Order"
  | 2 => .int
  | 3 => .int
  | 4 => .int
  | 5 => .int
  | _ => .int
theorem nmX7 : ∀ a, a < 7 → ∀ b, b < 7 → a ≠ b → (TX7 a).2.1 ≠ (TX7 b).2.1 := by decide +kernel
theorem tyX7_ok : ∀ k, k < 7 → parseFieldDescriptor (TX7 k).2.2.1 = some (tyX7 k) := by decide +kernel
abbrev cX7_init : ByteArray := prog_9_method_1_code
def yX7_init : MethodName := ⟨RX7, "<init>", "()V"⟩
abbrev cX7_handOver : ByteArray := prog_9_method_2_code
def yX7_handOver : MethodName := ⟨RX7, "handOver", "()LNearlyShut$Order;"⟩
abbrev cX7_compile : ByteArray := prog_9_method_3_code
def yX7_compile : MethodName := ⟨RX7, "compile", "()I"⟩
abbrev cX7_fail : ByteArray := prog_9_method_4_code
def yX7_fail : MethodName := ⟨RX7, "fail", "(I)Z"⟩
abbrev cX7_step : ByteArray := prog_9_method_5_code
def yX7_step : MethodName := ⟨RX7, "step", "()V"⟩
abbrev cX7_readClause : ByteArray := prog_9_method_6_code
def yX7_readClause : MethodName := ⟨RX7, "readClause", "(I)Z"⟩
abbrev cX7_readBody : ByteArray := prog_9_method_7_code
def yX7_readBody : MethodName := ⟨RX7, "readBody", "(II)Z"⟩
abbrev cX7_readMust : ByteArray := prog_9_method_8_code
def yX7_readMust : MethodName := ⟨RX7, "readMust", "(I)Z"⟩
abbrev cX7_isNumberTo : ByteArray := prog_9_method_9_code
def yX7_isNumberTo : MethodName := ⟨RX7, "isNumberTo", "(I)Z"⟩
abbrev cX7_readLook : ByteArray := prog_9_method_10_code
def yX7_readLook : MethodName := ⟨RX7, "readLook", "(I)Z"⟩
abbrev cX7_readTest : ByteArray := prog_9_method_11_code
def yX7_readTest : MethodName := ⟨RX7, "readTest", "(I)Z"⟩
abbrev cX7_readFact : ByteArray := prog_9_method_12_code
def yX7_readFact : MethodName := ⟨RX7, "readFact", "(I)Z"⟩
abbrev cX7_readInner : ByteArray := prog_9_method_13_code
def yX7_readInner : MethodName := ⟨RX7, "readInner", "(I)Z"⟩
abbrev cX7_comparing : ByteArray := prog_9_method_14_code
def yX7_comparing : MethodName := ⟨RX7, "comparing", "()I"⟩
abbrev cX7_readSum : ByteArray := prog_9_method_15_code
def yX7_readSum : MethodName := ⟨RX7, "readSum", "()Z"⟩
abbrev cX7_readValue : ByteArray := prog_9_method_16_code
def yX7_readValue : MethodName := ⟨RX7, "readValue", "()Z"⟩
def RX8 : String := "NearlyShut$Stamps"
def TX8 : u_T := fun k => match k with
  | 0 => ("NearlyShut$Stamps", "count", "I", false)
  | 1 => ("NearlyShut$Stamps", "work", "[I", true)
  | 2 => ("NearlyShut$Stamps", "man", "[I", true)
  | 3 => ("NearlyShut$Stamps", "day", "[I", true)
  | 4 => ("NearlyShut$Stamps", "turnOf", "[I", true)
  | 5 => ("NearlyShut$Stamps", "nextOfWork", "[I", true)
  | 6 => ("NearlyShut$Stamps", "nextOfTurn", "[I", true)
  | 7 => ("NearlyShut$Stamps", "lastOfWork", "[I", true)
  | 8 => ("NearlyShut$Stamps", "lastOfTurn", "[I", true)
  | 9 => ("NearlyShut$Stamps", "seen", "I", false)
  | 10 => ("NearlyShut$Stamps", "seenWork", "[I", true)
  | 11 => ("NearlyShut$Stamps", "seenDay", "[I", true)
  | _ => ("NearlyShut$Stamps", "seenDone", "[Z", true)
def tyX8 : Nat → FieldType := fun k => match k with
  | 0 => .int
  | 1 => .array .int
  | 2 => .array .int
  | 3 => .array .int
  | 4 => .array .int
  | 5 => .array .int
  | 6 => .array .int
  | 7 => .array .int
  | 8 => .array .int
  | 9 => .int
  | 10 => .array .int
  | 11 => .array .int
  | _ => .array .boolean
theorem nmX8 : ∀ a, a < 13 → ∀ b, b < 13 → a ≠ b → (TX8 a).2.1 ≠ (TX8 b).2.1 := by decide +kernel
theorem tyX8_ok : ∀ k, k < 13 → parseFieldDescriptor (TX8 k).2.2.1 = some (tyX8 k) := by decide +kernel
abbrev cX8_init : ByteArray := prog_10_method_1_code
def yX8_init : MethodName := ⟨RX8, "<init>", "()V"⟩
abbrev cX8_put : ByteArray := prog_10_method_2_code
def yX8_put : MethodName := ⟨RX8, "put", "(III)I"⟩
abbrev cX8_findTurn : ByteArray := prog_10_method_3_code
def yX8_findTurn : MethodName := ⟨RX8, "findTurn", "(II)I"⟩
abbrev cX8_putSeen : ByteArray := prog_10_method_4_code
def yX8_putSeen : MethodName := ⟨RX8, "putSeen", "(IIZ)I"⟩
abbrev cX8_tasksOf : ByteArray := prog_10_method_5_code
def yX8_tasksOf : MethodName := ⟨RX8, "tasksOf", "(I)I"⟩
abbrev cX8_forgetFrom : ByteArray := prog_10_method_6_code
def yX8_forgetFrom : MethodName := ⟨RX8, "forgetFrom", "(I)V"⟩
def RX9 : String := "NearlyShut$Tape"
def TX9 : u_T := fun k => match k with
  | 0 => ("NearlyShut$Tape", "length", "I", false)
  | 1 => ("NearlyShut$Tape", "signs", "I", false)
  | 2 => ("NearlyShut$Tape", "next", "I", false)
  | 3 => ("NearlyShut$Tape", "bytes", "[I", true)
  | 4 => ("NearlyShut$Tape", "sign", "[I", true)
  | 5 => ("NearlyShut$Tape", "place", "[I", true)
  | _ => ("NearlyShut$Tape", "number", "[I", true)
def tyX9 : Nat → FieldType := fun k => match k with
  | 0 => .int
  | 1 => .int
  | 2 => .int
  | 3 => .array .int
  | 4 => .array .int
  | 5 => .array .int
  | _ => .array .int
theorem nmX9 : ∀ a, a < 7 → ∀ b, b < 7 → a ≠ b → (TX9 a).2.1 ≠ (TX9 b).2.1 := by decide +kernel
theorem tyX9_ok : ∀ k, k < 7 → parseFieldDescriptor (TX9 k).2.2.1 = some (tyX9 k) := by decide +kernel
abbrev cX9_init : ByteArray := prog_11_method_1_code
def yX9_init : MethodName := ⟨RX9, "<init>", "()V"⟩
abbrev cX9_put : ByteArray := prog_11_method_2_code
def yX9_put : MethodName := ⟨RX9, "put", "(I)V"⟩
abbrev cX9_split : ByteArray := prog_11_method_3_code
def yX9_split : MethodName := ⟨RX9, "split", "()V"⟩
abbrev cX9_byteAt : ByteArray := prog_11_method_4_code
def yX9_byteAt : MethodName := ⟨RX9, "byteAt", "(I)I"⟩
abbrev cX9_skipBlanks : ByteArray := prog_11_method_5_code
def yX9_skipBlanks : MethodName := ⟨RX9, "skipBlanks", "()V"⟩
abbrev cX9_splitOne : ByteArray := prog_11_method_6_code
def yX9_splitOne : MethodName := ⟨RX9, "splitOne", "(I)I"⟩
abbrev cX9_splitNumber : ByteArray := prog_11_method_7_code
def yX9_splitNumber : MethodName := ⟨RX9, "splitNumber", "()I"⟩
abbrev cX9_splitWord : ByteArray := prog_11_method_8_code
def yX9_splitWord : MethodName := ⟨RX9, "splitWord", "()I"⟩
abbrev cX9_isSame : ByteArray := prog_11_method_9_code
def yX9_isSame : MethodName := ⟨RX9, "isSame", "(II)Z"⟩
abbrev cX9_isDigit : ByteArray := prog_11_method_10_code
def yX9_isDigit : MethodName := ⟨RX9, "isDigit", "(I)Z"⟩
abbrev cX9_isLetter : ByteArray := prog_11_method_11_code
def yX9_isLetter : MethodName := ⟨RX9, "isLetter", "(I)Z"⟩
def RX10 : String := "NearlyShut$Truth"
def TX10 : u_T := fun k => match k with
  | 0 => ("NearlyShut$Truth", "barred", "I", false)
  | 1 => ("NearlyShut$Truth", "lastNotDone", "[I", true)
  | 2 => ("NearlyShut$Truth", "firstDone", "[I", true)
  | 3 => ("NearlyShut$Truth", "chosen", "[I", true)
  | 4 => ("NearlyShut$Truth", "queue", "[I", true)
  | 5 => ("NearlyShut$Truth", "taken", "[I", true)
  | _ => ("NearlyShut$Truth", "reachedBy", "[I", true)
def tyX10 : Nat → FieldType := fun k => match k with
  | 0 => .int
  | 1 => .array .int
  | 2 => .array .int
  | 3 => .array .int
  | 4 => .array .int
  | 5 => .array .int
  | _ => .array .int
theorem nmX10 : ∀ a, a < 7 → ∀ b, b < 7 → a ≠ b → (TX10 a).2.1 ≠ (TX10 b).2.1 := by decide +kernel
theorem tyX10_ok : ∀ k, k < 7 → parseFieldDescriptor (TX10 k).2.2.1 = some (tyX10 k) := by decide +kernel
abbrev cX10_init : ByteArray := prog_12_method_1_code
def yX10_init : MethodName := ⟨RX10, "<init>", "()V"⟩
abbrev cX10_learn : ByteArray := prog_12_method_2_code
def yX10_learn : MethodName := ⟨RX10, "learn", "(LNearlyShut$Stamps;)V"⟩
abbrev cX10_mayBeTrue : ByteArray := prog_12_method_3_code
def yX10_mayBeTrue : MethodName := ⟨RX10, "mayBeTrue", "(LNearlyShut$Stamps;I)Z"⟩
abbrev cX10_serves : ByteArray := prog_12_method_4_code
def yX10_serves : MethodName := ⟨RX10, "serves", "(LNearlyShut$Stamps;I)Z"⟩
abbrev cX10_leastFalse : ByteArray := prog_12_method_5_code
def yX10_leastFalse : MethodName := ⟨RX10, "leastFalse", "(LNearlyShut$Stamps;)I"⟩
abbrev cX10_canBe : ByteArray := prog_12_method_6_code
def yX10_canBe : MethodName := ⟨RX10, "canBe", "(LNearlyShut$Stamps;II)Z"⟩
abbrev cX10_choose : ByteArray := prog_12_method_7_code
def yX10_choose : MethodName := ⟨RX10, "choose", "(LNearlyShut$Stamps;I)Z"⟩
abbrev cX10_queueHolders : ByteArray := prog_12_method_8_code
def yX10_queueHolders : MethodName := ⟨RX10, "queueHolders", "(LNearlyShut$Stamps;II)I"⟩
abbrev cX10_moveChoices : ByteArray := prog_12_method_9_code
def yX10_moveChoices : MethodName := ⟨RX10, "moveChoices", "(LNearlyShut$Stamps;I)V"⟩
def RX11 : String := "NearlyShut"
def TX11 : u_T := fun k => match k with
  | 0 => ("NearlyShut", "now", "I", false)
  | 1 => ("NearlyShut", "orderCount", "I", false)
  | 2 => ("NearlyShut", "drawing", "LNearlyShut$Drawing;", true)
  | 3 => ("NearlyShut", "fleet", "LNearlyShut$Fleet;", true)
  | 4 => ("NearlyShut", "door", "LNearlyShut$Door;", true)
  | 5 => ("NearlyShut", "changes", "LNearlyShut$Changes;", true)
  | 6 => ("NearlyShut", "reader", "LNearlyShut$Reader;", true)
  | 7 => ("NearlyShut", "orders", "[LNearlyShut$Order;", true)
  | 8 => ("NearlyShut", "binding", "LNearlyShut$Binding;", true)
  | 9 => ("NearlyShut", "stamps", "LNearlyShut$Stamps;", true)
  | 10 => ("NearlyShut", "truth", "LNearlyShut$Truth;", true)
  | 11 => ("NearlyShut", "papers", "LNearlyShut$Papers;", true)
  | 12 => ("NearlyShut", "markedFleets", "[LNearlyShut$Fleet;", true)
  | _ => ("NearlyShut", "markedDays", "[I", true)
def tyX11 : Nat → FieldType := fun k => match k with
  | 0 => .int
  | 1 => .int
  | 2 => .object "NearlyShut$Drawing"
  | 3 => .object "NearlyShut$Fleet"
  | 4 => .object "NearlyShut$Door"
  | 5 => .object "NearlyShut$Changes"
  | 6 => .object "NearlyShut$Reader"
  | 7 => .array (.object "NearlyShut$Order")
  | 8 => .object "NearlyShut$Binding"
  | 9 => .object "NearlyShut$Stamps"
  | 10 => .object "NearlyShut$Truth"
  | 11 => .object "NearlyShut$Papers"
  | 12 => .array (.object "NearlyShut$Fleet")
  | _ => .array .int
theorem nmX11 : ∀ a, a < 14 → ∀ b, b < 14 → a ≠ b → (TX11 a).2.1 ≠ (TX11 b).2.1 := by decide +kernel
theorem tyX11_ok : ∀ k, k < 14 → parseFieldDescriptor (TX11 k).2.2.1 = some (tyX11 k) := by decide +kernel
abbrev cX11_init : ByteArray := prog_1_method_1_code
def yX11_init : MethodName := ⟨RX11, "<init>", "()V"⟩
abbrev cX11_clock : ByteArray := prog_1_method_2_code
def yX11_clock : MethodName := ⟨RX11, "clock", "(I)Z"⟩
abbrev cX11_part : ByteArray := prog_1_method_3_code
def yX11_part : MethodName := ⟨RX11, "part", "(IIIIIII)I"⟩
abbrev cX11_machine : ByteArray := prog_1_method_4_code
def yX11_machine : MethodName := ⟨RX11, "machine", "()I"⟩
abbrev cX11_turn : ByteArray := prog_1_method_5_code
def yX11_turn : MethodName := ⟨RX11, "turn", "(IIII)I"⟩
abbrev cX11_anew : ByteArray := prog_1_method_6_code
def yX11_anew : MethodName := ⟨RX11, "anew", "(II)I"⟩
abbrev cX11_push : ByteArray := prog_1_method_7_code
def yX11_push : MethodName := ⟨RX11, "push", "(III)I"⟩
abbrev cX11_release : ByteArray := prog_1_method_8_code
def yX11_release : MethodName := ⟨RX11, "release", "(I)Z"⟩
abbrev cX11_state : ByteArray := prog_1_method_9_code
def yX11_state : MethodName := ⟨RX11, "state", "(III)I"⟩
abbrev cX11_judged : ByteArray := prog_1_method_10_code
def yX11_judged : MethodName := ⟨RX11, "judged", "(III)I"⟩
abbrev cX11_tried : ByteArray := prog_1_method_11_code
def yX11_tried : MethodName := ⟨RX11, "tried", "(IIIIIII)I"⟩
abbrev cX11_change : ByteArray := prog_1_method_12_code
def yX11_change : MethodName := ⟨RX11, "change", "(IIIII)I"⟩
abbrev cX11_cheapest : ByteArray := prog_1_method_13_code
def yX11_cheapest : MethodName := ⟨RX11, "cheapest", "(IIIIII)I"⟩
abbrev cX11_unlikePair : ByteArray := prog_1_method_14_code
def yX11_unlikePair : MethodName := ⟨RX11, "unlikePair", "(IIIIII)I"⟩
abbrev cX11_isUnlikeAt : ByteArray := prog_1_method_15_code
def yX11_isUnlikeAt : MethodName := ⟨RX11, "isUnlikeAt", "(IIIII)Z"⟩
abbrev cX11_canTry : ByteArray := prog_1_method_16_code
def yX11_canTry : MethodName := ⟨RX11, "canTry", "(IIIIII)Z"⟩
abbrev cX11_goes : ByteArray := prog_1_method_17_code
def yX11_goes : MethodName := ⟨RX11, "goes", "(III)I"⟩
abbrev cX11_floor : ByteArray := prog_1_method_18_code
def yX11_floor : MethodName := ⟨RX11, "floor", "(IIIIIII)I"⟩
abbrev cX11_feed : ByteArray := prog_1_method_19_code
def yX11_feed : MethodName := ⟨RX11, "feed", "(IIIII)I"⟩
abbrev cX11_end : ByteArray := prog_1_method_20_code
def yX11_end : MethodName := ⟨RX11, "end", "(I)I"⟩
abbrev cX11_order : ByteArray := prog_1_method_21_code
def yX11_order : MethodName := ⟨RX11, "order", "(II)I"⟩
abbrev cX11_takes : ByteArray := prog_1_method_22_code
def yX11_takes : MethodName := ⟨RX11, "takes", "(IIZ)Z"⟩
abbrev cX11_bound : ByteArray := prog_1_method_23_code
def yX11_bound : MethodName := ⟨RX11, "bound", "(II)I"⟩
abbrev cX11_gatherBinding : ByteArray := prog_1_method_24_code
def yX11_gatherBinding : MethodName := ⟨RX11, "gatherBinding", "(I)V"⟩
abbrev cX11_stamp : ByteArray := prog_1_method_25_code
def yX11_stamp : MethodName := ⟨RX11, "stamp", "(IIII)I"⟩
abbrev cX11_see : ByteArray := prog_1_method_26_code
def yX11_see : MethodName := ⟨RX11, "see", "(IIIZ)I"⟩
abbrev cX11_fewest : ByteArray := prog_1_method_27_code
def yX11_fewest : MethodName := ⟨RX11, "fewest", "()I"⟩
abbrev cX11_sure : ByteArray := prog_1_method_28_code
def yX11_sure : MethodName := ⟨RX11, "sure", "(I)I"⟩
abbrev cX11_canBeDone : ByteArray := prog_1_method_29_code
def yX11_canBeDone : MethodName := ⟨RX11, "canBeDone", "(III)Z"⟩
abbrev cX11_paper : ByteArray := prog_1_method_30_code
def yX11_paper : MethodName := ⟨RX11, "paper", "(III)I"⟩
abbrev cX11_read : ByteArray := prog_1_method_31_code
def yX11_read : MethodName := ⟨RX11, "read", "(III)Z"⟩
abbrev cX11_knew : ByteArray := prog_1_method_32_code
def yX11_knew : MethodName := ⟨RX11, "knew", "(II)I"⟩
abbrev cX11_warned : ByteArray := prog_1_method_33_code
def yX11_warned : MethodName := ⟨RX11, "warned", "(II)I"⟩
abbrev cX11_wears : ByteArray := prog_1_method_34_code
def yX11_wears : MethodName := ⟨RX11, "wears", "(II)I"⟩
abbrev cX11_fly : ByteArray := prog_1_method_35_code
def yX11_fly : MethodName := ⟨RX11, "fly", "(II)I"⟩
abbrev cX11_odds : ByteArray := prog_1_method_36_code
def yX11_odds : MethodName := ⟨RX11, "odds", "(II)I"⟩
abbrev cX11_first : ByteArray := prog_1_method_37_code
def yX11_first : MethodName := ⟨RX11, "first", "(III)I"⟩
abbrev cX11_noneAfter : ByteArray := prog_1_method_38_code
def yX11_noneAfter : MethodName := ⟨RX11, "noneAfter", "(III)I"⟩
abbrev cX11_mark : ByteArray := prog_1_method_39_code
def yX11_mark : MethodName := ⟨RX11, "mark", "(I)I"⟩
abbrev cX11_back : ByteArray := prog_1_method_40_code
def yX11_back : MethodName := ⟨RX11, "back", "(I)I"⟩
abbrev cX11_count : ByteArray := prog_1_method_41_code
def yX11_count : MethodName := ⟨RX11, "count", "(I)I"⟩
abbrev cX11_within : ByteArray := prog_1_method_42_code
def yX11_within : MethodName := ⟨RX11, "within", "(III)Z"⟩
abbrev cX11_asNumber : ByteArray := prog_1_method_43_code
def yX11_asNumber : MethodName := ⟨RX11, "asNumber", "(Z)I"⟩
abbrev cX11_swap : ByteArray := prog_1_method_44_code
def yX11_swap : MethodName := ⟨RX11, "swap", "([III)I"⟩
abbrev cX11_hasPart : ByteArray := prog_1_method_45_code
def yX11_hasPart : MethodName := ⟨RX11, "hasPart", "(I)Z"⟩
abbrev cX11_hasMachine : ByteArray := prog_1_method_46_code
def yX11_hasMachine : MethodName := ⟨RX11, "hasMachine", "(I)Z"⟩
abbrev cX11_hasPartOf : ByteArray := prog_1_method_47_code
def yX11_hasPartOf : MethodName := ⟨RX11, "hasPartOf", "(II)Z"⟩
def RX12 : String := "NearlyShutModel"
def TX12 : u_T := fun k => match k with
  | 0 => ("NearlyShutModel", "thrown", "I", false)
  | 1 => ("NearlyShutModel", "now", "I", false)
  | 2 => ("NearlyShutModel", "parts", "I", false)
  | 3 => ("NearlyShutModel", "machines", "I", false)
  | 4 => ("NearlyShutModel", "kind", "[I", true)
  | 5 => ("NearlyShutModel", "driver", "[I", true)
  | 6 => ("NearlyShutModel", "gap", "[I", true)
  | 7 => ("NearlyShutModel", "share", "[I", true)
  | 8 => ("NearlyShutModel", "limit", "[I", true)
  | 9 => ("NearlyShutModel", "strength", "[I", true)
  | 10 => ("NearlyShutModel", "markOf", "[I", true)
  | 11 => ("NearlyShutModel", "wearsBy", "[I", true)
  | 12 => ("NearlyShutModel", "wear", "[I", true)
  | 13 => ("NearlyShutModel", "set", "[I", true)
  | 14 => ("NearlyShutModel", "bent", "[I", true)
  | 15 => ("NearlyShutModel", "place", "[I", true)
  | 16 => ("NearlyShutModel", "flights", "[I", true)
  | 17 => ("NearlyShutModel", "took", "[I", true)
  | 18 => ("NearlyShutModel", "itsGap", "[I", true)
  | 19 => ("NearlyShutModel", "itsMark", "[I", true)
  | 20 => ("NearlyShutModel", "itsStrength", "[I", true)
  | 21 => ("NearlyShutModel", "itsWear", "[I", true)
  | 22 => ("NearlyShutModel", "itsBent", "[I", true)
  | 23 => ("NearlyShutModel", "itsPlace", "[I", true)
  | 24 => ("NearlyShutModel", "asked", "[I", true)
  | 25 => ("NearlyShutModel", "changes", "I", false)
  | 26 => ("NearlyShutModel", "changeOf", "[I", true)
  | 27 => ("NearlyShutModel", "lessGap", "[I", true)
  | 28 => ("NearlyShutModel", "moreMark", "[I", true)
  | 29 => ("NearlyShutModel", "moreStrength", "[I", true)
  | 30 => ("NearlyShutModel", "coins", "[I", true)
  | 31 => ("NearlyShutModel", "bears", "[I", true)
  | 32 => ("NearlyShutModel", "taped", "I", false)
  | 33 => ("NearlyShutModel", "p", "I", false)
  | 34 => ("NearlyShutModel", "fault", "I", false)
  | 35 => ("NearlyShutModel", "orders", "I", false)
  | 36 => ("NearlyShutModel", "entries", "I", false)
  | 37 => ("NearlyShutModel", "deep", "I", false)
  | 38 => ("NearlyShutModel", "counted", "I", false)
  | 39 => ("NearlyShutModel", "opened", "I", false)
  | 40 => ("NearlyShutModel", "tape", "[B", true)
  | 41 => ("NearlyShutModel", "sort", "[I", true)
  | 42 => ("NearlyShutModel", "number", "[I", true)
  | 43 => ("NearlyShutModel", "orderKind", "[I", true)
  | 44 => ("NearlyShutModel", "binds", "[I", true)
  | 45 => ("NearlyShutModel", "clauses", "[I", true)
  | 46 => ("NearlyShutModel", "tells", "[I", true)
  | 47 => ("NearlyShutModel", "first", "[I", true)
  | 48 => ("NearlyShutModel", "second", "[I", true)
  | 49 => ("NearlyShutModel", "sumAt", "[I", true)
  | 50 => ("NearlyShutModel", "testAt", "[I", true)
  | 51 => ("NearlyShutModel", "endAt", "[I", true)
  | 52 => ("NearlyShutModel", "open", "[I", true)
  | 53 => ("NearlyShutModel", "askedFor", "[J", true)
  | 54 => ("NearlyShutModel", "stack", "[J", true)
  | 55 => ("NearlyShutModel", "owed", "I", false)
  | 56 => ("NearlyShutModel", "late", "I", false)
  | 57 => ("NearlyShutModel", "force", "I", false)
  | 58 => ("NearlyShutModel", "look", "I", false)
  | 59 => ("NearlyShutModel", "grounded", "Z", false)
  | 60 => ("NearlyShutModel", "stamps", "I", false)
  | 61 => ("NearlyShutModel", "sights", "I", false)
  | 62 => ("NearlyShutModel", "stampOf", "[I", true)
  | 63 => ("NearlyShutModel", "taskOf", "[I", true)
  | 64 => ("NearlyShutModel", "manOf", "[I", true)
  | 65 => ("NearlyShutModel", "dayOf", "[I", true)
  | 66 => ("NearlyShutModel", "slotOf", "[I", true)
  | 67 => ("NearlyShutModel", "used", "[I", true)
  | 68 => ("NearlyShutModel", "sightOf", "[I", true)
  | 69 => ("NearlyShutModel", "sightTask", "[I", true)
  | 70 => ("NearlyShutModel", "sightIn", "[I", true)
  | 71 => ("NearlyShutModel", "sightDone", "[Z", true)
  | 72 => ("NearlyShutModel", "allowed", "[Z", true)
  | 73 => ("NearlyShutModel", "gone", "[Z", true)
  | 74 => ("NearlyShutModel", "doneBy", "[I", true)
  | 75 => ("NearlyShutModel", "notBy", "[I", true)
  | 76 => ("NearlyShutModel", "chosen", "[I", true)
  | 77 => ("NearlyShutModel", "wantedBy", "[I", true)
  | 78 => ("NearlyShutModel", "wantedFor", "[I", true)
  | 79 => ("NearlyShutModel", "row", "[I", true)
  | 80 => ("NearlyShutModel", "papers", "I", false)
  | 81 => ("NearlyShutModel", "paperOf", "[I", true)
  | 82 => ("NearlyShutModel", "paperIn", "[I", true)
  | 83 => ("NearlyShutModel", "needs", "[I", true)
  | 84 => ("NearlyShutModel", "readIn", "[I", true)
  | 85 => ("NearlyShutModel", "knewIn", "[I", true)
  | 86 => ("NearlyShutModel", "marks", "[I", true)
  | 87 => ("NearlyShutModel", "markedParts", "[I", true)
  | 88 => ("NearlyShutModel", "markedMachines", "[I", true)
  | 89 => ("NearlyShutModel", "markedIn", "[I", true)
  | 90 => ("NearlyShutModel", "isMarked", "[Z", true)
  | 91 => ("NearlyShutModel", "markAt", "I", false)
  | _ => ("NearlyShutModel", "isBack", "Z", false)
def tyX12 : Nat → FieldType := fun k => match k with
  | 0 => .int
  | 1 => .int
  | 2 => .int
  | 3 => .int
  | 4 => .array .int
  | 5 => .array .int
  | 6 => .array .int
  | 7 => .array .int
  | 8 => .array .int
  | 9 => .array .int
  | 10 => .array .int
  | 11 => .array .int
  | 12 => .array .int
  | 13 => .array .int
  | 14 => .array .int
  | 15 => .array .int
  | 16 => .array .int
  | 17 => .array .int
  | 18 => .array .int
  | 19 => .array .int
  | 20 => .array .int
  | 21 => .array .int
  | 22 => .array .int
  | 23 => .array .int
  | 24 => .array .int
  | 25 => .int
  | 26 => .array .int
  | 27 => .array .int
  | 28 => .array .int
  | 29 => .array .int
  | 30 => .array .int
  | 31 => .array .int
  | 32 => .int
  | 33 => .int
  | 34 => .int
  | 35 => .int
  | 36 => .int
  | 37 => .int
  | 38 => .int
  | 39 => .int
  | 40 => .array .byte
  | 41 => .array .int
  | 42 => .array .int
  | 43 => .array .int
  | 44 => .array .int
  | 45 => .array .int
  | 46 => .array .int
  | 47 => .array .int
  | 48 => .array .int
  | 49 => .array .int
  | 50 => .array .int
  | 51 => .array .int
  | 52 => .array .int
  | 53 => .array .long
  | 54 => .array .long
  | 55 => .int
  | 56 => .int
  | 57 => .int
  | 58 => .int
  | 59 => .boolean
  | 60 => .int
  | 61 => .int
  | 62 => .array .int
  | 63 => .array .int
  | 64 => .array .int
  | 65 => .array .int
  | 66 => .array .int
  | 67 => .array .int
  | 68 => .array .int
  | 69 => .array .int
  | 70 => .array .int
  | 71 => .array .boolean
  | 72 => .array .boolean
  | 73 => .array .boolean
  | 74 => .array .int
  | 75 => .array .int
  | 76 => .array .int
  | 77 => .array .int
  | 78 => .array .int
  | 79 => .array .int
  | 80 => .int
  | 81 => .array .int
  | 82 => .array .int
  | 83 => .array .int
  | 84 => .array .int
  | 85 => .array .int
  | 86 => .array .int
  | 87 => .array .int
  | 88 => .array .int
  | 89 => .array .int
  | 90 => .array .boolean
  | 91 => .int
  | _ => .boolean
theorem nmX12 : ∀ a, a < 93 → ∀ b, b < 93 → a ≠ b → (TX12 a).2.1 ≠ (TX12 b).2.1 := by decide +kernel
theorem tyX12_ok : ∀ k, k < 93 → parseFieldDescriptor (TX12 k).2.2.1 = some (tyX12 k) := by decide +kernel
abbrev cX12_init : ByteArray := prog_14_method_1_code
def yX12_init : MethodName := ⟨RX12, "<init>", "()V"⟩
abbrev cX12_in : ByteArray := prog_14_method_3_code
def yX12_in : MethodName := ⟨RX12, "in", "(JJJ)Z"⟩
abbrev cX12_isDay : ByteArray := prog_14_method_4_code
def yX12_isDay : MethodName := ⟨RX12, "isDay", "(I)Z"⟩
abbrev cX12_clock : ByteArray := prog_14_method_5_code
def yX12_clock : MethodName := ⟨RX12, "clock", "(I)Z"⟩
abbrev cX12_isPart : ByteArray := prog_14_method_6_code
def yX12_isPart : MethodName := ⟨RX12, "isPart", "(I)Z"⟩
abbrev cX12_isMachine : ByteArray := prog_14_method_7_code
def yX12_isMachine : MethodName := ⟨RX12, "isMachine", "(I)Z"⟩
abbrev cX12_isDriven : ByteArray := prog_14_method_8_code
def yX12_isDriven : MethodName := ⟨RX12, "isDriven", "(II)Z"⟩
abbrev cX12_part : ByteArray := prog_14_method_9_code
def yX12_part : MethodName := ⟨RX12, "part", "(IIIIIII)I"⟩
abbrev cX12_machine : ByteArray := prog_14_method_10_code
def yX12_machine : MethodName := ⟨RX12, "machine", "()I"⟩
abbrev cX12_clears : ByteArray := prog_14_method_11_code
def yX12_clears : MethodName := ⟨RX12, "clears", "(II)V"⟩
abbrev cX12_turn : ByteArray := prog_14_method_12_code
def yX12_turn : MethodName := ⟨RX12, "turn", "(IIII)I"⟩
abbrev cX12_anew : ByteArray := prog_14_method_13_code
def yX12_anew : MethodName := ⟨RX12, "anew", "(II)I"⟩
abbrev cX12_takes : ByteArray := prog_14_method_14_code
def yX12_takes : MethodName := ⟨RX12, "takes", "(I)V"⟩
abbrev cX12_lets : ByteArray := prog_14_method_15_code
def yX12_lets : MethodName := ⟨RX12, "lets", "(II)Z"⟩
abbrev cX12_pushes : ByteArray := prog_14_method_16_code
def yX12_pushes : MethodName := ⟨RX12, "pushes", "(II)I"⟩
abbrev cX12_push : ByteArray := prog_14_method_17_code
def yX12_push : MethodName := ⟨RX12, "push", "(III)I"⟩
abbrev cX12_release : ByteArray := prog_14_method_18_code
def yX12_release : MethodName := ⟨RX12, "release", "(I)Z"⟩
abbrev cX12_isOver : ByteArray := prog_14_method_19_code
def yX12_isOver : MethodName := ⟨RX12, "isOver", "(I)Z"⟩
abbrev cX12_state : ByteArray := prog_14_method_20_code
def yX12_state : MethodName := ⟨RX12, "state", "(III)I"⟩
abbrev cX12_isShut : ByteArray := prog_14_method_21_code
def yX12_isShut : MethodName := ⟨RX12, "isShut", "()Z"⟩
abbrev cX12_lookedBy : ByteArray := prog_14_method_22_code
def yX12_lookedBy : MethodName := ⟨RX12, "lookedBy", "(I)I"⟩
abbrev cX12_looksSo : ByteArray := prog_14_method_23_code
def yX12_looksSo : MethodName := ⟨RX12, "looksSo", "(I)Z"⟩
abbrev cX12_isUnlike : ByteArray := prog_14_method_24_code
def yX12_isUnlike : MethodName := ⟨RX12, "isUnlike", "(I)Z"⟩
abbrev cX12_judged : ByteArray := prog_14_method_25_code
def yX12_judged : MethodName := ⟨RX12, "judged", "(III)I"⟩
abbrev cX12_alters : ByteArray := prog_14_method_26_code
def yX12_alters : MethodName := ⟨RX12, "alters", "(I)V"⟩
abbrev cX12_unlikes : ByteArray := prog_14_method_27_code
def yX12_unlikes : MethodName := ⟨RX12, "unlikes", "(IIIIIIII)I"⟩
abbrev cX12_isTrial : ByteArray := prog_14_method_28_code
def yX12_isTrial : MethodName := ⟨RX12, "isTrial", "(IIIIII)Z"⟩
abbrev cX12_tried : ByteArray := prog_14_method_29_code
def yX12_tried : MethodName := ⟨RX12, "tried", "(IIIIIII)I"⟩
abbrev cX12_change : ByteArray := prog_14_method_30_code
def yX12_change : MethodName := ⟨RX12, "change", "(IIIII)I"⟩
abbrev cX12_bits : ByteArray := prog_14_method_31_code
def yX12_bits : MethodName := ⟨RX12, "bits", "(I)I"⟩
abbrev cX12_cheapest : ByteArray := prog_14_method_32_code
def yX12_cheapest : MethodName := ⟨RX12, "cheapest", "(IIIIII)I"⟩
abbrev cX12_goes : ByteArray := prog_14_method_33_code
def yX12_goes : MethodName := ⟨RX12, "goes", "(III)I"⟩
abbrev cX12_floor : ByteArray := prog_14_method_34_code
def yX12_floor : MethodName := ⟨RX12, "floor", "(IIIIIII)I"⟩
abbrev cX12_feed : ByteArray := prog_14_method_35_code
def yX12_feed : MethodName := ⟨RX12, "feed", "(IIIII)I"⟩
abbrev cX12_put : ByteArray := prog_14_method_36_code
def yX12_put : MethodName := ⟨RX12, "put", "(I)V"⟩
abbrev cX12_end : ByteArray := prog_14_method_37_code
def yX12_end : MethodName := ⟨RX12, "end", "(I)I"⟩
abbrev cX12_wordOf : ByteArray := prog_14_method_38_code
def yX12_wordOf : MethodName := ⟨RX12, "wordOf", "(I)Ljava/lang/String;"⟩
abbrev cX12_clauseOf : ByteArray := prog_14_method_39_code
def yX12_clauseOf : MethodName := ⟨RX12, "clauseOf", "(I)Ljava/lang/String;"⟩
abbrev cX12_thingOf : ByteArray := prog_14_method_40_code
def yX12_thingOf : MethodName := ⟨RX12, "thingOf", "(I)Ljava/lang/String;"⟩
abbrev cX12_fails : ByteArray := prog_14_method_41_code
def yX12_fails : MethodName := ⟨RX12, "fails", "(II)V"⟩
abbrev cX12_sign : ByteArray := prog_14_method_42_code
def yX12_sign : MethodName := ⟨RX12, "sign", "()I"⟩
abbrev cX12_blanks : ByteArray := prog_14_method_43_code
def yX12_blanks : MethodName := ⟨RX12, "blanks", "()V"⟩
abbrev cX12_isDigit : ByteArray := prog_14_method_44_code
def yX12_isDigit : MethodName := ⟨RX12, "isDigit", "()Z"⟩
abbrev cX12_stands : ByteArray := prog_14_method_45_code
def yX12_stands : MethodName := ⟨RX12, "stands", "(Ljava/lang/String;)Z"⟩
abbrev cX12_takes_ : ByteArray := prog_14_method_46_code
def yX12_takes_ : MethodName := ⟨RX12, "takes", "(Ljava/lang/String;)Z"⟩
abbrev cX12_entry : ByteArray := prog_14_method_47_code
def yX12_entry : MethodName := ⟨RX12, "entry", "(II)V"⟩
abbrev cX12_isCounted : ByteArray := prog_14_method_48_code
def yX12_isCounted : MethodName := ⟨RX12, "isCounted", "(I)V"⟩
abbrev cX12_digits : ByteArray := prog_14_method_49_code
def yX12_digits : MethodName := ⟨RX12, "digits", "(I)I"⟩
abbrev cX12_value : ByteArray := prog_14_method_50_code
def yX12_value : MethodName := ⟨RX12, "value", "()V"⟩
abbrev cX12_sum : ByteArray := prog_14_method_51_code
def yX12_sum : MethodName := ⟨RX12, "sum", "()V"⟩
abbrev cX12_compared : ByteArray := prog_14_method_52_code
def yX12_compared : MethodName := ⟨RX12, "compared", "()V"⟩
abbrev cX12_top : ByteArray := prog_14_method_53_code
def yX12_top : MethodName := ⟨RX12, "top", "()I"⟩
abbrev cX12_opens : ByteArray := prog_14_method_54_code
def yX12_opens : MethodName := ⟨RX12, "opens", "(I)V"⟩
abbrev cX12_answers : ByteArray := prog_14_method_55_code
def yX12_answers : MethodName := ⟨RX12, "answers", "(I)V"⟩
abbrev cX12_fact : ByteArray := prog_14_method_56_code
def yX12_fact : MethodName := ⟨RX12, "fact", "()Z"⟩
abbrev cX12_test : ByteArray := prog_14_method_57_code
def yX12_test : MethodName := ⟨RX12, "test", "()V"⟩
abbrev cX12_clause : ByteArray := prog_14_method_58_code
def yX12_clause : MethodName := ⟨RX12, "clause", "(I)V"⟩
abbrev cX12_order : ByteArray := prog_14_method_59_code
def yX12_order : MethodName := ⟨RX12, "order", "(II)I"⟩
abbrev cX12_takes__ : ByteArray := prog_14_method_60_code
def yX12_takes__ : MethodName := ⟨RX12, "takes", "(IIZ)Z"⟩
abbrev cX12_truth : ByteArray := prog_14_method_61_code
def yX12_truth : MethodName := ⟨RX12, "truth", "(Z)J"⟩
abbrev cX12_both : ByteArray := prog_14_method_62_code
def yX12_both : MethodName := ⟨RX12, "both", "(IJJ)J"⟩
abbrev cX12_answer : ByteArray := prog_14_method_63_code
def yX12_answer : MethodName := ⟨RX12, "answer", "(III)J"⟩
abbrev cX12_doneOf : ByteArray := prog_14_method_64_code
def yX12_doneOf : MethodName := ⟨RX12, "doneOf", "(I)I"⟩
abbrev cX12_binds : ByteArray := prog_14_method_65_code
def yX12_binds : MethodName := ⟨RX12, "binds", "(I)V"⟩
abbrev cX12_binds_ : ByteArray := prog_14_method_66_code
def yX12_binds_ : MethodName := ⟨RX12, "binds", "(III)V"⟩
abbrev cX12_bound : ByteArray := prog_14_method_67_code
def yX12_bound : MethodName := ⟨RX12, "bound", "(II)I"⟩
abbrev cX12_stamp : ByteArray := prog_14_method_68_code
def yX12_stamp : MethodName := ⟨RX12, "stamp", "(IIII)I"⟩
abbrev cX12_see : ByteArray := prog_14_method_69_code
def yX12_see : MethodName := ⟨RX12, "see", "(IIIZ)I"⟩
abbrev cX12_needOf : ByteArray := prog_14_method_70_code
def yX12_needOf : MethodName := ⟨RX12, "needOf", "(I)I"⟩
abbrev cX12_looks : ByteArray := prog_14_method_71_code
def yX12_looks : MethodName := ⟨RX12, "looks", "()V"⟩
abbrev cX12_fits : ByteArray := prog_14_method_72_code
def yX12_fits : MethodName := ⟨RX12, "fits", "(III)Z"⟩
abbrev cX12_finds : ByteArray := prog_14_method_73_code
def yX12_finds : MethodName := ⟨RX12, "finds", "(II)Z"⟩
abbrev cX12_isIn : ByteArray := prog_14_method_74_code
def yX12_isIn : MethodName := ⟨RX12, "isIn", "(II)Z"⟩
abbrev cX12_gives : ByteArray := prog_14_method_75_code
def yX12_gives : MethodName := ⟨RX12, "gives", "(II)V"⟩
abbrev cX12_canBe : ByteArray := prog_14_method_76_code
def yX12_canBe : MethodName := ⟨RX12, "canBe", "(II)Z"⟩
abbrev cX12_fewest : ByteArray := prog_14_method_77_code
def yX12_fewest : MethodName := ⟨RX12, "fewest", "()I"⟩
abbrev cX12_sure : ByteArray := prog_14_method_78_code
def yX12_sure : MethodName := ⟨RX12, "sure", "(I)I"⟩
abbrev cX12_paper : ByteArray := prog_14_method_79_code
def yX12_paper : MethodName := ⟨RX12, "paper", "(III)I"⟩
abbrev cX12_read : ByteArray := prog_14_method_80_code
def yX12_read : MethodName := ⟨RX12, "read", "(III)Z"⟩
abbrev cX12_knows : ByteArray := prog_14_method_81_code
def yX12_knows : MethodName := ⟨RX12, "knows", "(I)V"⟩
abbrev cX12_knew : ByteArray := prog_14_method_82_code
def yX12_knew : MethodName := ⟨RX12, "knew", "(II)I"⟩
abbrev cX12_warned : ByteArray := prog_14_method_83_code
def yX12_warned : MethodName := ⟨RX12, "warned", "(II)I"⟩
abbrev cX12_wears : ByteArray := prog_14_method_84_code
def yX12_wears : MethodName := ⟨RX12, "wears", "(II)I"⟩
abbrev cX12_fly : ByteArray := prog_14_method_85_code
def yX12_fly : MethodName := ⟨RX12, "fly", "(II)I"⟩
abbrev cX12_behind : ByteArray := prog_14_method_86_code
def yX12_behind : MethodName := ⟨RX12, "behind", "(JI)J"⟩
abbrev cX12_isChance : ByteArray := prog_14_method_87_code
def yX12_isChance : MethodName := ⟨RX12, "isChance", "(I)Z"⟩
abbrev cX12_odds : ByteArray := prog_14_method_88_code
def yX12_odds : MethodName := ⟨RX12, "odds", "(II)I"⟩
abbrev cX12_first : ByteArray := prog_14_method_89_code
def yX12_first : MethodName := ⟨RX12, "first", "(III)I"⟩
abbrev cX12_carry : ByteArray := prog_14_method_90_code
def yX12_carry : MethodName := ⟨RX12, "carry", "([I)V"⟩
abbrev cX12_carries : ByteArray := prog_14_method_91_code
def yX12_carries : MethodName := ⟨RX12, "carries", "(I)V"⟩
abbrev cX12_mark : ByteArray := prog_14_method_92_code
def yX12_mark : MethodName := ⟨RX12, "mark", "(I)I"⟩
abbrev cX12_back : ByteArray := prog_14_method_93_code
def yX12_back : MethodName := ⟨RX12, "back", "(I)I"⟩
abbrev cX12_forgets : ByteArray := prog_14_method_94_code
def yX12_forgets : MethodName := ⟨RX12, "forgets", "()V"⟩
abbrev cX12_count : ByteArray := prog_14_method_95_code
def yX12_count : MethodName := ⟨RX12, "count", "(I)I"⟩
def RJ6 : String := "java/lang/Integer"
def TJ6 : u_T := fun k => match k with
  | _ => ("", "", "", false)
def tyJ6 : Nat → FieldType := fun k => match k with
  | _ => .int
theorem nmJ6 : ∀ a, a < 0 → ∀ b, b < 0 → a ≠ b → (TJ6 a).2.1 ≠ (TJ6 b).2.1 := by decide +kernel
theorem tyJ6_ok : ∀ k, k < 0 → parseFieldDescriptor (TJ6 k).2.2.1 = some (tyJ6 k) := by decide +kernel
abbrev cJ6_bitCount_0f7a4 : ByteArray := prog_15_method_49_code
def yJ6_bitCount_0f7a4 : MethodName := ⟨RJ6, "bitCount", "(I)I"⟩
def RJ9 : String := "java/lang/Math"
def TJ9 : u_T := fun k => match k with
  | _ => ("", "", "", false)
def tyJ9 : Nat → FieldType := fun k => match k with
  | _ => .int
theorem nmJ9 : ∀ a, a < 0 → ∀ b, b < 0 → a ≠ b → (TJ9 a).2.1 ≠ (TJ9 b).2.1 := by decide +kernel
theorem tyJ9_ok : ∀ k, k < 0 → parseFieldDescriptor (TJ9 k).2.2.1 = some (tyJ9 k) := by decide +kernel
abbrev cJ9_max_7cf53 : ByteArray := prog_16_method_65_code
def yJ9_max_7cf53 : MethodName := ⟨RJ9, "max", "(II)I"⟩
abbrev cJ9_max_f86c9 : ByteArray := prog_16_method_66_code
def yJ9_max_f86c9 : MethodName := ⟨RJ9, "max", "(JJ)J"⟩
abbrev cJ9_min_7cf53 : ByteArray := prog_16_method_69_code
def yJ9_min_7cf53 : MethodName := ⟨RJ9, "min", "(II)I"⟩
abbrev cJ9_min_f86c9 : ByteArray := prog_16_method_70_code
def yJ9_min_f86c9 : MethodName := ⟨RJ9, "min", "(JJ)J"⟩
def RJ0 : String := "java/lang/String"
def TJ0 : u_T := fun k => match k with
  | _ => ("", "", "", false)
def tyJ0 : Nat → FieldType := fun k => match k with
  | _ => .int
theorem nmJ0 : ∀ a, a < 0 → ∀ b, b < 0 → a ≠ b → (TJ0 a).2.1 ≠ (TJ0 b).2.1 := by decide +kernel
theorem tyJ0_ok : ∀ k, k < 0 → parseFieldDescriptor (TJ0 k).2.2.1 = some (tyJ0 k) := by decide +kernel
abbrev cJ0_length_8abf5 : ByteArray := prog_17_method_54_code
def yJ0_length_8abf5 : MethodName := ⟨RJ0, "length", "()I"⟩
abbrev cJ0_charAt_5068e : ByteArray := prog_17_method_56_code
def yJ0_charAt_5068e : MethodName := ⟨RJ0, "charAt", "(I)C"⟩
abbrev cJ0_coder_7d493 : ByteArray := prog_17_method_152_code
def yJ0_coder_7d493 : MethodName := ⟨RJ0, "coder", "()B"⟩
abbrev cJ0_isLatin1_aae02 : ByteArray := prog_17_method_154_code
def yJ0_isLatin1_aae02 : MethodName := ⟨RJ0, "isLatin1", "()Z"⟩
abbrev cJ0_checkIndex_df160 : ByteArray := prog_17_method_155_code
def yJ0_checkIndex_df160 : MethodName := ⟨RJ0, "checkIndex", "(II)V"⟩
def RJ1 : String := "java/lang/StringLatin1"
def TJ1 : u_T := fun k => match k with
  | _ => ("", "", "", false)
def tyJ1 : Nat → FieldType := fun k => match k with
  | _ => .int
theorem nmJ1 : ∀ a, a < 0 → ∀ b, b < 0 → a ≠ b → (TJ1 a).2.1 ≠ (TJ1 b).2.1 := by decide +kernel
theorem tyJ1_ok : ∀ k, k < 0 → parseFieldDescriptor (TJ1 k).2.2.1 = some (tyJ1 k) := by decide +kernel
abbrev cJ1_charAt_3b067 : ByteArray := prog_18_method_2_code
def yJ1_charAt_3b067 : MethodName := ⟨RJ1, "charAt", "([BI)C"⟩
def RJ2 : String := "java/lang/StringUTF16"
def TJ2 : u_T := fun k => match k with
  | _ => ("", "", "", false)
def tyJ2 : Nat → FieldType := fun k => match k with
  | _ => .int
theorem nmJ2 : ∀ a, a < 0 → ∀ b, b < 0 → a ≠ b → (TJ2 a).2.1 ≠ (TJ2 b).2.1 := by decide +kernel
theorem tyJ2_ok : ∀ k, k < 0 → parseFieldDescriptor (TJ2 k).2.2.1 = some (tyJ2 k) := by decide +kernel
abbrev cJ2_getChar_3b067 : ByteArray := prog_19_method_5_code
def yJ2_getChar_3b067 : MethodName := ⟨RJ2, "getChar", "([BI)C"⟩
abbrev cJ2_length_9d52b : ByteArray := prog_19_method_6_code
def yJ2_length_9d52b : MethodName := ⟨RJ2, "length", "([B)I"⟩
abbrev cJ2_charAt_3b067 : ByteArray := prog_19_method_83_code
def yJ2_charAt_3b067 : MethodName := ⟨RJ2, "charAt", "([BI)C"⟩
abbrev cJ2_checkIndex_2214a : ByteArray := prog_19_method_91_code
def yJ2_checkIndex_2214a : MethodName := ⟨RJ2, "checkIndex", "(I[B)V"⟩
def RJ10 : String := "java/lang/System"
def TJ10 : u_T := fun k => match k with
  | _ => ("", "", "", false)
def tyJ10 : Nat → FieldType := fun k => match k with
  | _ => .int
theorem nmJ10 : ∀ a, a < 0 → ∀ b, b < 0 → a ≠ b → (TJ10 a).2.1 ≠ (TJ10 b).2.1 := by decide +kernel
theorem tyJ10_ok : ∀ k, k < 0 → parseFieldDescriptor (TJ10 k).2.2.1 = some (tyJ10 k) := by decide +kernel
def RJ7 : String := "java/util/Arrays"
def TJ7 : u_T := fun k => match k with
  | _ => ("", "", "", false)
def tyJ7 : Nat → FieldType := fun k => match k with
  | _ => .int
theorem nmJ7 : ∀ a, a < 0 → ∀ b, b < 0 → a ≠ b → (TJ7 a).2.1 ≠ (TJ7 b).2.1 := by decide +kernel
theorem tyJ7_ok : ∀ k, k < 0 → parseFieldDescriptor (TJ7 k).2.2.1 = some (tyJ7 k) := by decide +kernel
abbrev cJ7_rangeCheck_23922 : ByteArray := prog_21_method_30_code
def yJ7_rangeCheck_23922 : MethodName := ⟨RJ7, "rangeCheck", "(III)V"⟩
abbrev cJ7_fill_53178 : ByteArray := prog_21_method_103_code
def yJ7_fill_53178 : MethodName := ⟨RJ7, "fill", "([II)V"⟩
abbrev cJ7_fill_fda19 : ByteArray := prog_21_method_104_code
def yJ7_fill_fda19 : MethodName := ⟨RJ7, "fill", "([IIII)V"⟩
def RJ3 : String := "jdk/internal/util/Preconditions"
def TJ3 : u_T := fun k => match k with
  | _ => ("", "", "", false)
def tyJ3 : Nat → FieldType := fun k => match k with
  | _ => .int
theorem nmJ3 : ∀ a, a < 0 → ∀ b, b < 0 → a ≠ b → (TJ3 a).2.1 ≠ (TJ3 b).2.1 := by decide +kernel
theorem tyJ3_ok : ∀ k, k < 0 → parseFieldDescriptor (TJ3 k).2.2.1 = some (tyJ3 k) := by decide +kernel
abbrev cJ3_checkIndex_8e157 : ByteArray := prog_22_method_11_code
def yJ3_checkIndex_8e157 : MethodName := ⟨RJ3, "checkIndex", "(IILjava/util/function/BiFunction;)I"⟩
def RL : String := "NearlyShutLaw"
abbrev cL_law : ByteArray := code
def yL_law : MethodName := ⟨RL, "law", "([I)Z"⟩
abbrev vwCl : List vw_C := [(RX0, TX0, 8), (RX1, TX1, 6), (RX2, TX2, 10), (RX3, TX3, 10), (RX4, TX4, 7), (RX5, TX5, 10), (RX6, TX6, 6), (RX7, TX7, 7), (RX8, TX8, 13), (RX9, TX9, 7), (RX10, TX10, 7), (RX11, TX11, 14), (RX12, TX12, 93)]
