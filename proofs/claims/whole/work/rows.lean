section
/-- a private method of a class that the tables say can be made, by its rows of tables_1 -/
def lw_okq (q : MethodName × Nat) : Prop := (q.1.cls ≠ "java/lang/invoke/MethodHandle" ∧ q.1.cls ≠ "java/lang/invoke/VarHandle") ∧ Cond.instantiable q.1.cls q.2 ∈ tables_1 ∧ Cond.privateMethod q.1 ∈ tables_1 ∧ Cond.instanceMethod q.1 ∈ tables_1
theorem lw_p0 : lw_okq (⟨"BoundFrames", "isClassOfAir", "(I)Z"⟩, 6) := ⟨⟨by decide +kernel, by decide +kernel⟩, List.mem_of_getElem? (i := 13) (by decide +kernel), List.mem_of_getElem? (i := 435) (by decide +kernel), List.mem_of_getElem? (i := 436) (by decide +kernel)⟩
theorem lw_p1 : lw_okq (⟨"BoundFrames", "bundleArrives", "(LBoundFrames$Letter;I)I"⟩, 6) := ⟨⟨by decide +kernel, by decide +kernel⟩, List.mem_of_getElem? (i := 13) (by decide +kernel), List.mem_of_getElem? (i := 548) (by decide +kernel), List.mem_of_getElem? (i := 549) (by decide +kernel)⟩
theorem lw_p2 : lw_okq (⟨"BoundFrames", "answer", "(I)V"⟩, 6) := ⟨⟨by decide +kernel, by decide +kernel⟩, List.mem_of_getElem? (i := 13) (by decide +kernel), List.mem_of_getElem? (i := 597) (by decide +kernel), List.mem_of_getElem? (i := 598) (by decide +kernel)⟩
theorem lw_p3 : lw_okq (⟨"BoundFrames", "arrives", "(LBoundFrames$Letter;)V"⟩, 6) := ⟨⟨by decide +kernel, by decide +kernel⟩, List.mem_of_getElem? (i := 13) (by decide +kernel), List.mem_of_getElem? (i := 601) (by decide +kernel), List.mem_of_getElem? (i := 602) (by decide +kernel)⟩
theorem lw_p4 : lw_okq (⟨"BoundFramesModel", "faultNow", "()I"⟩, 49) := ⟨⟨by decide +kernel, by decide +kernel⟩, List.mem_of_getElem? (i := 767) (by decide +kernel), List.mem_of_getElem? (i := 936) (by decide +kernel), List.mem_of_getElem? (i := 937) (by decide +kernel)⟩
theorem lw_p5 : lw_okq (⟨"BoundFramesModel", "isAir", "()Z"⟩, 49) := ⟨⟨by decide +kernel, by decide +kernel⟩, List.mem_of_getElem? (i := 767) (by decide +kernel), List.mem_of_getElem? (i := 951) (by decide +kernel), List.mem_of_getElem? (i := 952) (by decide +kernel)⟩
theorem lw_p6 : lw_okq (⟨"BoundFramesModel", "isClass", "(I)Z"⟩, 49) := ⟨⟨by decide +kernel, by decide +kernel⟩, List.mem_of_getElem? (i := 767) (by decide +kernel), List.mem_of_getElem? (i := 955) (by decide +kernel), List.mem_of_getElem? (i := 956) (by decide +kernel)⟩
theorem lw_p7 : lw_okq (⟨"BoundFramesModel", "isUnderWay", "(I)Z"⟩, 49) := ⟨⟨by decide +kernel, by decide +kernel⟩, List.mem_of_getElem? (i := 767) (by decide +kernel), List.mem_of_getElem? (i := 959) (by decide +kernel), List.mem_of_getElem? (i := 960) (by decide +kernel)⟩
theorem lw_p8 : lw_okq (⟨"BoundFramesModel", "send", "(IIIII)I"⟩, 49) := ⟨⟨by decide +kernel, by decide +kernel⟩, List.mem_of_getElem? (i := 767) (by decide +kernel), List.mem_of_getElem? (i := 963) (by decide +kernel), List.mem_of_getElem? (i := 964) (by decide +kernel)⟩
theorem lw_p9 : lw_okq (⟨"BoundFramesModel", "isOpen", "(I)Z"⟩, 49) := ⟨⟨by decide +kernel, by decide +kernel⟩, List.mem_of_getElem? (i := 767) (by decide +kernel), List.mem_of_getElem? (i := 971) (by decide +kernel), List.mem_of_getElem? (i := 972) (by decide +kernel)⟩
theorem lw_p10 : lw_okq (⟨"BoundFramesModel", "notDone", "(I)I"⟩, 49) := ⟨⟨by decide +kernel, by decide +kernel⟩, List.mem_of_getElem? (i := 767) (by decide +kernel), List.mem_of_getElem? (i := 975) (by decide +kernel), List.mem_of_getElem? (i := 976) (by decide +kernel)⟩
theorem lw_p11 : lw_okq (⟨"BoundFramesModel", "left", "()I"⟩, 49) := ⟨⟨by decide +kernel, by decide +kernel⟩, List.mem_of_getElem? (i := 767) (by decide +kernel), List.mem_of_getElem? (i := 990) (by decide +kernel), List.mem_of_getElem? (i := 991) (by decide +kernel)⟩
theorem lw_p12 : lw_okq (⟨"BoundFramesModel", "sendBar", "(I)I"⟩, 49) := ⟨⟨by decide +kernel, by decide +kernel⟩, List.mem_of_getElem? (i := 767) (by decide +kernel), List.mem_of_getElem? (i := 994) (by decide +kernel), List.mem_of_getElem? (i := 995) (by decide +kernel)⟩
theorem lw_p13 : lw_okq (⟨"BoundFramesModel", "plan", "(I)V"⟩, 49) := ⟨⟨by decide +kernel, by decide +kernel⟩, List.mem_of_getElem? (i := 767) (by decide +kernel), List.mem_of_getElem? (i := 998) (by decide +kernel), List.mem_of_getElem? (i := 999) (by decide +kernel)⟩
theorem lw_p14 : lw_okq (⟨"BoundFramesModel", "tryOne", "(III)V"⟩, 49) := ⟨⟨by decide +kernel, by decide +kernel⟩, List.mem_of_getElem? (i := 767) (by decide +kernel), List.mem_of_getElem? (i := 1002) (by decide +kernel), List.mem_of_getElem? (i := 1003) (by decide +kernel)⟩
theorem lw_p15 : lw_okq (⟨"BoundFramesModel", "sendBundle", "(I)I"⟩, 49) := ⟨⟨by decide +kernel, by decide +kernel⟩, List.mem_of_getElem? (i := 767) (by decide +kernel), List.mem_of_getElem? (i := 1006) (by decide +kernel), List.mem_of_getElem? (i := 1007) (by decide +kernel)⟩
def lw_privs_1 : List (MethodName × Nat) := [(⟨"BoundFrames", "isClassOfAir", "(I)Z"⟩, 6), (⟨"BoundFrames", "bundleArrives", "(LBoundFrames$Letter;I)I"⟩, 6), (⟨"BoundFrames", "answer", "(I)V"⟩, 6), (⟨"BoundFrames", "arrives", "(LBoundFrames$Letter;)V"⟩, 6), (⟨"BoundFramesModel", "faultNow", "()I"⟩, 49), (⟨"BoundFramesModel", "isAir", "()Z"⟩, 49), (⟨"BoundFramesModel", "isClass", "(I)Z"⟩, 49), (⟨"BoundFramesModel", "isUnderWay", "(I)Z"⟩, 49), (⟨"BoundFramesModel", "send", "(IIIII)I"⟩, 49), (⟨"BoundFramesModel", "isOpen", "(I)Z"⟩, 49), (⟨"BoundFramesModel", "notDone", "(I)I"⟩, 49), (⟨"BoundFramesModel", "left", "()I"⟩, 49), (⟨"BoundFramesModel", "sendBar", "(I)I"⟩, 49), (⟨"BoundFramesModel", "plan", "(I)V"⟩, 49), (⟨"BoundFramesModel", "tryOne", "(III)V"⟩, 49), (⟨"BoundFramesModel", "sendBundle", "(I)I"⟩, 49)]
theorem lw_r1 : ∀ q ∈ lw_privs_1, lw_okq q := List.forall_mem_cons.mpr ⟨lw_p0, List.forall_mem_cons.mpr ⟨lw_p1, List.forall_mem_cons.mpr ⟨lw_p2, List.forall_mem_cons.mpr ⟨lw_p3, List.forall_mem_cons.mpr ⟨lw_p4, List.forall_mem_cons.mpr ⟨lw_p5, List.forall_mem_cons.mpr ⟨lw_p6, List.forall_mem_cons.mpr ⟨lw_p7, List.forall_mem_cons.mpr ⟨lw_p8, List.forall_mem_cons.mpr ⟨lw_p9, List.forall_mem_cons.mpr ⟨lw_p10, List.forall_mem_cons.mpr ⟨lw_p11, List.forall_mem_cons.mpr ⟨lw_p12, List.forall_mem_cons.mpr ⟨lw_p13, List.forall_mem_cons.mpr ⟨lw_p14, List.forall_mem_cons.mpr ⟨lw_p15, fun _ h => absurd h List.not_mem_nil⟩⟩⟩⟩⟩⟩⟩⟩⟩⟩⟩⟩⟩⟩⟩⟩
theorem lw_p16 : lw_okq (⟨"BoundFramesModel", "give", "(II)V"⟩, 49) := ⟨⟨by decide +kernel, by decide +kernel⟩, List.mem_of_getElem? (i := 767) (by decide +kernel), List.mem_of_getElem? (i := 1010) (by decide +kernel), List.mem_of_getElem? (i := 1011) (by decide +kernel)⟩
theorem lw_p17 : lw_okq (⟨"BoundFramesModel", "loseNow", "(I)I"⟩, 49) := ⟨⟨by decide +kernel, by decide +kernel⟩, List.mem_of_getElem? (i := 767) (by decide +kernel), List.mem_of_getElem? (i := 1024) (by decide +kernel), List.mem_of_getElem? (i := 1025) (by decide +kernel)⟩
theorem lw_p18 : lw_okq (⟨"BoundFramesModel", "drop", "(I)V"⟩, 49) := ⟨⟨by decide +kernel, by decide +kernel⟩, List.mem_of_getElem? (i := 767) (by decide +kernel), List.mem_of_getElem? (i := 1028) (by decide +kernel), List.mem_of_getElem? (i := 1029) (by decide +kernel)⟩
theorem lw_p19 : lw_okq (⟨"BoundFramesModel", "giveUp", "(I)V"⟩, 49) := ⟨⟨by decide +kernel, by decide +kernel⟩, List.mem_of_getElem? (i := 767) (by decide +kernel), List.mem_of_getElem? (i := 1032) (by decide +kernel), List.mem_of_getElem? (i := 1033) (by decide +kernel)⟩
theorem lw_p20 : lw_okq (⟨"BoundFramesModel", "isLetter", "(I)Z"⟩, 49) := ⟨⟨by decide +kernel, by decide +kernel⟩, List.mem_of_getElem? (i := 767) (by decide +kernel), List.mem_of_getElem? (i := 1040) (by decide +kernel), List.mem_of_getElem? (i := 1041) (by decide +kernel)⟩
theorem lw_p21 : lw_okq (⟨"BoundFramesModel", "comesBundle", "(II)I"⟩, 49) := ⟨⟨by decide +kernel, by decide +kernel⟩, List.mem_of_getElem? (i := 767) (by decide +kernel), List.mem_of_getElem? (i := 1044) (by decide +kernel), List.mem_of_getElem? (i := 1045) (by decide +kernel)⟩
theorem lw_p22 : lw_okq (⟨"BoundFramesModel", "comesNumber", "(III)V"⟩, 49) := ⟨⟨by decide +kernel, by decide +kernel⟩, List.mem_of_getElem? (i := 767) (by decide +kernel), List.mem_of_getElem? (i := 1048) (by decide +kernel), List.mem_of_getElem? (i := 1049) (by decide +kernel)⟩
theorem lw_p23 : lw_okq (⟨"BoundFramesModel", "marks", "(II)V"⟩, 49) := ⟨⟨by decide +kernel, by decide +kernel⟩, List.mem_of_getElem? (i := 767) (by decide +kernel), List.mem_of_getElem? (i := 1052) (by decide +kernel), List.mem_of_getElem? (i := 1053) (by decide +kernel)⟩
theorem lw_p24 : lw_okq (⟨"BoundFramesModel", "marksTo", "(II)V"⟩, 49) := ⟨⟨by decide +kernel, by decide +kernel⟩, List.mem_of_getElem? (i := 767) (by decide +kernel), List.mem_of_getElem? (i := 1062) (by decide +kernel), List.mem_of_getElem? (i := 1063) (by decide +kernel)⟩
theorem lw_p25 : lw_okq (⟨"BoundFramesModel", "doubles", "(I)V"⟩, 49) := ⟨⟨by decide +kernel, by decide +kernel⟩, List.mem_of_getElem? (i := 767) (by decide +kernel), List.mem_of_getElem? (i := 1066) (by decide +kernel), List.mem_of_getElem? (i := 1067) (by decide +kernel)⟩
theorem lw_p26 : lw_okq (⟨"BoundFramesModel", "movesTo", "(II)V"⟩, 49) := ⟨⟨by decide +kernel, by decide +kernel⟩, List.mem_of_getElem? (i := 767) (by decide +kernel), List.mem_of_getElem? (i := 1070) (by decide +kernel), List.mem_of_getElem? (i := 1071) (by decide +kernel)⟩
theorem lw_p27 : lw_okq (⟨"BoundFramesModel", "steps", "(I)V"⟩, 49) := ⟨⟨by decide +kernel, by decide +kernel⟩, List.mem_of_getElem? (i := 767) (by decide +kernel), List.mem_of_getElem? (i := 1074) (by decide +kernel), List.mem_of_getElem? (i := 1075) (by decide +kernel)⟩
theorem lw_p28 : lw_okq (⟨"BoundFramesModel", "releases", "(II)V"⟩, 49) := ⟨⟨by decide +kernel, by decide +kernel⟩, List.mem_of_getElem? (i := 767) (by decide +kernel), List.mem_of_getElem? (i := 1078) (by decide +kernel), List.mem_of_getElem? (i := 1079) (by decide +kernel)⟩
theorem lw_p29 : lw_okq (⟨"BoundFramesModel", "goesOn", "(I)V"⟩, 49) := ⟨⟨by decide +kernel, by decide +kernel⟩, List.mem_of_getElem? (i := 767) (by decide +kernel), List.mem_of_getElem? (i := 1082) (by decide +kernel), List.mem_of_getElem? (i := 1083) (by decide +kernel)⟩
theorem lw_p30 : lw_okq (⟨"BoundFramesModel", "comesOther", "(I)V"⟩, 49) := ⟨⟨by decide +kernel, by decide +kernel⟩, List.mem_of_getElem? (i := 767) (by decide +kernel), List.mem_of_getElem? (i := 1086) (by decide +kernel), List.mem_of_getElem? (i := 1087) (by decide +kernel)⟩
theorem lw_p31 : lw_okq (⟨"BoundFramesModel", "comesAsk", "(IIII)V"⟩, 49) := ⟨⟨by decide +kernel, by decide +kernel⟩, List.mem_of_getElem? (i := 767) (by decide +kernel), List.mem_of_getElem? (i := 1090) (by decide +kernel), List.mem_of_getElem? (i := 1091) (by decide +kernel)⟩
def lw_privs_2 : List (MethodName × Nat) := [(⟨"BoundFramesModel", "give", "(II)V"⟩, 49), (⟨"BoundFramesModel", "loseNow", "(I)I"⟩, 49), (⟨"BoundFramesModel", "drop", "(I)V"⟩, 49), (⟨"BoundFramesModel", "giveUp", "(I)V"⟩, 49), (⟨"BoundFramesModel", "isLetter", "(I)Z"⟩, 49), (⟨"BoundFramesModel", "comesBundle", "(II)I"⟩, 49), (⟨"BoundFramesModel", "comesNumber", "(III)V"⟩, 49), (⟨"BoundFramesModel", "marks", "(II)V"⟩, 49), (⟨"BoundFramesModel", "marksTo", "(II)V"⟩, 49), (⟨"BoundFramesModel", "doubles", "(I)V"⟩, 49), (⟨"BoundFramesModel", "movesTo", "(II)V"⟩, 49), (⟨"BoundFramesModel", "steps", "(I)V"⟩, 49), (⟨"BoundFramesModel", "releases", "(II)V"⟩, 49), (⟨"BoundFramesModel", "goesOn", "(I)V"⟩, 49), (⟨"BoundFramesModel", "comesOther", "(I)V"⟩, 49), (⟨"BoundFramesModel", "comesAsk", "(IIII)V"⟩, 49)]
theorem lw_r2 : ∀ q ∈ lw_privs_2, lw_okq q := List.forall_mem_cons.mpr ⟨lw_p16, List.forall_mem_cons.mpr ⟨lw_p17, List.forall_mem_cons.mpr ⟨lw_p18, List.forall_mem_cons.mpr ⟨lw_p19, List.forall_mem_cons.mpr ⟨lw_p20, List.forall_mem_cons.mpr ⟨lw_p21, List.forall_mem_cons.mpr ⟨lw_p22, List.forall_mem_cons.mpr ⟨lw_p23, List.forall_mem_cons.mpr ⟨lw_p24, List.forall_mem_cons.mpr ⟨lw_p25, List.forall_mem_cons.mpr ⟨lw_p26, List.forall_mem_cons.mpr ⟨lw_p27, List.forall_mem_cons.mpr ⟨lw_p28, List.forall_mem_cons.mpr ⟨lw_p29, List.forall_mem_cons.mpr ⟨lw_p30, List.forall_mem_cons.mpr ⟨lw_p31, fun _ h => absurd h List.not_mem_nil⟩⟩⟩⟩⟩⟩⟩⟩⟩⟩⟩⟩⟩⟩⟩⟩
theorem lw_p32 : lw_okq (⟨"BoundFramesModel", "ends", "(I)V"⟩, 49) := ⟨⟨by decide +kernel, by decide +kernel⟩, List.mem_of_getElem? (i := 767) (by decide +kernel), List.mem_of_getElem? (i := 1094) (by decide +kernel), List.mem_of_getElem? (i := 1095) (by decide +kernel)⟩
theorem lw_p33 : lw_okq (⟨"BoundFramesModel", "comesYes", "(II)V"⟩, 49) := ⟨⟨by decide +kernel, by decide +kernel⟩, List.mem_of_getElem? (i := 767) (by decide +kernel), List.mem_of_getElem? (i := 1098) (by decide +kernel), List.mem_of_getElem? (i := 1099) (by decide +kernel)⟩
theorem lw_p34 : lw_okq (⟨"BoundFramesModel", "comesBar", "(II)V"⟩, 49) := ⟨⟨by decide +kernel, by decide +kernel⟩, List.mem_of_getElem? (i := 767) (by decide +kernel), List.mem_of_getElem? (i := 1102) (by decide +kernel), List.mem_of_getElem? (i := 1103) (by decide +kernel)⟩
theorem lw_p35 : lw_okq (⟨"BoundFramesModel", "comesAnswer", "(III)V"⟩, 49) := ⟨⟨by decide +kernel, by decide +kernel⟩, List.mem_of_getElem? (i := 767) (by decide +kernel), List.mem_of_getElem? (i := 1106) (by decide +kernel), List.mem_of_getElem? (i := 1107) (by decide +kernel)⟩
theorem lw_p36 : lw_okq (⟨"BoundFramesModel", "tick", "(I)V"⟩, 49) := ⟨⟨by decide +kernel, by decide +kernel⟩, List.mem_of_getElem? (i := 767) (by decide +kernel), List.mem_of_getElem? (i := 1118) (by decide +kernel), List.mem_of_getElem? (i := 1119) (by decide +kernel)⟩
theorem lw_p37 : lw_okq (⟨"BoundFramesModel", "firstHeld", "(I)I"⟩, 49) := ⟨⟨by decide +kernel, by decide +kernel⟩, List.mem_of_getElem? (i := 767) (by decide +kernel), List.mem_of_getElem? (i := 1122) (by decide +kernel), List.mem_of_getElem? (i := 1123) (by decide +kernel)⟩
theorem lw_p38 : lw_okq (⟨"BoundFramesModel", "aboutNow", "(I)I"⟩, 49) := ⟨⟨by decide +kernel, by decide +kernel⟩, List.mem_of_getElem? (i := 767) (by decide +kernel), List.mem_of_getElem? (i := 1130) (by decide +kernel), List.mem_of_getElem? (i := 1131) (by decide +kernel)⟩
theorem lw_p39 : lw_okq (⟨"BoundFramesModel", "nearNow", "(II)I"⟩, 49) := ⟨⟨by decide +kernel, by decide +kernel⟩, List.mem_of_getElem? (i := 767) (by decide +kernel), List.mem_of_getElem? (i := 1138) (by decide +kernel), List.mem_of_getElem? (i := 1139) (by decide +kernel)⟩
theorem lw_p40 : lw_okq (⟨"BoundFramesModel", "givenNow", "(III)I"⟩, 49) := ⟨⟨by decide +kernel, by decide +kernel⟩, List.mem_of_getElem? (i := 767) (by decide +kernel), List.mem_of_getElem? (i := 1146) (by decide +kernel), List.mem_of_getElem? (i := 1147) (by decide +kernel)⟩
theorem lw_p41 : lw_okq (⟨"BoundFramesModel", "farNow", "(II)I"⟩, 49) := ⟨⟨by decide +kernel, by decide +kernel⟩, List.mem_of_getElem? (i := 767) (by decide +kernel), List.mem_of_getElem? (i := 1154) (by decide +kernel), List.mem_of_getElem? (i := 1155) (by decide +kernel)⟩
theorem lw_p42 : lw_okq (⟨"BoundFramesModel", "heldMany", "(I)I"⟩, 49) := ⟨⟨by decide +kernel, by decide +kernel⟩, List.mem_of_getElem? (i := 767) (by decide +kernel), List.mem_of_getElem? (i := 1158) (by decide +kernel), List.mem_of_getElem? (i := 1159) (by decide +kernel)⟩
theorem lw_p43 : lw_okq (⟨"BoundFramesModel", "underNow", "(II)I"⟩, 49) := ⟨⟨by decide +kernel, by decide +kernel⟩, List.mem_of_getElem? (i := 767) (by decide +kernel), List.mem_of_getElem? (i := 1178) (by decide +kernel), List.mem_of_getElem? (i := 1179) (by decide +kernel)⟩
theorem lw_p44 : lw_okq (⟨"BoundFramesModel", "howMany", "(I)I"⟩, 49) := ⟨⟨by decide +kernel, by decide +kernel⟩, List.mem_of_getElem? (i := 767) (by decide +kernel), List.mem_of_getElem? (i := 1190) (by decide +kernel), List.mem_of_getElem? (i := 1191) (by decide +kernel)⟩
theorem lw_p45 : lw_okq (⟨"BoundFramesModel", "mixAir", "()V"⟩, 49) := ⟨⟨by decide +kernel, by decide +kernel⟩, List.mem_of_getElem? (i := 767) (by decide +kernel), List.mem_of_getElem? (i := 1199) (by decide +kernel), List.mem_of_getElem? (i := 1200) (by decide +kernel)⟩
theorem lw_p46 : lw_okq (⟨"BoundFramesModel", "mix", "(J)V"⟩, 49) := ⟨⟨by decide +kernel, by decide +kernel⟩, List.mem_of_getElem? (i := 767) (by decide +kernel), List.mem_of_getElem? (i := 1203) (by decide +kernel), List.mem_of_getElem? (i := 1204) (by decide +kernel)⟩
theorem lw_p47 : lw_okq (⟨"BoundFramesModel", "mixNear", "(I)V"⟩, 49) := ⟨⟨by decide +kernel, by decide +kernel⟩, List.mem_of_getElem? (i := 767) (by decide +kernel), List.mem_of_getElem? (i := 1208) (by decide +kernel), List.mem_of_getElem? (i := 1209) (by decide +kernel)⟩
def lw_privs_3 : List (MethodName × Nat) := [(⟨"BoundFramesModel", "ends", "(I)V"⟩, 49), (⟨"BoundFramesModel", "comesYes", "(II)V"⟩, 49), (⟨"BoundFramesModel", "comesBar", "(II)V"⟩, 49), (⟨"BoundFramesModel", "comesAnswer", "(III)V"⟩, 49), (⟨"BoundFramesModel", "tick", "(I)V"⟩, 49), (⟨"BoundFramesModel", "firstHeld", "(I)I"⟩, 49), (⟨"BoundFramesModel", "aboutNow", "(I)I"⟩, 49), (⟨"BoundFramesModel", "nearNow", "(II)I"⟩, 49), (⟨"BoundFramesModel", "givenNow", "(III)I"⟩, 49), (⟨"BoundFramesModel", "farNow", "(II)I"⟩, 49), (⟨"BoundFramesModel", "heldMany", "(I)I"⟩, 49), (⟨"BoundFramesModel", "underNow", "(II)I"⟩, 49), (⟨"BoundFramesModel", "howMany", "(I)I"⟩, 49), (⟨"BoundFramesModel", "mixAir", "()V"⟩, 49), (⟨"BoundFramesModel", "mix", "(J)V"⟩, 49), (⟨"BoundFramesModel", "mixNear", "(I)V"⟩, 49)]
theorem lw_r3 : ∀ q ∈ lw_privs_3, lw_okq q := List.forall_mem_cons.mpr ⟨lw_p32, List.forall_mem_cons.mpr ⟨lw_p33, List.forall_mem_cons.mpr ⟨lw_p34, List.forall_mem_cons.mpr ⟨lw_p35, List.forall_mem_cons.mpr ⟨lw_p36, List.forall_mem_cons.mpr ⟨lw_p37, List.forall_mem_cons.mpr ⟨lw_p38, List.forall_mem_cons.mpr ⟨lw_p39, List.forall_mem_cons.mpr ⟨lw_p40, List.forall_mem_cons.mpr ⟨lw_p41, List.forall_mem_cons.mpr ⟨lw_p42, List.forall_mem_cons.mpr ⟨lw_p43, List.forall_mem_cons.mpr ⟨lw_p44, List.forall_mem_cons.mpr ⟨lw_p45, List.forall_mem_cons.mpr ⟨lw_p46, List.forall_mem_cons.mpr ⟨lw_p47, fun _ h => absurd h List.not_mem_nil⟩⟩⟩⟩⟩⟩⟩⟩⟩⟩⟩⟩⟩⟩⟩⟩
theorem lw_p48 : lw_okq (⟨"BoundFramesModel", "mixFar", "(I)V"⟩, 49) := ⟨⟨by decide +kernel, by decide +kernel⟩, List.mem_of_getElem? (i := 767) (by decide +kernel), List.mem_of_getElem? (i := 1212) (by decide +kernel), List.mem_of_getElem? (i := 1213) (by decide +kernel)⟩
def lw_privs_4 : List (MethodName × Nat) := [(⟨"BoundFramesModel", "mixFar", "(I)V"⟩, 49)]
theorem lw_r4 : ∀ q ∈ lw_privs_4, lw_okq q := List.forall_mem_cons.mpr ⟨lw_p48, fun _ h => absurd h List.not_mem_nil⟩
def lw_privs : List (MethodName × Nat) := lw_privs_1 ++ (lw_privs_2 ++ (lw_privs_3 ++ (lw_privs_4)))
def lw_tbl : List Cond := k2_sels lw_privs ++ tables_1
theorem lw_privs_ok : ∀ q ∈ lw_privs, lw_okq q := by
  show ∀ q ∈ lw_privs_1 ++ (lw_privs_2 ++ (lw_privs_3 ++ (lw_privs_4))), lw_okq q
  exact List.forall_mem_append.mpr ⟨lw_r1, List.forall_mem_append.mpr ⟨lw_r2, List.forall_mem_append.mpr ⟨lw_r3, lw_r4⟩⟩⟩
end
section
def RX0 : String := "BoundFrames$Air"
def TX0 : u_T := fun k => match k with
  | 0 => ("BoundFrames$Air", "isRead", "Z", false)
  | 1 => ("BoundFrames$Air", "on", "I", false)
  | 2 => ("BoundFrames$Air", "off", "I", false)
  | 3 => ("BoundFrames$Air", "rate", "I", false)
  | 4 => ("BoundFrames$Air", "bound", "I", false)
  | _ => ("BoundFrames$Air", "time", "I", false)
def tyX0 : Nat → FieldType := fun k => match k with
  | 0 => .boolean
  | 1 => .int
  | 2 => .int
  | 3 => .int
  | 4 => .int
  | _ => .int
abbrev wsX00 : List Cond := u_ws RX0 TX0 6
theorem nmX0 : ∀ a, a < 6 → ∀ b, b < 6 → a ≠ b → (TX0 a).2.1 ≠ (TX0 b).2.1 := by decide +kernel
theorem tyX0_ok : ∀ k, k < 6 → parseFieldDescriptor (TX0 k).2.2.1 = some (tyX0 k) := by decide +kernel
abbrev cX0_init : ByteArray := prog_2_method_1_code
def yX0_init : MethodName := ⟨RX0, "<init>", "()V"⟩
abbrev cX0_read : ByteArray := prog_2_method_2_code
def yX0_read : MethodName := ⟨RX0, "read", "(LBoundFrames$Page;)V"⟩
abbrev cX0_left : ByteArray := prog_2_method_3_code
def yX0_left : MethodName := ⟨RX0, "left", "()I"⟩
abbrev cX0_isAwake : ByteArray := prog_2_method_4_code
def yX0_isAwake : MethodName := ⟨RX0, "isAwake", "()Z"⟩
abbrev cX0_tell : ByteArray := prog_2_method_5_code
def yX0_tell : MethodName := ⟨RX0, "tell", "(I)I"⟩
def RX1 : String := "BoundFrames$FarEnd"
def TX1 : u_T := fun k => match k with
  | 0 => ("BoundFrames$FarEnd", "tally", "LBoundFrames$Tally;", true)
  | 1 => ("BoundFrames$FarEnd", "outs", "LBoundFrames$Outs;", true)
  | 2 => ("BoundFrames$FarEnd", "there", "Z", false)
  | 3 => ("BoundFrames$FarEnd", "kind", "I", false)
  | 4 => ("BoundFrames$FarEnd", "window", "I", false)
  | 5 => ("BoundFrames$FarEnd", "hold", "I", false)
  | 6 => ("BoundFrames$FarEnd", "from", "I", false)
  | 7 => ("BoundFrames$FarEnd", "mark", "I", false)
  | 8 => ("BoundFrames$FarEnd", "bits", "I", false)
  | 9 => ("BoundFrames$FarEnd", "waited", "I", false)
  | 10 => ("BoundFrames$FarEnd", "doubled", "I", false)
  | _ => ("BoundFrames$FarEnd", "kept", "[I", true)
def tyX1 : Nat → FieldType := fun k => match k with
  | 0 => .object "BoundFrames$Tally"
  | 1 => .object "BoundFrames$Outs"
  | 2 => .boolean
  | 3 => .int
  | 4 => .int
  | 5 => .int
  | 6 => .int
  | 7 => .int
  | 8 => .int
  | 9 => .int
  | 10 => .int
  | _ => .array .int
abbrev wsX10 : List Cond := u_ws RX1 TX1 12
theorem nmX1 : ∀ a, a < 12 → ∀ b, b < 12 → a ≠ b → (TX1 a).2.1 ≠ (TX1 b).2.1 := by decide +kernel
theorem tyX1_ok : ∀ k, k < 12 → parseFieldDescriptor (TX1 k).2.2.1 = some (tyX1 k) := by decide +kernel
abbrev cX1_init : ByteArray := prog_3_method_1_code
def yX1_init : MethodName := ⟨RX1, "<init>", "(LBoundFrames$Tally;)V"⟩
abbrev cX1_vanish : ByteArray := prog_3_method_2_code
def yX1_vanish : MethodName := ⟨RX1, "vanish", "()V"⟩
abbrev cX1_begin : ByteArray := prog_3_method_3_code
def yX1_begin : MethodName := ⟨RX1, "begin", "(III)V"⟩
abbrev cX1_end : ByteArray := prog_3_method_4_code
def yX1_end : MethodName := ⟨RX1, "end", "()V"⟩
abbrev cX1_is : ByteArray := prog_3_method_5_code
def yX1_is : MethodName := ⟨RX1, "is", "(I)Z"⟩
abbrev cX1_hasPlace : ByteArray := prog_3_method_6_code
def yX1_hasPlace : MethodName := ⟨RX1, "hasPlace", "(I)Z"⟩
abbrev cX1_keptAt : ByteArray := prog_3_method_7_code
def yX1_keptAt : MethodName := ⟨RX1, "keptAt", "(I)I"⟩
abbrev cX1_holdsAt : ByteArray := prog_3_method_8_code
def yX1_holdsAt : MethodName := ⟨RX1, "holdsAt", "(I)Z"⟩
abbrev cX1_heldCount : ByteArray := prog_3_method_9_code
def yX1_heldCount : MethodName := ⟨RX1, "heldCount", "()I"⟩
abbrev cX1_comes : ByteArray := prog_3_method_10_code
def yX1_comes : MethodName := ⟨RX1, "comes", "(II)V"⟩
abbrev cX1_bar : ByteArray := prog_3_method_11_code
def yX1_bar : MethodName := ⟨RX1, "bar", "(I)V"⟩
abbrev cX1_tick : ByteArray := prog_3_method_12_code
def yX1_tick : MethodName := ⟨RX1, "tick", "()V"⟩
abbrev cX1_firstHeld : ByteArray := prog_3_method_13_code
def yX1_firstHeld : MethodName := ⟨RX1, "firstHeld", "()I"⟩
abbrev cX1_moveMark : ByteArray := prog_3_method_14_code
def yX1_moveMark : MethodName := ⟨RX1, "moveMark", "(I)V"⟩
abbrev cX1_moveFrom : ByteArray := prog_3_method_15_code
def yX1_moveFrom : MethodName := ⟨RX1, "moveFrom", "(I)V"⟩
abbrev cX1_moveOn : ByteArray := prog_3_method_16_code
def yX1_moveOn : MethodName := ⟨RX1, "moveOn", "()V"⟩
abbrev cX1_release : ByteArray := prog_3_method_17_code
def yX1_release : MethodName := ⟨RX1, "release", "(I)V"⟩
abbrev cX1_isDoubled : ByteArray := prog_3_method_18_code
def yX1_isDoubled : MethodName := ⟨RX1, "isDoubled", "()V"⟩
abbrev cX1_tell : ByteArray := prog_3_method_19_code
def yX1_tell : MethodName := ⟨RX1, "tell", "(I)I"⟩
def RX2 : String := "BoundFrames$Letter"
def TX2 : u_T := fun k => match k with
  | 0 => ("BoundFrames$Letter", "of", "I", false)
  | 1 => ("BoundFrames$Letter", "sort", "I", false)
  | 2 => ("BoundFrames$Letter", "kind", "I", false)
  | 3 => ("BoundFrames$Letter", "window", "I", false)
  | 4 => ("BoundFrames$Letter", "hold", "I", false)
  | 5 => ("BoundFrames$Letter", "number", "I", false)
  | 6 => ("BoundFrames$Letter", "bits", "I", false)
  | 7 => ("BoundFrames$Letter", "size", "I", false)
  | 8 => ("BoundFrames$Letter", "numbers", "[I", true)
  | 9 => ("BoundFrames$Letter", "values", "[I", true)
  | 10 => ("BoundFrames$Letter", "lengths", "[I", true)
  | _ => ("BoundFrames$Letter", "checks", "[I", true)
def tyX2 : Nat → FieldType := fun k => match k with
  | 0 => .int
  | 1 => .int
  | 2 => .int
  | 3 => .int
  | 4 => .int
  | 5 => .int
  | 6 => .int
  | 7 => .int
  | 8 => .array .int
  | 9 => .array .int
  | 10 => .array .int
  | _ => .array .int
abbrev wsX20 : List Cond := u_ws RX2 TX2 12
theorem nmX2 : ∀ a, a < 12 → ∀ b, b < 12 → a ≠ b → (TX2 a).2.1 ≠ (TX2 b).2.1 := by decide +kernel
theorem tyX2_ok : ∀ k, k < 12 → parseFieldDescriptor (TX2 k).2.2.1 = some (tyX2 k) := by decide +kernel
abbrev cX2_init : ByteArray := prog_4_method_1_code
def yX2_init : MethodName := ⟨RX2, "<init>", "()V"⟩
abbrev cX2_begin : ByteArray := prog_4_method_2_code
def yX2_begin : MethodName := ⟨RX2, "begin", "(II)V"⟩
abbrev cX2_goesToFarEnd : ByteArray := prog_4_method_3_code
def yX2_goesToFarEnd : MethodName := ⟨RX2, "goesToFarEnd", "()Z"⟩
abbrev cX2_hasFrame : ByteArray := prog_4_method_4_code
def yX2_hasFrame : MethodName := ⟨RX2, "hasFrame", "(I)Z"⟩
abbrev cX2_bind : ByteArray := prog_4_method_5_code
def yX2_bind : MethodName := ⟨RX2, "bind", "(III)V"⟩
abbrev cX2_tell : ByteArray := prog_4_method_6_code
def yX2_tell : MethodName := ⟨RX2, "tell", "(I)I"⟩
abbrev cX2_tellFrame : ByteArray := prog_4_method_7_code
def yX2_tellFrame : MethodName := ⟨RX2, "tellFrame", "(II)I"⟩
def RX3 : String := "BoundFrames$NearEnd"
def TX3 : u_T := fun k => match k with
  | 0 => ("BoundFrames$NearEnd", "tally", "LBoundFrames$Tally;", true)
  | 1 => ("BoundFrames$NearEnd", "stage", "I", false)
  | 2 => ("BoundFrames$NearEnd", "window", "I", false)
  | 3 => ("BoundFrames$NearEnd", "tries", "I", false)
  | 4 => ("BoundFrames$NearEnd", "start", "I", false)
  | 5 => ("BoundFrames$NearEnd", "next", "I", false)
  | 6 => ("BoundFrames$NearEnd", "queued", "I", false)
  | 7 => ("BoundFrames$NearEnd", "lost", "I", false)
  | 8 => ("BoundFrames$NearEnd", "awaits", "Z", false)
  | 9 => ("BoundFrames$NearEnd", "barDue", "Z", false)
  | 10 => ("BoundFrames$NearEnd", "barGone", "Z", false)
  | 11 => ("BoundFrames$NearEnd", "queueValues", "[I", true)
  | 12 => ("BoundFrames$NearEnd", "queueLengths", "[I", true)
  | 13 => ("BoundFrames$NearEnd", "values", "[I", true)
  | 14 => ("BoundFrames$NearEnd", "lengths", "[I", true)
  | 15 => ("BoundFrames$NearEnd", "tried", "[I", true)
  | _ => ("BoundFrames$NearEnd", "done", "[Z", true)
def tyX3 : Nat → FieldType := fun k => match k with
  | 0 => .object "BoundFrames$Tally"
  | 1 => .int
  | 2 => .int
  | 3 => .int
  | 4 => .int
  | 5 => .int
  | 6 => .int
  | 7 => .int
  | 8 => .boolean
  | 9 => .boolean
  | 10 => .boolean
  | 11 => .array .int
  | 12 => .array .int
  | 13 => .array .int
  | 14 => .array .int
  | 15 => .array .int
  | _ => .array .boolean
abbrev wsX30 : List Cond := u_ws RX3 TX3 17
theorem nmX3 : ∀ a, a < 17 → ∀ b, b < 17 → a ≠ b → (TX3 a).2.1 ≠ (TX3 b).2.1 := by decide +kernel
theorem tyX3_ok : ∀ k, k < 17 → parseFieldDescriptor (TX3 k).2.2.1 = some (tyX3 k) := by decide +kernel
abbrev cX3_init : ByteArray := prog_5_method_1_code
def yX3_init : MethodName := ⟨RX3, "<init>", "(LBoundFrames$Tally;)V"⟩
abbrev cX3_vanish : ByteArray := prog_5_method_2_code
def yX3_vanish : MethodName := ⟨RX3, "vanish", "()V"⟩
abbrev cX3_ask : ByteArray := prog_5_method_3_code
def yX3_ask : MethodName := ⟨RX3, "ask", "(I)V"⟩
abbrev cX3_yes : ByteArray := prog_5_method_4_code
def yX3_yes : MethodName := ⟨RX3, "yes", "(I)V"⟩
abbrev cX3_enqueue : ByteArray := prog_5_method_5_code
def yX3_enqueue : MethodName := ⟨RX3, "enqueue", "(II)Z"⟩
abbrev cX3_spread : ByteArray := prog_5_method_6_code
def yX3_spread : MethodName := ⟨RX3, "spread", "()I"⟩
abbrev cX3_hasPlace : ByteArray := prog_5_method_7_code
def yX3_hasPlace : MethodName := ⟨RX3, "hasPlace", "(I)Z"⟩
abbrev cX3_undone : ByteArray := prog_5_method_8_code
def yX3_undone : MethodName := ⟨RX3, "undone", "()I"⟩
abbrev cX3_bundleSize : ByteArray := prog_5_method_9_code
def yX3_bundleSize : MethodName := ⟨RX3, "bundleSize", "(II)I"⟩
abbrev cX3_queuedLength : ByteArray := prog_5_method_10_code
def yX3_queuedLength : MethodName := ⟨RX3, "queuedLength", "(I)I"⟩
abbrev cX3_bundleGoes : ByteArray := prog_5_method_11_code
def yX3_bundleGoes : MethodName := ⟨RX3, "bundleGoes", "(LBoundFrames$Letter;I)V"⟩
abbrev cX3_giveNext : ByteArray := prog_5_method_12_code
def yX3_giveNext : MethodName := ⟨RX3, "giveNext", "()V"⟩
abbrev cX3_barGoes : ByteArray := prog_5_method_13_code
def yX3_barGoes : MethodName := ⟨RX3, "barGoes", "()V"⟩
abbrev cX3_answered : ByteArray := prog_5_method_14_code
def yX3_answered : MethodName := ⟨RX3, "answered", "(II)V"⟩
abbrev cX3_waitNoLonger : ByteArray := prog_5_method_15_code
def yX3_waitNoLonger : MethodName := ⟨RX3, "waitNoLonger", "()V"⟩
abbrev cX3_giveUp : ByteArray := prog_5_method_16_code
def yX3_giveUp : MethodName := ⟨RX3, "giveUp", "()V"⟩
abbrev cX3_tell : ByteArray := prog_5_method_17_code
def yX3_tell : MethodName := ⟨RX3, "tell", "(I)I"⟩
abbrev cX3_tellGiven : ByteArray := prog_5_method_18_code
def yX3_tellGiven : MethodName := ⟨RX3, "tellGiven", "(II)I"⟩
def RX4 : String := "BoundFrames$Outs"
def TX4 : u_T := fun k => match k with
  | 0 => ("BoundFrames$Outs", "values", "[I", true)
  | _ => ("BoundFrames$Outs", "size", "I", false)
def tyX4 : Nat → FieldType := fun k => match k with
  | 0 => .array .int
  | _ => .int
abbrev wsX40 : List Cond := u_ws RX4 TX4 2
theorem nmX4 : ∀ a, a < 2 → ∀ b, b < 2 → a ≠ b → (TX4 a).2.1 ≠ (TX4 b).2.1 := by decide +kernel
theorem tyX4_ok : ∀ k, k < 2 → parseFieldDescriptor (TX4 k).2.2.1 = some (tyX4 k) := by decide +kernel
abbrev cX4_init : ByteArray := prog_6_method_1_code
def yX4_init : MethodName := ⟨RX4, "<init>", "()V"⟩
abbrev cX4_clear : ByteArray := prog_6_method_2_code
def yX4_clear : MethodName := ⟨RX4, "clear", "()V"⟩
abbrev cX4_put : ByteArray := prog_6_method_3_code
def yX4_put : MethodName := ⟨RX4, "put", "(I)V"⟩
abbrev cX4_has : ByteArray := prog_6_method_4_code
def yX4_has : MethodName := ⟨RX4, "has", "(I)Z"⟩
abbrev cX4_at : ByteArray := prog_6_method_5_code
def yX4_at : MethodName := ⟨RX4, "at", "(I)I"⟩
def RX5 : String := "BoundFrames$Page"
def TX5 : u_T := fun k => match k with
  | 0 => ("BoundFrames$Page", "codes", "[I", true)
  | _ => ("BoundFrames$Page", "size", "I", false)
def tyX5 : Nat → FieldType := fun k => match k with
  | 0 => .array .int
  | _ => .int
abbrev wsX50 : List Cond := u_ws RX5 TX5 2
theorem nmX5 : ∀ a, a < 2 → ∀ b, b < 2 → a ≠ b → (TX5 a).2.1 ≠ (TX5 b).2.1 := by decide +kernel
theorem tyX5_ok : ∀ k, k < 2 → parseFieldDescriptor (TX5 k).2.2.1 = some (tyX5 k) := by decide +kernel
abbrev cX5_init : ByteArray := prog_7_method_1_code
def yX5_init : MethodName := ⟨RX5, "<init>", "()V"⟩
abbrev cX5_write : ByteArray := prog_7_method_2_code
def yX5_write : MethodName := ⟨RX5, "write", "(I)Z"⟩
abbrev cX5_wipe : ByteArray := prog_7_method_3_code
def yX5_wipe : MethodName := ⟨RX5, "wipe", "()I"⟩
abbrev cX5_firstFault : ByteArray := prog_7_method_4_code
def yX5_firstFault : MethodName := ⟨RX5, "firstFault", "()I"⟩
abbrev cX5_isAir : ByteArray := prog_7_method_5_code
def yX5_isAir : MethodName := ⟨RX5, "isAir", "()Z"⟩
abbrev cX5_at : ByteArray := prog_7_method_6_code
def yX5_at : MethodName := ⟨RX5, "at", "(I)I"⟩
abbrev cX5_digitAt : ByteArray := prog_7_method_7_code
def yX5_digitAt : MethodName := ⟨RX5, "digitAt", "(I)I"⟩
def RX6 : String := "BoundFrames$Post"
def TX6 : u_T := fun k => match k with
  | 0 => ("BoundFrames$Post", "tally", "LBoundFrames$Tally;", true)
  | 1 => ("BoundFrames$Post", "letters", "[LBoundFrames$Letter;", true)
  | _ => ("BoundFrames$Post", "size", "I", false)
def tyX6 : Nat → FieldType := fun k => match k with
  | 0 => .object "BoundFrames$Tally"
  | 1 => .array (.object "BoundFrames$Letter")
  | _ => .int
abbrev wsX60 : List Cond := u_ws RX6 TX6 3
theorem nmX6 : ∀ a, a < 3 → ∀ b, b < 3 → a ≠ b → (TX6 a).2.1 ≠ (TX6 b).2.1 := by decide +kernel
theorem tyX6_ok : ∀ k, k < 3 → parseFieldDescriptor (TX6 k).2.2.1 = some (tyX6 k) := by decide +kernel
abbrev cX6_init : ByteArray := prog_8_method_1_code
def yX6_init : MethodName := ⟨RX6, "<init>", "(LBoundFrames$Tally;)V"⟩
abbrev cX6_clear : ByteArray := prog_8_method_2_code
def yX6_clear : MethodName := ⟨RX6, "clear", "()V"⟩
abbrev cX6_has : ByteArray := prog_8_method_3_code
def yX6_has : MethodName := ⟨RX6, "has", "(I)Z"⟩
abbrev cX6_at : ByteArray := prog_8_method_4_code
def yX6_at : MethodName := ⟨RX6, "at", "(I)LBoundFrames$Letter;"⟩
abbrev cX6_send : ByteArray := prog_8_method_5_code
def yX6_send : MethodName := ⟨RX6, "send", "(II)LBoundFrames$Letter;"⟩
abbrev cX6_take : ByteArray := prog_8_method_6_code
def yX6_take : MethodName := ⟨RX6, "take", "(I)LBoundFrames$Letter;"⟩
abbrev cX6_countOf : ByteArray := prog_8_method_7_code
def yX6_countOf : MethodName := ⟨RX6, "countOf", "(I)I"⟩
abbrev cX6_loseAllOf : ByteArray := prog_8_method_8_code
def yX6_loseAllOf : MethodName := ⟨RX6, "loseAllOf", "(I)I"⟩
def RX7 : String := "BoundFrames$Tally"
def TX7 : u_T := fun k => match k with
  | 0 => ("BoundFrames$Tally", "lettersSent", "I", false)
  | 1 => ("BoundFrames$Tally", "lettersLost", "I", false)
  | 2 => ("BoundFrames$Tally", "framesSent", "I", false)
  | 3 => ("BoundFrames$Tally", "framesRight", "I", false)
  | 4 => ("BoundFrames$Tally", "valuesReleased", "I", false)
  | 5 => ("BoundFrames$Tally", "valuesDoubled", "I", false)
  | 6 => ("BoundFrames$Tally", "numbersLost", "I", false)
  | _ => ("BoundFrames$Tally", "airs", "I", false)
def tyX7 : Nat → FieldType := fun k => match k with
  | 0 => .int
  | 1 => .int
  | 2 => .int
  | 3 => .int
  | 4 => .int
  | 5 => .int
  | 6 => .int
  | _ => .int
abbrev wsX70 : List Cond := u_ws RX7 TX7 8
theorem nmX7 : ∀ a, a < 8 → ∀ b, b < 8 → a ≠ b → (TX7 a).2.1 ≠ (TX7 b).2.1 := by decide +kernel
theorem tyX7_ok : ∀ k, k < 8 → parseFieldDescriptor (TX7 k).2.2.1 = some (tyX7 k) := by decide +kernel
abbrev cX7_init : ByteArray := prog_9_method_1_code
def yX7_init : MethodName := ⟨RX7, "<init>", "()V"⟩
abbrev cX7_clear : ByteArray := prog_9_method_2_code
def yX7_clear : MethodName := ⟨RX7, "clear", "()V"⟩
def RX8 : String := "BoundFrames"
def TX8 : u_T := fun k => match k with
  | 0 => ("BoundFrames", "page", "LBoundFrames$Page;", true)
  | 1 => ("BoundFrames", "sky", "LBoundFrames$Air;", true)
  | 2 => ("BoundFrames", "tally", "LBoundFrames$Tally;", true)
  | 3 => ("BoundFrames", "post", "LBoundFrames$Post;", true)
  | 4 => ("BoundFrames", "nearEnds", "[LBoundFrames$NearEnd;", true)
  | _ => ("BoundFrames", "farEnds", "[LBoundFrames$FarEnd;", true)
def tyX8 : Nat → FieldType := fun k => match k with
  | 0 => .object "BoundFrames$Page"
  | 1 => .object "BoundFrames$Air"
  | 2 => .object "BoundFrames$Tally"
  | 3 => .object "BoundFrames$Post"
  | 4 => .array (.object "BoundFrames$NearEnd")
  | _ => .array (.object "BoundFrames$FarEnd")
abbrev wsX80 : List Cond := u_ws RX8 TX8 6
theorem nmX8 : ∀ a, a < 6 → ∀ b, b < 6 → a ≠ b → (TX8 a).2.1 ≠ (TX8 b).2.1 := by decide +kernel
theorem tyX8_ok : ∀ k, k < 6 → parseFieldDescriptor (TX8 k).2.2.1 = some (tyX8 k) := by decide +kernel
abbrev cX8_init : ByteArray := prog_1_method_1_code
def yX8_init : MethodName := ⟨RX8, "<init>", "()V"⟩
abbrev cX8_letter : ByteArray := prog_1_method_2_code
def yX8_letter : MethodName := ⟨RX8, "letter", "(I)I"⟩
abbrev cX8_blank : ByteArray := prog_1_method_3_code
def yX8_blank : MethodName := ⟨RX8, "blank", "()I"⟩
abbrev cX8_fault : ByteArray := prog_1_method_4_code
def yX8_fault : MethodName := ⟨RX8, "fault", "()I"⟩
abbrev cX8_air : ByteArray := prog_1_method_5_code
def yX8_air : MethodName := ⟨RX8, "air", "()I"⟩
abbrev cX8_open : ByteArray := prog_1_method_6_code
def yX8_open : MethodName := ⟨RX8, "open", "(IIIII)I"⟩
abbrev cX8_close : ByteArray := prog_1_method_7_code
def yX8_close : MethodName := ⟨RX8, "close", "(I)I"⟩
abbrev cX8_feed : ByteArray := prog_1_method_8_code
def yX8_feed : MethodName := ⟨RX8, "feed", "(III)I"⟩
abbrev cX8_bundle : ByteArray := prog_1_method_9_code
def yX8_bundle : MethodName := ⟨RX8, "bundle", "(I)I"⟩
abbrev cX8_expire : ByteArray := prog_1_method_10_code
def yX8_expire : MethodName := ⟨RX8, "expire", "(I)I"⟩
abbrev cX8_deliver : ByteArray := prog_1_method_11_code
def yX8_deliver : MethodName := ⟨RX8, "deliver", "(II)I"⟩
abbrev cX8_lose : ByteArray := prog_1_method_12_code
def yX8_lose : MethodName := ⟨RX8, "lose", "(I)I"⟩
abbrev cX8_pass : ByteArray := prog_1_method_13_code
def yX8_pass : MethodName := ⟨RX8, "pass", "(I)I"⟩
abbrev cX8_about : ByteArray := prog_1_method_14_code
def yX8_about : MethodName := ⟨RX8, "about", "(I)I"⟩
abbrev cX8_near : ByteArray := prog_1_method_15_code
def yX8_near : MethodName := ⟨RX8, "near", "(II)I"⟩
abbrev cX8_given : ByteArray := prog_1_method_16_code
def yX8_given : MethodName := ⟨RX8, "given", "(III)I"⟩
abbrev cX8_far : ByteArray := prog_1_method_17_code
def yX8_far : MethodName := ⟨RX8, "far", "(II)I"⟩
abbrev cX8_held : ByteArray := prog_1_method_18_code
def yX8_held : MethodName := ⟨RX8, "held", "(II)I"⟩
abbrev cX8_as : ByteArray := prog_1_method_19_code
def yX8_as : MethodName := ⟨RX8, "as", "(II)I"⟩
abbrev cX8_released : ByteArray := prog_1_method_20_code
def yX8_released : MethodName := ⟨RX8, "released", "(II)I"⟩
abbrev cX8_under : ByteArray := prog_1_method_21_code
def yX8_under : MethodName := ⟨RX8, "under", "(II)I"⟩
abbrev cX8_frame : ByteArray := prog_1_method_22_code
def yX8_frame : MethodName := ⟨RX8, "frame", "(III)I"⟩
abbrev cX8_count : ByteArray := prog_1_method_23_code
def yX8_count : MethodName := ⟨RX8, "count", "(I)I"⟩
abbrev cX8_digest : ByteArray := prog_1_method_24_code
def yX8_digest : MethodName := ⟨RX8, "digest", "()J"⟩
abbrev cX8_digestOfNearEnd : ByteArray := prog_1_method_25_code
def yX8_digestOfNearEnd : MethodName := ⟨RX8, "digestOfNearEnd", "(JLBoundFrames$NearEnd;)J"⟩
abbrev cX8_digestOfFarEnd : ByteArray := prog_1_method_26_code
def yX8_digestOfFarEnd : MethodName := ⟨RX8, "digestOfFarEnd", "(JLBoundFrames$FarEnd;)J"⟩
abbrev cX8_digestOfLetter : ByteArray := prog_1_method_27_code
def yX8_digestOfLetter : MethodName := ⟨RX8, "digestOfLetter", "(JLBoundFrames$Letter;)J"⟩
abbrev cX8_mix : ByteArray := prog_1_method_28_code
def yX8_mix : MethodName := ⟨RX8, "mix", "(JI)J"⟩
abbrev cX8_bundleArrives : ByteArray := prog_1_method_29_code
def yX8_bundleArrives : MethodName := ⟨RX8, "bundleArrives", "(LBoundFrames$Letter;I)I"⟩
abbrev cX8_arrives : ByteArray := prog_1_method_30_code
def yX8_arrives : MethodName := ⟨RX8, "arrives", "(LBoundFrames$Letter;)V"⟩
abbrev cX8_answer : ByteArray := prog_1_method_31_code
def yX8_answer : MethodName := ⟨RX8, "answer", "(I)V"⟩
abbrev cX8_isClassOfAir : ByteArray := prog_1_method_32_code
def yX8_isClassOfAir : MethodName := ⟨RX8, "isClassOfAir", "(I)Z"⟩
abbrev cX8_isClass : ByteArray := prog_1_method_33_code
def yX8_isClass : MethodName := ⟨RX8, "isClass", "(I)Z"⟩
abbrev cX8_within : ByteArray := prog_1_method_34_code
def yX8_within : MethodName := ⟨RX8, "within", "(III)Z"⟩
abbrev cX8_flag : ByteArray := prog_1_method_35_code
def yX8_flag : MethodName := ⟨RX8, "flag", "(Z)I"⟩
abbrev cX8_round : ByteArray := prog_1_method_36_code
def yX8_round : MethodName := ⟨RX8, "round", "(I)I"⟩
abbrev cX8_slot : ByteArray := prog_1_method_37_code
def yX8_slot : MethodName := ⟨RX8, "slot", "(I)I"⟩
abbrev cX8_ahead : ByteArray := prog_1_method_38_code
def yX8_ahead : MethodName := ⟨RX8, "ahead", "(II)I"⟩
abbrev cX8_isBehind : ByteArray := prog_1_method_39_code
def yX8_isBehind : MethodName := ⟨RX8, "isBehind", "(II)Z"⟩
abbrev cX8_checkOf : ByteArray := prog_1_method_40_code
def yX8_checkOf : MethodName := ⟨RX8, "checkOf", "(IIII)I"⟩
abbrev cX8_turn : ByteArray := prog_1_method_41_code
def yX8_turn : MethodName := ⟨RX8, "turn", "(II)I"⟩
def RX9 : String := "BoundFramesModel"
def TX9 : u_T := fun k => match k with
  | 0 => ("BoundFramesModel", "on", "I", false)
  | 1 => ("BoundFramesModel", "off", "I", false)
  | 2 => ("BoundFramesModel", "rate", "I", false)
  | 3 => ("BoundFramesModel", "bound", "I", false)
  | 4 => ("BoundFramesModel", "time", "I", false)
  | 5 => ("BoundFramesModel", "airs", "I", false)
  | 6 => ("BoundFramesModel", "pageLength", "I", false)
  | 7 => ("BoundFramesModel", "page", "[I", true)
  | 8 => ("BoundFramesModel", "counts", "[I", true)
  | 9 => ("BoundFramesModel", "nearIs", "[I", true)
  | 10 => ("BoundFramesModel", "kind", "[I", true)
  | 11 => ("BoundFramesModel", "window", "[I", true)
  | 12 => ("BoundFramesModel", "tries", "[I", true)
  | 13 => ("BoundFramesModel", "hold", "[I", true)
  | 14 => ("BoundFramesModel", "start", "[I", true)
  | 15 => ("BoundFramesModel", "next", "[I", true)
  | 16 => ("BoundFramesModel", "awaits", "[Z", true)
  | 17 => ("BoundFramesModel", "barDue", "[Z", true)
  | 18 => ("BoundFramesModel", "barGone", "[Z", true)
  | 19 => ("BoundFramesModel", "lost", "[I", true)
  | 20 => ("BoundFramesModel", "queued", "[I", true)
  | 21 => ("BoundFramesModel", "queueValue", "[I", true)
  | 22 => ("BoundFramesModel", "queueLength", "[I", true)
  | 23 => ("BoundFramesModel", "value", "[I", true)
  | 24 => ("BoundFramesModel", "length", "[I", true)
  | 25 => ("BoundFramesModel", "tried", "[I", true)
  | 26 => ("BoundFramesModel", "isDone", "[Z", true)
  | 27 => ("BoundFramesModel", "isThere", "[Z", true)
  | 28 => ("BoundFramesModel", "farKind", "[I", true)
  | 29 => ("BoundFramesModel", "farWindow", "[I", true)
  | 30 => ("BoundFramesModel", "farHold", "[I", true)
  | 31 => ("BoundFramesModel", "from", "[I", true)
  | 32 => ("BoundFramesModel", "mark", "[I", true)
  | 33 => ("BoundFramesModel", "bits", "[I", true)
  | 34 => ("BoundFramesModel", "waited", "[I", true)
  | 35 => ("BoundFramesModel", "doubled", "[I", true)
  | 36 => ("BoundFramesModel", "heldAt", "[I", true)
  | 37 => ("BoundFramesModel", "outMany", "[I", true)
  | 38 => ("BoundFramesModel", "outAt", "[I", true)
  | 39 => ("BoundFramesModel", "letters", "I", false)
  | 40 => ("BoundFramesModel", "mail", "[I", true)
  | 41 => ("BoundFramesModel", "frames", "[I", true)
  | 42 => ("BoundFramesModel", "goes", "I", false)
  | 43 => ("BoundFramesModel", "goesLength", "I", false)
  | 44 => ("BoundFramesModel", "goesNew", "I", false)
  | 45 => ("BoundFramesModel", "isEnded", "Z", false)
  | 46 => ("BoundFramesModel", "cameNumber", "[I", true)
  | 47 => ("BoundFramesModel", "cameValue", "[I", true)
  | _ => ("BoundFramesModel", "h", "J", false)
def tyX9 : Nat → FieldType := fun k => match k with
  | 0 => .int
  | 1 => .int
  | 2 => .int
  | 3 => .int
  | 4 => .int
  | 5 => .int
  | 6 => .int
  | 7 => .array .int
  | 8 => .array .int
  | 9 => .array .int
  | 10 => .array .int
  | 11 => .array .int
  | 12 => .array .int
  | 13 => .array .int
  | 14 => .array .int
  | 15 => .array .int
  | 16 => .array .boolean
  | 17 => .array .boolean
  | 18 => .array .boolean
  | 19 => .array .int
  | 20 => .array .int
  | 21 => .array .int
  | 22 => .array .int
  | 23 => .array .int
  | 24 => .array .int
  | 25 => .array .int
  | 26 => .array .boolean
  | 27 => .array .boolean
  | 28 => .array .int
  | 29 => .array .int
  | 30 => .array .int
  | 31 => .array .int
  | 32 => .array .int
  | 33 => .array .int
  | 34 => .array .int
  | 35 => .array .int
  | 36 => .array .int
  | 37 => .array .int
  | 38 => .array .int
  | 39 => .int
  | 40 => .array .int
  | 41 => .array .int
  | 42 => .int
  | 43 => .int
  | 44 => .int
  | 45 => .boolean
  | 46 => .array .int
  | 47 => .array .int
  | _ => .long
abbrev wsX90 : List Cond := u_ws RX9 TX9 49
theorem nmX9 : ∀ a, a < 49 → ∀ b, b < 49 → a ≠ b → (TX9 a).2.1 ≠ (TX9 b).2.1 := by decide +kernel
theorem tyX9_ok : ∀ k, k < 49 → parseFieldDescriptor (TX9 k).2.2.1 = some (tyX9 k) := by decide +kernel
abbrev cX9_init : ByteArray := prog_11_method_1_code
def yX9_init : MethodName := ⟨RX9, "<init>", "()V"⟩
abbrev cX9_within : ByteArray := prog_11_method_3_code
def yX9_within : MethodName := ⟨RX9, "within", "(III)Z"⟩
abbrev cX9_ahead : ByteArray := prog_11_method_4_code
def yX9_ahead : MethodName := ⟨RX9, "ahead", "(II)I"⟩
abbrev cX9_isBehind : ByteArray := prog_11_method_5_code
def yX9_isBehind : MethodName := ⟨RX9, "isBehind", "(II)Z"⟩
abbrev cX9_letter : ByteArray := prog_11_method_6_code
def yX9_letter : MethodName := ⟨RX9, "letter", "(I)I"⟩
abbrev cX9_blank : ByteArray := prog_11_method_7_code
def yX9_blank : MethodName := ⟨RX9, "blank", "()I"⟩
abbrev cX9_fitsAt : ByteArray := prog_11_method_8_code
def yX9_fitsAt : MethodName := ⟨RX9, "fitsAt", "(II)Z"⟩
abbrev cX9_faultNow : ByteArray := prog_11_method_9_code
def yX9_faultNow : MethodName := ⟨RX9, "faultNow", "()I"⟩
abbrev cX9_fault : ByteArray := prog_11_method_10_code
def yX9_fault : MethodName := ⟨RX9, "fault", "()I"⟩
abbrev cX9_air : ByteArray := prog_11_method_11_code
def yX9_air : MethodName := ⟨RX9, "air", "()I"⟩
abbrev cX9_isAir : ByteArray := prog_11_method_12_code
def yX9_isAir : MethodName := ⟨RX9, "isAir", "()Z"⟩
abbrev cX9_isClass : ByteArray := prog_11_method_13_code
def yX9_isClass : MethodName := ⟨RX9, "isClass", "(I)Z"⟩
abbrev cX9_left : ByteArray := prog_11_method_14_code
def yX9_left : MethodName := ⟨RX9, "left", "()I"⟩
abbrev cX9_send : ByteArray := prog_11_method_15_code
def yX9_send : MethodName := ⟨RX9, "send", "(IIIII)I"⟩
abbrev cX9_drop : ByteArray := prog_11_method_16_code
def yX9_drop : MethodName := ⟨RX9, "drop", "(I)V"⟩
abbrev cX9_loseNow : ByteArray := prog_11_method_17_code
def yX9_loseNow : MethodName := ⟨RX9, "loseNow", "(I)I"⟩
abbrev cX9_isUnderWay : ByteArray := prog_11_method_18_code
def yX9_isUnderWay : MethodName := ⟨RX9, "isUnderWay", "(I)Z"⟩
abbrev cX9_turned : ByteArray := prog_11_method_19_code
def yX9_turned : MethodName := ⟨RX9, "turned", "(II)I"⟩
abbrev cX9_checkOf : ByteArray := prog_11_method_20_code
def yX9_checkOf : MethodName := ⟨RX9, "checkOf", "(IIII)I"⟩
abbrev cX9_open : ByteArray := prog_11_method_21_code
def yX9_open : MethodName := ⟨RX9, "open", "(IIIII)I"⟩
abbrev cX9_isOpen : ByteArray := prog_11_method_22_code
def yX9_isOpen : MethodName := ⟨RX9, "isOpen", "(I)Z"⟩
abbrev cX9_notDone : ByteArray := prog_11_method_23_code
def yX9_notDone : MethodName := ⟨RX9, "notDone", "(I)I"⟩
abbrev cX9_close : ByteArray := prog_11_method_24_code
def yX9_close : MethodName := ⟨RX9, "close", "(I)I"⟩
abbrev cX9_feed : ByteArray := prog_11_method_25_code
def yX9_feed : MethodName := ⟨RX9, "feed", "(III)I"⟩
abbrev cX9_tryOne : ByteArray := prog_11_method_26_code
def yX9_tryOne : MethodName := ⟨RX9, "tryOne", "(III)V"⟩
abbrev cX9_plan : ByteArray := prog_11_method_27_code
def yX9_plan : MethodName := ⟨RX9, "plan", "(I)V"⟩
abbrev cX9_give : ByteArray := prog_11_method_28_code
def yX9_give : MethodName := ⟨RX9, "give", "(II)V"⟩
abbrev cX9_sendBundle : ByteArray := prog_11_method_29_code
def yX9_sendBundle : MethodName := ⟨RX9, "sendBundle", "(I)I"⟩
abbrev cX9_sendBar : ByteArray := prog_11_method_30_code
def yX9_sendBar : MethodName := ⟨RX9, "sendBar", "(I)I"⟩
abbrev cX9_bundle : ByteArray := prog_11_method_31_code
def yX9_bundle : MethodName := ⟨RX9, "bundle", "(I)I"⟩
abbrev cX9_giveUp : ByteArray := prog_11_method_32_code
def yX9_giveUp : MethodName := ⟨RX9, "giveUp", "(I)V"⟩
abbrev cX9_expire : ByteArray := prog_11_method_33_code
def yX9_expire : MethodName := ⟨RX9, "expire", "(I)I"⟩
abbrev cX9_comesYes : ByteArray := prog_11_method_34_code
def yX9_comesYes : MethodName := ⟨RX9, "comesYes", "(II)V"⟩
abbrev cX9_comesAnswer : ByteArray := prog_11_method_35_code
def yX9_comesAnswer : MethodName := ⟨RX9, "comesAnswer", "(III)V"⟩
abbrev cX9_releases : ByteArray := prog_11_method_36_code
def yX9_releases : MethodName := ⟨RX9, "releases", "(II)V"⟩
abbrev cX9_steps : ByteArray := prog_11_method_37_code
def yX9_steps : MethodName := ⟨RX9, "steps", "(I)V"⟩
abbrev cX9_movesTo : ByteArray := prog_11_method_38_code
def yX9_movesTo : MethodName := ⟨RX9, "movesTo", "(II)V"⟩
abbrev cX9_goesOn : ByteArray := prog_11_method_39_code
def yX9_goesOn : MethodName := ⟨RX9, "goesOn", "(I)V"⟩
abbrev cX9_marksTo : ByteArray := prog_11_method_40_code
def yX9_marksTo : MethodName := ⟨RX9, "marksTo", "(II)V"⟩
abbrev cX9_lastOf : ByteArray := prog_11_method_41_code
def yX9_lastOf : MethodName := ⟨RX9, "lastOf", "(II)I"⟩
abbrev cX9_marks : ByteArray := prog_11_method_42_code
def yX9_marks : MethodName := ⟨RX9, "marks", "(II)V"⟩
abbrev cX9_doubles : ByteArray := prog_11_method_43_code
def yX9_doubles : MethodName := ⟨RX9, "doubles", "(I)V"⟩
abbrev cX9_comesNumber : ByteArray := prog_11_method_44_code
def yX9_comesNumber : MethodName := ⟨RX9, "comesNumber", "(III)V"⟩
abbrev cX9_ends : ByteArray := prog_11_method_45_code
def yX9_ends : MethodName := ⟨RX9, "ends", "(I)V"⟩
abbrev cX9_comesAsk : ByteArray := prog_11_method_46_code
def yX9_comesAsk : MethodName := ⟨RX9, "comesAsk", "(IIII)V"⟩
abbrev cX9_comesBar : ByteArray := prog_11_method_47_code
def yX9_comesBar : MethodName := ⟨RX9, "comesBar", "(II)V"⟩
abbrev cX9_comesBundle : ByteArray := prog_11_method_48_code
def yX9_comesBundle : MethodName := ⟨RX9, "comesBundle", "(II)I"⟩
abbrev cX9_comesOther : ByteArray := prog_11_method_49_code
def yX9_comesOther : MethodName := ⟨RX9, "comesOther", "(I)V"⟩
abbrev cX9_isLetter : ByteArray := prog_11_method_50_code
def yX9_isLetter : MethodName := ⟨RX9, "isLetter", "(I)Z"⟩
abbrev cX9_deliver : ByteArray := prog_11_method_51_code
def yX9_deliver : MethodName := ⟨RX9, "deliver", "(II)I"⟩
abbrev cX9_lose : ByteArray := prog_11_method_52_code
def yX9_lose : MethodName := ⟨RX9, "lose", "(I)I"⟩
abbrev cX9_firstHeld : ByteArray := prog_11_method_53_code
def yX9_firstHeld : MethodName := ⟨RX9, "firstHeld", "(I)I"⟩
abbrev cX9_tick : ByteArray := prog_11_method_54_code
def yX9_tick : MethodName := ⟨RX9, "tick", "(I)V"⟩
abbrev cX9_pass : ByteArray := prog_11_method_55_code
def yX9_pass : MethodName := ⟨RX9, "pass", "(I)I"⟩
abbrev cX9_aboutNow : ByteArray := prog_11_method_56_code
def yX9_aboutNow : MethodName := ⟨RX9, "aboutNow", "(I)I"⟩
abbrev cX9_about : ByteArray := prog_11_method_57_code
def yX9_about : MethodName := ⟨RX9, "about", "(I)I"⟩
abbrev cX9_nearNow : ByteArray := prog_11_method_58_code
def yX9_nearNow : MethodName := ⟨RX9, "nearNow", "(II)I"⟩
abbrev cX9_near : ByteArray := prog_11_method_59_code
def yX9_near : MethodName := ⟨RX9, "near", "(II)I"⟩
abbrev cX9_givenNow : ByteArray := prog_11_method_60_code
def yX9_givenNow : MethodName := ⟨RX9, "givenNow", "(III)I"⟩
abbrev cX9_given : ByteArray := prog_11_method_61_code
def yX9_given : MethodName := ⟨RX9, "given", "(III)I"⟩
abbrev cX9_heldMany : ByteArray := prog_11_method_62_code
def yX9_heldMany : MethodName := ⟨RX9, "heldMany", "(I)I"⟩
abbrev cX9_farNow : ByteArray := prog_11_method_63_code
def yX9_farNow : MethodName := ⟨RX9, "farNow", "(II)I"⟩
abbrev cX9_far : ByteArray := prog_11_method_64_code
def yX9_far : MethodName := ⟨RX9, "far", "(II)I"⟩
abbrev cX9_held : ByteArray := prog_11_method_65_code
def yX9_held : MethodName := ⟨RX9, "held", "(II)I"⟩
abbrev cX9_as : ByteArray := prog_11_method_66_code
def yX9_as : MethodName := ⟨RX9, "as", "(II)I"⟩
abbrev cX9_released : ByteArray := prog_11_method_67_code
def yX9_released : MethodName := ⟨RX9, "released", "(II)I"⟩
abbrev cX9_underNow : ByteArray := prog_11_method_68_code
def yX9_underNow : MethodName := ⟨RX9, "underNow", "(II)I"⟩
abbrev cX9_under : ByteArray := prog_11_method_69_code
def yX9_under : MethodName := ⟨RX9, "under", "(II)I"⟩
abbrev cX9_frame : ByteArray := prog_11_method_70_code
def yX9_frame : MethodName := ⟨RX9, "frame", "(III)I"⟩
abbrev cX9_howMany : ByteArray := prog_11_method_71_code
def yX9_howMany : MethodName := ⟨RX9, "howMany", "(I)I"⟩
abbrev cX9_count : ByteArray := prog_11_method_72_code
def yX9_count : MethodName := ⟨RX9, "count", "(I)I"⟩
abbrev cX9_mix : ByteArray := prog_11_method_73_code
def yX9_mix : MethodName := ⟨RX9, "mix", "(J)V"⟩
abbrev cX9_mixNear : ByteArray := prog_11_method_74_code
def yX9_mixNear : MethodName := ⟨RX9, "mixNear", "(I)V"⟩
abbrev cX9_mixFar : ByteArray := prog_11_method_75_code
def yX9_mixFar : MethodName := ⟨RX9, "mixFar", "(I)V"⟩
abbrev cX9_mixAir : ByteArray := prog_11_method_76_code
def yX9_mixAir : MethodName := ⟨RX9, "mixAir", "()V"⟩
abbrev cX9_digest : ByteArray := prog_11_method_77_code
def yX9_digest : MethodName := ⟨RX9, "digest", "()J"⟩
def RJ9 : String := "java/lang/Math"
def TJ9 : u_T := fun k => match k with
  | _ => ("", "", "", false)
def tyJ9 : Nat → FieldType := fun k => match k with
  | _ => .int
abbrev wsJ90 : List Cond := u_ws RJ9 TJ9 0
theorem nmJ9 : ∀ a, a < 0 → ∀ b, b < 0 → a ≠ b → (TJ9 a).2.1 ≠ (TJ9 b).2.1 := by decide +kernel
theorem tyJ9_ok : ∀ k, k < 0 → parseFieldDescriptor (TJ9 k).2.2.1 = some (tyJ9 k) := by decide +kernel
abbrev cJ9_min_7cf53 : ByteArray := prog_12_method_69_code
def yJ9_min_7cf53 : MethodName := ⟨RJ9, "min", "(II)I"⟩
def RL : String := "BoundFramesLaw"
abbrev cL_law : ByteArray := code
def yL_law : MethodName := ⟨RL, "law", "([I)Z"⟩
end
section
/-! the claim's classes by their numbers -/
def RRf : Nat → String := fun ci => match ci with
  | 0 => RX0
  | 1 => RX1
  | 2 => RX2
  | 3 => RX3
  | 4 => RX4
  | 5 => RX5
  | 6 => RX6
  | 7 => RX7
  | 8 => RX8
  | _ => RX9
def TTf : Nat → u_T := fun ci => match ci with
  | 0 => TX0
  | 1 => TX1
  | 2 => TX2
  | 3 => TX3
  | 4 => TX4
  | 5 => TX5
  | 6 => TX6
  | 7 => TX7
  | 8 => TX8
  | _ => TX9
def TYf : Nat → Nat → FieldType := fun ci => match ci with
  | 0 => tyX0
  | 1 => tyX1
  | 2 => tyX2
  | 3 => tyX3
  | 4 => tyX4
  | 5 => tyX5
  | 6 => tyX6
  | 7 => tyX7
  | 8 => tyX8
  | _ => tyX9
def FTL : List (List Nat) := [[3, 0, 0, 0, 0, 0], [1, 1, 3, 0, 0, 0, 0, 0, 0, 0, 0, 1], [0, 0, 0, 0, 0, 0, 0, 0, 1, 1, 1, 1], [1, 0, 0, 0, 0, 0, 0, 0, 3, 3, 3, 1, 1, 1, 1, 1, 1], [1, 0], [1, 0], [1, 1, 0], [0, 0, 0, 0, 0, 0, 0, 0], [1, 1, 1, 1, 1, 1], [0, 0, 0, 0, 0, 0, 0, 1, 1, 1, 1, 1, 1, 1, 1, 1, 1, 1, 1, 1, 1, 1, 1, 1, 1, 1, 1, 1, 1, 1, 1, 1, 1, 1, 1, 1, 1, 1, 1, 0, 1, 1, 0, 0, 0, 3, 1, 1, 2]]
def NF (ci : Nat) : Nat := (FTL.getD ci []).length
def FT (ci j : Nat) : Nat := (FTL.getD ci []).getD j 0
def CL : List vw_C := [(RX0, TX0, 6), (RX1, TX1, 12), (RX2, TX2, 12), (RX3, TX3, 17), (RX4, TX4, 2), (RX5, TX5, 2), (RX6, TX6, 3), (RX7, TX7, 8), (RX8, TX8, 6), (RX9, TX9, 49)]
def BIG : List Cond := lw_tbl.filter goodWord
def isNest : Cond → Bool := fun w => match w with
  | .methodLinkNest _ _ _ _ => true
  | _ => false
theorem big_of {w : Cond} (i : Nat) (h : lw_tbl[i]? = some w) (g : goodWord w = true) : w ∈ BIG := List.mem_filter.mpr ⟨List.mem_of_getElem? h, g⟩
theorem nest_of {w : Cond} (i : Nat) (h : lw_tbl[i]? = some w) (g : isNest w = true) : w ∈ lw_tbl.filter isNest := List.mem_filter.mpr ⟨List.mem_of_getElem? h, g⟩
theorem big_t0 {w : Cond} (i : Nat) (h : (k2_sels lw_privs)[i]? = some w) (g : goodWord w = true) : w ∈ BIG := List.mem_filter.mpr ⟨List.mem_append_left _ (List.mem_of_getElem? h), g⟩
theorem big_t1 {w : Cond} (i : Nat) (h : tables_1_1[i]? = some w) (g : goodWord w = true) : w ∈ BIG := List.mem_filter.mpr ⟨List.mem_append_right _ (show w ∈ tables_1 from List.mem_append_left _ (List.mem_of_getElem? h)), g⟩
theorem nst_t1 {w : Cond} (i : Nat) (h : tables_1_1[i]? = some w) (g : isNest w = true) : w ∈ lw_tbl.filter isNest := List.mem_filter.mpr ⟨List.mem_append_right _ (show w ∈ tables_1 from List.mem_append_left _ (List.mem_of_getElem? h)), g⟩
theorem big_t2 {w : Cond} (i : Nat) (h : tables_1_2[i]? = some w) (g : goodWord w = true) : w ∈ BIG := List.mem_filter.mpr ⟨List.mem_append_right _ (show w ∈ tables_1 from List.mem_append_right _ (List.mem_append_left _ (List.mem_of_getElem? h))), g⟩
theorem nst_t2 {w : Cond} (i : Nat) (h : tables_1_2[i]? = some w) (g : isNest w = true) : w ∈ lw_tbl.filter isNest := List.mem_filter.mpr ⟨List.mem_append_right _ (show w ∈ tables_1 from List.mem_append_right _ (List.mem_append_left _ (List.mem_of_getElem? h))), g⟩
theorem big_t3 {w : Cond} (i : Nat) (h : tables_1_3[i]? = some w) (g : goodWord w = true) : w ∈ BIG := List.mem_filter.mpr ⟨List.mem_append_right _ (show w ∈ tables_1 from List.mem_append_right _ (List.mem_append_right _ (List.mem_append_left _ (List.mem_of_getElem? h)))), g⟩
theorem nst_t3 {w : Cond} (i : Nat) (h : tables_1_3[i]? = some w) (g : isNest w = true) : w ∈ lw_tbl.filter isNest := List.mem_filter.mpr ⟨List.mem_append_right _ (show w ∈ tables_1 from List.mem_append_right _ (List.mem_append_right _ (List.mem_append_left _ (List.mem_of_getElem? h)))), g⟩
theorem big_t4 {w : Cond} (i : Nat) (h : tables_1_4[i]? = some w) (g : goodWord w = true) : w ∈ BIG := List.mem_filter.mpr ⟨List.mem_append_right _ (show w ∈ tables_1 from List.mem_append_right _ (List.mem_append_right _ (List.mem_append_right _ (List.mem_append_left _ (List.mem_of_getElem? h))))), g⟩
theorem nst_t4 {w : Cond} (i : Nat) (h : tables_1_4[i]? = some w) (g : isNest w = true) : w ∈ lw_tbl.filter isNest := List.mem_filter.mpr ⟨List.mem_append_right _ (show w ∈ tables_1 from List.mem_append_right _ (List.mem_append_right _ (List.mem_append_right _ (List.mem_append_left _ (List.mem_of_getElem? h))))), g⟩
theorem big_t5 {w : Cond} (i : Nat) (h : tables_1_5[i]? = some w) (g : goodWord w = true) : w ∈ BIG := List.mem_filter.mpr ⟨List.mem_append_right _ (show w ∈ tables_1 from List.mem_append_right _ (List.mem_append_right _ (List.mem_append_right _ (List.mem_append_right _ (List.mem_append_left _ (List.mem_of_getElem? h)))))), g⟩
theorem nst_t5 {w : Cond} (i : Nat) (h : tables_1_5[i]? = some w) (g : isNest w = true) : w ∈ lw_tbl.filter isNest := List.mem_filter.mpr ⟨List.mem_append_right _ (show w ∈ tables_1 from List.mem_append_right _ (List.mem_append_right _ (List.mem_append_right _ (List.mem_append_right _ (List.mem_append_left _ (List.mem_of_getElem? h)))))), g⟩
theorem big_t6 {w : Cond} (i : Nat) (h : tables_1_6[i]? = some w) (g : goodWord w = true) : w ∈ BIG := List.mem_filter.mpr ⟨List.mem_append_right _ (show w ∈ tables_1 from List.mem_append_right _ (List.mem_append_right _ (List.mem_append_right _ (List.mem_append_right _ (List.mem_append_right _ (List.mem_of_getElem? h)))))), g⟩
theorem nst_t6 {w : Cond} (i : Nat) (h : tables_1_6[i]? = some w) (g : isNest w = true) : w ∈ lw_tbl.filter isNest := List.mem_filter.mpr ⟨List.mem_append_right _ (show w ∈ tables_1 from List.mem_append_right _ (List.mem_append_right _ (List.mem_append_right _ (List.mem_append_right _ (List.mem_append_right _ (List.mem_of_getElem? h)))))), g⟩
theorem lay_tbl : ∀ ci, ci < 10 → ∀ w ∈ u_ws (RRf ci) (TTf ci) (NF ci), w ∈ lw_tbl ∧ goodWord w = true := by decide +kernel
theorem cl_w {ci : Nat} (h : ci < 10) : ∀ w ∈ u_ws (RRf ci) (TTf ci) (NF ci), w ∈ BIG := fun w hw => List.mem_filter.mpr (lay_tbl ci h w hw)
theorem cl_at {ci : Nat} (h : ci < 10) : CL[ci]? = some (RRf ci, TTf ci, NF ci) := by
  rcases (show ci = 0 ∨ ci = 1 ∨ ci = 2 ∨ ci = 3 ∨ ci = 4 ∨ ci = 5 ∨ ci = 6 ∨ ci = 7 ∨ ci = 8 ∨ ci = 9 by omega) with rfl | rfl | rfl | rfl | rfl | rfl | rfl | rfl | rfl | rfl <;> rfl
theorem cl_ty : ∀ ci, ci < 10 → ∀ k, k < NF ci → parseFieldDescriptor (TTf ci k).2.2.1 = some (TYf ci k) := by decide +kernel
theorem cl_nm : ∀ ci, ci < 10 → ∀ a, a < NF ci → ∀ b, b < NF ci → a ≠ b → (TTf ci a).2.1 ≠ (TTf ci b).2.1 := by decide +kernel
end
section
/-! The machine over worlds of numbered cells: a cell is named by its place, its contents are functions of place and slot. -/
def xv (ad : Nat → Nat) (v : Value) : Value := match v with
  | .ref k => .ref (ad k)
  | v => v
def xl (ad : Nat → Nat) (lv : List (Nat × Value)) : List (Nat × Value) := lv.map (fun q => (q.1, xv ad q.2))
/-- contents: whole numbers (and truth values), references, longs; by place and slot -/
abbrev Sg : Type := (Nat → Nat → Int32) × (Nat → Nat → Option Nat) × (Nat → Nat → Int64)
/-- a world: first place and how many; the kind of each (a number under 20: an object; 20 ints, 21 truth values, 22 + n references to objects of kind n; with the length); contents -/
abbrev Wd : Type := (Nat × Nat) × (Nat → Nat × Nat) × Sg
def fvl (ad : Nat → Nat) (g : Sg) (t q j : Nat) : Value := match t with
  | 1 => va_re ad (g.2.1 q j)
  | 2 => .long (g.2.2 q j)
  | _ => .int (g.1 q j)
def xE (cA : Nat → ClassId) (ad : Nat → Nat) (sh : Nat → Nat × Nat) (g : Sg) (q : Nat) : va_E :=
  if (sh q).1 < 20 then .inr ((sh q).1, (List.range (NF (sh q).1)).map (fun j => fvl ad g (FT (sh q).1 j) q j))
  else if (sh q).1 < 22 then .inl (cA (sh q).1, (sh q).2, .inl (g.1 q))
  else .inl (cA (sh q).1, (sh q).2, .inr (.inr (.inr (.inr (fun j => (g.2.1 q j).map ad)))))
def xW (cA : Nat → ClassId) (ad : Nat → Nat) (w : Wd) : va_W := (List.range w.1.2).map (fun i => (ad (w.1.1 + i), xE cA ad w.2.1 w.2.2 (w.1.1 + i)))
def xIn (g : Nat × Nat) (q : Nat) : Prop := g.1 ≤ q ∧ q < g.1 + g.2
def xAd (A : Nat → Prop) (ad : Nat → Nat) (g : Nat × Nat) : Prop := (∀ i j, xIn g i → xIn g j → ad i = ad j → i = j) ∧ ∀ i, xIn g i → A (ad i)
theorem xW_at {cA : Nat → ClassId} {ad : Nat → Nat} {w : Wd} {q : Nat} (h : xIn w.1 q) : (xW cA ad w)[q - w.1.1]? = some (ad q, xE cA ad w.2.1 w.2.2 q) := by
  obtain ⟨h1, h2⟩ := h
  have h3 : q - w.1.1 < w.1.2 := by omega
  have h4 : w.1.1 + (q - w.1.1) = q := by omega
  simp only [xW, List.getElem?_map, List.getElem?_range h3, Option.map_some, h4]
theorem xW_of {cA : Nat → ClassId} {ad : Nat → Nat} {w : Wd} {i : Nat} {x : Nat × va_E} (h : (xW cA ad w)[i]? = some x) : i < w.1.2 ∧ x = (ad (w.1.1 + i), xE cA ad w.2.1 w.2.2 (w.1.1 + i)) := by
  have h1 : i < w.1.2 := by
    have := (List.getElem?_eq_some_iff.mp h).1
    simpa [xW] using this
  have h2 := xW_at (cA := cA) (ad := ad) (w := w) (q := w.1.1 + i) ⟨by omega, by omega⟩
  rw [show w.1.1 + i - w.1.1 = i by omega] at h2
  exact ⟨h1, Option.some.inj (h.symm.trans h2)⟩
theorem xD_of {A : Nat → Prop} {cA : Nat → ClassId} {ad : Nat → Nat} {w : Wd} (h : xAd A ad w.1) : va_D A (xW cA ad w) := by
  refine ⟨fun i j p q hi hj hpq => ?_, fun k q hk => ?_⟩
  · obtain ⟨a1, a2⟩ := xW_of hi
    obtain ⟨b1, b2⟩ := xW_of hj
    subst a2; subst b2
    have := h.1 (w.1.1 + i) (w.1.1 + j) ⟨by omega, by omega⟩ ⟨by omega, by omega⟩ hpq
    omega
  · obtain ⟨a1, a2⟩ := xW_of hk
    subst a2
    exact h.2 _ ⟨by omega, by omega⟩
theorem xAd_of {A : Nat → Prop} {cA : Nat → ClassId} {ad : Nat → Nat} {w : Wd} (h : va_D A (xW cA ad w)) : xAd A ad w.1 := by
  refine ⟨fun i j hi hj hij => ?_, fun i hi => h.2 _ _ (xW_at hi)⟩
  have := h.1 _ _ _ _ (xW_at hi) (xW_at hj) hij
  obtain ⟨a, b⟩ := hi
  obtain ⟨c, d⟩ := hj
  omega
theorem xAd_w {A B : Nat → Prop} {ad : Nat → Nat} {g : Nat × Nat} (h : xAd A ad g) (hB : ∀ i, xIn g i → A (ad i) → B (ad i)) : xAd B ad g := ⟨h.1, fun i hi => hB i hi (h.2 i hi)⟩
theorem set_map {α : Type} {n k : Nat} {f f' : Nat → α} {v : α} (hk : f' k = v) (ho : ∀ j, j ≠ k → f' j = f j) : ((List.range n).map f).set k v = (List.range n).map f' := by
  apply List.ext_getElem?
  intro i
  by_cases hi : i = k
  · subst hi
    by_cases hn : i < n
    · rw [List.getElem?_set_self (by simpa using hn)]
      simp [hn, hk]
    · simp [hn]
  · rw [List.getElem?_set_ne (fun h => hi h.symm)]
    by_cases hn : i < n
    · simp [hn, ho i hi]
    · simp [hn]
theorem xW_set {cA : Nat → ClassId} {ad : Nat → Nat} {g : Nat × Nat} {sh : Nat → Nat × Nat} {a b : Sg} {q : Nat} {e : va_E} (hq : xIn g q) (he : e = xE cA ad sh b q) (ho : ∀ j, j ≠ q → xE cA ad sh b j = xE cA ad sh a j) : (xW cA ad (g, sh, a)).set (q - g.1) (ad q, e) = xW cA ad (g, sh, b) := by
  obtain ⟨h1, h2⟩ := hq
  refine set_map ?_ (fun j hj => ?_)
  · show (ad (g.1 + (q - g.1)), xE cA ad sh b (g.1 + (q - g.1))) = _
    rw [show g.1 + (q - g.1) = q by omega, he]
  · show (ad (g.1 + j), xE cA ad sh b (g.1 + j)) = (ad (g.1 + j), xE cA ad sh a (g.1 + j))
    rw [ho (g.1 + j) (by omega)]
def up2 {α : Type} (f : Nat → Nat → α) (q j : Nat) (v : α) : Nat → Nat → α := fun a b => if a = q ∧ b = j then v else f a b
theorem up2_row {α : Type} {f : Nat → Nat → α} {q j : Nat} {v : α} {a : Nat} (h : a ≠ q) : up2 f q j v a = f a := by
  funext b
  simp [up2, h]
theorem up2_same {α : Type} {f : Nat → Nat → α} {q j : Nat} {v : α} : up2 f q j v q j = v := by simp [up2]
theorem up2_ne {α : Type} {f : Nat → Nat → α} {q j : Nat} {v : α} {b : Nat} (h : b ≠ j) (a : Nat) : up2 f q j v a b = f a b := by simp [up2, h]
theorem up2_neq {α : Type} {f : Nat → Nat → α} {q j : Nat} {v : α} {a : Nat} (h : a ≠ q) (b : Nat) : up2 f q j v a b = f a b := by simp [up2, h]
theorem up2_upd {f : Nat → Nat → Int32} {q j : Nat} {v : Int32} : up2 f q j v q = upd (f q) j v := by
  funext b
  by_cases h : b = j <;> simp [up2, upd, h]
/-- the kinds of arrays that are there -/
def tyA (cA : Nat → ClassId) : List (ClassId × FieldType) := [(cA 20, .int), (cA 21, .boolean), (cA 23, .object RX1), (cA 24, .object RX2), (cA 25, .object RX3)]
def xK (D : va_G) (cA : Nat → ClassId) (U : State) : Prop := va_K D CL (tyA cA) U ∧ (∀ w ∈ lw_tbl.filter isNest, va_Nw w U) ∧ va_AO RX1 U ∧ va_AO RX2 U ∧ va_AO RX3 U
theorem xK.moved {D : va_G} {cA : Nat → ClassId} {s U : State} (hW : s.WarmedH U.vm) (h : xK D cA s) : xK D cA U := by
  obtain ⟨h1, h2, h3, h4, h5⟩ := h
  refine ⟨va_K.moved hW.alike h1, fun w hw => ?_, h3.moved hW.alike, h4.moved hW.alike, h5.moved hW.alike⟩
  have hn := (List.mem_filter.mp hw).2
  have h6 := h2 w hw
  cases w <;> first | exact va_Nw.warmM hW h6 | (simp [isNest] at hn)
theorem xK.same {D : va_G} {cA : Nat → ClassId} {s U : State} (hv : s.vm = U.vm) (h : xK D cA s) : xK D cA U := by
  have ha : s.vm.Alike U.vm := by rw [hv]; exact Vm.Alike.refl _
  obtain ⟨h1, h2, h3, h4, h5⟩ := h
  refine ⟨va_K.moved ha h1, fun w hw => ?_, h3.moved ha, h4.moved ha, h5.moved ha⟩
  have hn := (List.mem_filter.mp hw).2
  have h6 := h2 w hw
  cases w <;> first | exact va_Nw.same rfl hv h6 | (simp [isNest] at hn)
def fLow (j : Nat) : Value := .int (([49, 43, 48, 42, 49, 58, 49] : List Int32).getD j 0)
def fHigh (j : Nat) : Value := .int (([57, 43, 57, 42, 57, 58, 56] : List Int32).getD j 0)
/-- the tables of Page: cells 900 and 901, old ones -/
def xSt (ad : Nat → Nat) (A : Nat → Prop) (U : State) (H : Heap) : Prop :=
  (va_Z RX5 "LOWEST" "[I" (.ref (ad 900)) A U H ∧ va_T .int (ad 900) 7 fLow A U H) ∧ va_Z RX5 "HIGHEST" "[I" (.ref (ad 901)) A U H ∧ va_T .int (ad 901) 7 fHigh A U H
theorem xSt.moved {ad : Nat → Nat} {A : Nat → Prop} {u U : State} {H : Heap} (hvm : u.vm.Alike U.vm) (h : xSt ad A u H) : xSt ad A U H := ⟨⟨h.1.1.moved hvm, h.1.2.moved hvm⟩, h.2.1.moved hvm, h.2.2.moved hvm⟩
theorem xSt.kept {ad : Nat → Nat} {A : Nat → Prop} {U : State} {H H1 : Heap} (h : xSt ad A U H) (hq : ∀ a : Nat, a < H.size → ¬ A a → H1[a]? = H[a]?) : xSt ad A U H1 := ⟨⟨h.1.1.kept hq, h.1.2.kept hq⟩, h.2.1.kept hq, h.2.2.kept hq⟩
theorem xSt.narrow {ad : Nat → Nat} {A B : Nat → Prop} {U : State} {H : Heap} (h : xSt ad A U H) (hAB : ∀ q, B q → A q) : xSt ad B U H := ⟨⟨h.1.1.narrow hAB, h.1.2.narrow hAB⟩, h.2.1.narrow hAB, h.2.2.narrow hAB⟩
theorem xSt.ad {ad ad' : Nat → Nat} {A : Nat → Prop} {U : State} {H : Heap} (h : xSt ad A U H) (h0 : ad' 900 = ad 900) (h1 : ad' 901 = ad 901) : xSt ad' A U H := by
  unfold xSt
  rw [h0, h1]
  exact h
/-- what a walk is about: program, launch, surroundings, room, start, method, arguments, frames below; method and code; class numbers; array classes; what may change; how many locals; which places of cells are meant; the end -/
abbrev Cx : Type := Program × Launch × Env × Room × State × MethodId × Array Value × List Frame × Method × Code × va_G × (Nat → ClassId) × (Nat → Prop) × Nat × ((Nat → Nat) → Prop) × (State → Prop)
def AW (C : Cx) (pc : Nat) (lv : List (Nat × Value)) (st : List Value) (w : Wd) (k n : Nat) : Prop := match C with
  | (p, l, e, R, s, m, args, below, meth, c, D, cA, A, nL, G, Q) => ∀ (ad : Nat → Nat) (H : Heap) (locs : List Loc) (ls : Array Slot), G ad → xSt ad A s s.heap → va_P D CL (xW cA ad w) H → xAd A ad w.1 → va_S A s.heap H locs → lv_has ls nL (xl ad lv) → W p l e R s m args below meth c H locs k n Q (F0 m pc ls (st.map (xv ad)))
def xOk (C : Cx) (cc : ByteArray) (own : String) (nL : Nat) (rm : Room) (rt : Option FieldType) : Prop := match C with
  | (p, _, _, R, s, m, args, _, meth, c, D, cA, A, nL', _, _) => p.tables.exec = Jvm.exec ∧ c.code = cc ∧ (c.maxLocals = nL ∧ nL' = nL) ∧ s.vm.findClass own = some m.cls ∧ (∀ w ∈ BIG, w.before args s = true) ∧ xK D cA s ∧ (∀ q, s.heap.size ≤ q → A q) ∧ meth.locks = false ∧ R = rm ∧ meth.sig.returnType = rt
section XL
variable {C : Cx} {cc : ByteArray} {own : String} {nL : Nat} {rm : Room} {rt : Option FieldType} {pc : Nat} {lv lv' : List (Nat × Value)} {st : List Value} {w : Wd} {k n : Nat}
theorem xl_at {ad : Nat → Nat} {ls : Array Slot} {i : Nat} {v : Value} (h : lv_has ls nL (xl ad lv)) (hm : (i, v) ∈ lv) : ls[i]? = some (.val (xv ad v)) := h.2.2 (i, xv ad v) (List.mem_map.mpr ⟨(i, v), hm, rfl⟩)
theorem x_sub (h : ∀ q ∈ lv', q ∈ lv) (kk : AW C pc lv' st w k n) : AW C pc lv st w k n := by
  obtain ⟨p, l, e, R, s, m, args, below, meth, c, D, cA, A, nL', G, Q⟩ := C
  intro ad H locs ls hG hT hP hA hS hl
  exact kk ad H locs ls hG hT hP hA hS ⟨hl.1, hl.2.1, fun q hq => by
    obtain ⟨x, h1, h2⟩ := List.mem_map.mp hq
    exact hl.2.2 q (List.mem_map.mpr ⟨x, h x h1, h2⟩)⟩
theorem x_iconst (hC : xOk C cc own nL rm rt) {i : Int} {v : Int32} (hd : decode cc pc = .ok (.iconst i, 1)) (hv : Int32.ofInt i = v) (kk : AW C (pc + 1) lv (.int v :: st) w k n) : AW C pc lv st w k n := by
  obtain ⟨p, l, e, R, s, m, args, below, meth, c, D, cA, A, nL', G, Q⟩ := C
  obtain ⟨hx, hb, -⟩ := hC
  intro ad H locs ls hG hT hP hA hS hl
  exact lv_iconst hx hb hd hv (kk ad H locs ls hG hT hP hA hS hl)
theorem x_bipush (hC : xOk C cc own nL rm rt) {i : Int} {v : Int32} (hd : decode cc pc = .ok (.bipush i, 2)) (hv : (Int8.ofInt i).toInt32 = v) (kk : AW C (pc + 2) lv (.int v :: st) w k n) : AW C pc lv st w k n := by
  obtain ⟨p, l, e, R, s, m, args, below, meth, c, D, cA, A, nL', G, Q⟩ := C
  obtain ⟨hx, hb, -⟩ := hC
  intro ad H locs ls hG hT hP hA hS hl
  exact lv_bipush hx hb hd hv (kk ad H locs ls hG hT hP hA hS hl)
theorem x_sipush (hC : xOk C cc own nL rm rt) {i : Int} {v : Int32} (hd : decode cc pc = .ok (.sipush i, 3)) (hv : (Int16.ofInt i).toInt32 = v) (kk : AW C (pc + 3) lv (.int v :: st) w k n) : AW C pc lv st w k n := by
  obtain ⟨p, l, e, R, s, m, args, below, meth, c, D, cA, A, nL', G, Q⟩ := C
  obtain ⟨hx, hb, -⟩ := hC
  intro ad H locs ls hG hT hP hA hS hl
  exact lv_sipush hx hb hd hv (kk ad H locs ls hG hT hP hA hS hl)
theorem x_iload_n (hC : xOk C cc own nL rm rt) {i : Fin 4} {v : Int32} (hd : decode cc pc = .ok (.iload_n i, 1)) (hm : ((i : Nat), Value.int v) ∈ lv) (kk : AW C (pc + 1) lv (.int v :: st) w k n) : AW C pc lv st w k n := by
  obtain ⟨p, l, e, R, s, m, args, below, meth, c, D, cA, A, nL', G, Q⟩ := C
  obtain ⟨hx, hb, -⟩ := hC
  intro ad H locs ls hG hT hP hA hS hl
  exact lv_iload_n hx hb hd rfl (xl_at hl hm) (kk ad H locs ls hG hT hP hA hS hl)
theorem x_iload (hC : xOk C cc own nL rm rt) {i : Nat} {v : Int32} (hd : decode cc pc = .ok (.iload i, 2)) (hm : (i, Value.int v) ∈ lv) (kk : AW C (pc + 2) lv (.int v :: st) w k n) : AW C pc lv st w k n := by
  obtain ⟨p, l, e, R, s, m, args, below, meth, c, D, cA, A, nL', G, Q⟩ := C
  obtain ⟨hx, hb, -⟩ := hC
  intro ad H locs ls hG hT hP hA hS hl
  exact lv_iload hx hb hd (xl_at hl hm) (kk ad H locs ls hG hT hP hA hS hl)
theorem x_lload_n (hC : xOk C cc own nL rm rt) {i : Fin 4} {v : Int64} (hd : decode cc pc = .ok (.lload_n i, 1)) (hm : ((i : Nat), Value.long v) ∈ lv) (kk : AW C (pc + 1) lv (.long v :: st) w k n) : AW C pc lv st w k n := by
  obtain ⟨p, l, e, R, s, m, args, below, meth, c, D, cA, A, nL', G, Q⟩ := C
  obtain ⟨hx, hb, -⟩ := hC
  intro ad H locs ls hG hT hP hA hS hl
  exact lv_lload_n hx hb hd rfl (xl_at hl hm) (kk ad H locs ls hG hT hP hA hS hl)
theorem x_aload_n (hC : xOk C cc own nL rm rt) {i : Fin 4} {q : Nat} (hd : decode cc pc = .ok (.aload_n i, 1)) (hm : ((i : Nat), Value.ref q) ∈ lv) (kk : AW C (pc + 1) lv (.ref q :: st) w k n) : AW C pc lv st w k n := by
  obtain ⟨p, l, e, R, s, m, args, below, meth, c, D, cA, A, nL', G, Q⟩ := C
  obtain ⟨hx, hb, -⟩ := hC
  intro ad H locs ls hG hT hP hA hS hl
  exact lv_aload_n hx hb hd rfl (xl_at hl hm) (kk ad H locs ls hG hT hP hA hS hl)
theorem x_aload (hC : xOk C cc own nL rm rt) {i q : Nat} (hd : decode cc pc = .ok (.aload i, 2)) (hm : (i, Value.ref q) ∈ lv) (kk : AW C (pc + 2) lv (.ref q :: st) w k n) : AW C pc lv st w k n := by
  obtain ⟨p, l, e, R, s, m, args, below, meth, c, D, cA, A, nL', G, Q⟩ := C
  obtain ⟨hx, hb, -⟩ := hC
  intro ad H locs ls hG hT hP hA hS hl
  exact lv_aload hx hb hd (xl_at hl hm) (kk ad H locs ls hG hT hP hA hS hl)
theorem xl_filter1 {ad : Nat → Nat} {ls : Array Slot} {i : Nat} {v : Value} (h : lv_has ls nL ((i, xv ad v) :: (xl ad lv).filter (fun q => !(q.1 == i) && !(q.1 + 1 == i && q.2.category == 2)))) (hv : ∀ q ∈ lv', q = (i, v) ∨ (q ∈ lv ∧ (!(q.1 == i) && !(q.1 + 1 == i && q.2.category == 2)) = true)) : lv_has ls nL (xl ad lv') := by
  refine ⟨h.1, h.2.1, fun q hq => ?_⟩
  obtain ⟨x, h1, h2⟩ := List.mem_map.mp hq
  subst h2
  rcases hv x h1 with h3 | ⟨h3, h4⟩
  · subst h3
    exact h.2.2 _ List.mem_cons_self
  · refine h.2.2 _ (List.mem_cons_of_mem _ (List.mem_filter.mpr ⟨List.mem_map.mpr ⟨x, h3, rfl⟩, ?_⟩))
    rw [← h4]
    have : (xv ad x.2).category = x.2.category := by cases x.2 <;> rfl
    simp [this]
theorem xl_filter2 {ad : Nat → Nat} {ls : Array Slot} {i : Nat} {v : Value} (h : lv_has ls nL ((i, xv ad v) :: (xl ad lv).filter (fun q => !(q.1 == i) && (!(q.1 == i + 1) && !(q.1 + 1 == i && q.2.category == 2))))) (hv : ∀ q ∈ lv', q = (i, v) ∨ (q ∈ lv ∧ (!(q.1 == i) && (!(q.1 == i + 1) && !(q.1 + 1 == i && q.2.category == 2))) = true)) : lv_has ls nL (xl ad lv') := by
  refine ⟨h.1, h.2.1, fun q hq => ?_⟩
  obtain ⟨x, h1, h2⟩ := List.mem_map.mp hq
  subst h2
  rcases hv x h1 with h3 | ⟨h3, h4⟩
  · subst h3
    exact h.2.2 _ List.mem_cons_self
  · refine h.2.2 _ (List.mem_cons_of_mem _ (List.mem_filter.mpr ⟨List.mem_map.mpr ⟨x, h3, rfl⟩, ?_⟩))
    rw [← h4]
    have : (xv ad x.2).category = x.2.category := by cases x.2 <;> rfl
    simp [this]
/-- the locals behind a store at i, by program: the new one first, the others that stay -/
def lvS (lv : List (Nat × Value)) (i : Nat) (v : Value) : List (Nat × Value) := (i, v) :: lv.filter (fun q => !(q.1 == i) && !(q.1 + 1 == i && q.2.category == 2))
def lvS2 (lv : List (Nat × Value)) (i : Nat) (v : Value) : List (Nat × Value) := (i, v) :: lv.filter (fun q => !(q.1 == i) && (!(q.1 == i + 1) && !(q.1 + 1 == i && q.2.category == 2)))
theorem lvS_mem {i : Nat} {v : Value} : ∀ q ∈ lvS lv i v, q = (i, v) ∨ (q ∈ lv ∧ (!(q.1 == i) && !(q.1 + 1 == i && q.2.category == 2)) = true) := by
  intro q hq
  rcases List.mem_cons.mp hq with h | h
  · exact Or.inl h
  · exact Or.inr ⟨(List.mem_filter.mp h).1, (List.mem_filter.mp h).2⟩
theorem lvS2_mem {i : Nat} {v : Value} : ∀ q ∈ lvS2 lv i v, q = (i, v) ∨ (q ∈ lv ∧ (!(q.1 == i) && (!(q.1 == i + 1) && !(q.1 + 1 == i && q.2.category == 2))) = true) := by
  intro q hq
  rcases List.mem_cons.mp hq with h | h
  · exact Or.inl h
  · exact Or.inr ⟨(List.mem_filter.mp h).1, (List.mem_filter.mp h).2⟩
theorem x_istore_n (hC : xOk C cc own nL rm rt) {i : Fin 4} {v : Int32} (hd : decode cc pc = .ok (.istore_n i, 1)) (hn : (i : Nat) < nL) (hl' : lvS lv i (.int v) = lv') (kk : AW C (pc + 1) lv' st w k n) : AW C pc lv (.int v :: st) w k n := by
  subst hl'
  obtain ⟨p, l, e, R, s, m, args, below, meth, c, D, cA, A, nL', G, Q⟩ := C
  obtain ⟨hx, hb, ⟨-, hnl⟩, -⟩ := hC
  subst hnl
  intro ad H locs ls hG hT hP hA hS hl
  exact lv_istore_n hx hb hd rfl hl hn rfl (fun ls hl => kk ad H locs ls hG hT hP hA hS (xl_filter1 (v := .int v) hl lvS_mem))
theorem x_istore (hC : xOk C cc own nL rm rt) {i : Nat} {v : Int32} (hd : decode cc pc = .ok (.istore i, 2)) (hn : i < nL) (hl' : lvS lv i (.int v) = lv') (kk : AW C (pc + 2) lv' st w k n) : AW C pc lv (.int v :: st) w k n := by
  subst hl'
  obtain ⟨p, l, e, R, s, m, args, below, meth, c, D, cA, A, nL', G, Q⟩ := C
  obtain ⟨hx, hb, ⟨-, hnl⟩, -⟩ := hC
  subst hnl
  intro ad H locs ls hG hT hP hA hS hl
  exact lv_istore hx hb hd hl hn rfl (fun ls hl => kk ad H locs ls hG hT hP hA hS (xl_filter1 (v := .int v) hl lvS_mem))
theorem x_lstore_n (hC : xOk C cc own nL rm rt) {i : Fin 4} {v : Int64} (hd : decode cc pc = .ok (.lstore_n i, 1)) (hn : (i : Nat) + 1 < nL) (hl' : lvS2 lv i (.long v) = lv') (kk : AW C (pc + 1) lv' st w k n) : AW C pc lv (.long v :: st) w k n := by
  subst hl'
  obtain ⟨p, l, e, R, s, m, args, below, meth, c, D, cA, A, nL', G, Q⟩ := C
  obtain ⟨hx, hb, ⟨-, hnl⟩, -⟩ := hC
  subst hnl
  intro ad H locs ls hG hT hP hA hS hl
  exact lv_lstore_n hx hb hd rfl hl hn rfl (fun ls hl => kk ad H locs ls hG hT hP hA hS (xl_filter2 (v := .long v) hl lvS2_mem))
theorem x_astore_n (hC : xOk C cc own nL rm rt) {i : Fin 4} {q : Nat} (hd : decode cc pc = .ok (.astore_n i, 1)) (hn : (i : Nat) < nL) (hl' : lvS lv i (.ref q) = lv') (kk : AW C (pc + 1) lv' st w k n) : AW C pc lv (.ref q :: st) w k n := by
  subst hl'
  obtain ⟨p, l, e, R, s, m, args, below, meth, c, D, cA, A, nL', G, Q⟩ := C
  obtain ⟨hx, hb, ⟨-, hnl⟩, -⟩ := hC
  subst hnl
  intro ad H locs ls hG hT hP hA hS hl
  exact lv_astore_n hx hb hd rfl hl hn rfl (fun ls hl => kk ad H locs ls hG hT hP hA hS (xl_filter1 (v := .ref q) hl lvS_mem))
theorem x_astore (hC : xOk C cc own nL rm rt) {i q : Nat} (hd : decode cc pc = .ok (.astore i, 2)) (hn : i < nL) (hl' : lvS lv i (.ref q) = lv') (kk : AW C (pc + 2) lv' st w k n) : AW C pc lv (.ref q :: st) w k n := by
  subst hl'
  obtain ⟨p, l, e, R, s, m, args, below, meth, c, D, cA, A, nL', G, Q⟩ := C
  obtain ⟨hx, hb, ⟨-, hnl⟩, -⟩ := hC
  subst hnl
  intro ad H locs ls hG hT hP hA hS hl
  exact lv_astore hx hb hd hl hn rfl (fun ls hl => kk ad H locs ls hG hT hP hA hS (xl_filter1 (v := .ref q) hl lvS_mem))
theorem x_iinc (hC : xOk C cc own nL rm rt) {i : Nat} {d : Int} {v u : Int32} (hd : decode cc pc = .ok (.iinc i d, 3)) (hm : (i, Value.int v) ∈ lv) (hv : v + Int32.ofInt d = u) (hn : i < nL) (hl' : lvS lv i (.int u) = lv') (kk : AW C (pc + 3) lv' st w k n) : AW C pc lv st w k n := by
  subst hl'
  obtain ⟨p, l, e, R, s, m, args, below, meth, c, D, cA, A, nL', G, Q⟩ := C
  obtain ⟨hx, hb, ⟨-, hnl⟩, -⟩ := hC
  subst hnl
  intro ad H locs ls hG hT hP hA hS hl
  have hm' : (i, Value.int v) ∈ xl ad lv := List.mem_map.mpr ⟨_, hm, rfl⟩
  obtain ⟨k0, hk0⟩ := List.getElem?_of_mem hm'
  exact lv_iinc hx hb hd hl hk0 hv hn rfl (fun ls hl => kk ad H locs ls hG hT hP hA hS (xl_filter1 (v := .int u) hl lvS_mem))
end XL
end
section
section XA
variable {C : Cx} {cc : ByteArray} {own : String} {nL : Nat} {rm : Room} {rt : Option FieldType} {pc : Nat} {lv : List (Nat × Value)} {st : List Value} {w : Wd} {k n : Nat}
theorem x_iadd (hC : xOk C cc own nL rm rt) {x y : Int32} (hd : decode cc pc = .ok (.iadd, 1)) (kk : AW C (pc + 1) lv (.int (x + y) :: st) w k n) : AW C pc lv (.int y :: .int x :: st) w k n := by
  obtain ⟨p, l, e, R, s, m, args, below, meth, c, D, cA, A, nL', G, Q⟩ := C
  obtain ⟨hx, hb, -⟩ := hC
  intro ad H locs ls hG hT hP hA hS hl
  exact lv_iadd hx hb hd (kk ad H locs ls hG hT hP hA hS hl)
theorem x_isub (hC : xOk C cc own nL rm rt) {x y : Int32} (hd : decode cc pc = .ok (.isub, 1)) (kk : AW C (pc + 1) lv (.int (x - y) :: st) w k n) : AW C pc lv (.int y :: .int x :: st) w k n := by
  obtain ⟨p, l, e, R, s, m, args, below, meth, c, D, cA, A, nL', G, Q⟩ := C
  obtain ⟨hx, hb, -⟩ := hC
  intro ad H locs ls hG hT hP hA hS hl
  exact lv_isub hx hb hd (kk ad H locs ls hG hT hP hA hS hl)
theorem x_imul (hC : xOk C cc own nL rm rt) {x y : Int32} (hd : decode cc pc = .ok (.imul, 1)) (kk : AW C (pc + 1) lv (.int (x * y) :: st) w k n) : AW C pc lv (.int y :: .int x :: st) w k n := by
  obtain ⟨p, l, e, R, s, m, args, below, meth, c, D, cA, A, nL', G, Q⟩ := C
  obtain ⟨hx, hb, -⟩ := hC
  intro ad H locs ls hG hT hP hA hS hl
  exact lv_imul hx hb hd (kk ad H locs ls hG hT hP hA hS hl)
theorem x_iand (hC : xOk C cc own nL rm rt) {x y : Int32} (hd : decode cc pc = .ok (.iand, 1)) (kk : AW C (pc + 1) lv (.int (x &&& y) :: st) w k n) : AW C pc lv (.int y :: .int x :: st) w k n := by
  obtain ⟨p, l, e, R, s, m, args, below, meth, c, D, cA, A, nL', G, Q⟩ := C
  obtain ⟨hx, hb, -⟩ := hC
  intro ad H locs ls hG hT hP hA hS hl
  exact lv_iand hx hb hd (kk ad H locs ls hG hT hP hA hS hl)
theorem x_ior (hC : xOk C cc own nL rm rt) {x y : Int32} (hd : decode cc pc = .ok (.ior, 1)) (kk : AW C (pc + 1) lv (.int (x ||| y) :: st) w k n) : AW C pc lv (.int y :: .int x :: st) w k n := by
  obtain ⟨p, l, e, R, s, m, args, below, meth, c, D, cA, A, nL', G, Q⟩ := C
  obtain ⟨hx, hb, -⟩ := hC
  intro ad H locs ls hG hT hP hA hS hl
  exact lv_ior hx hb hd (kk ad H locs ls hG hT hP hA hS hl)
theorem x_ixor (hC : xOk C cc own nL rm rt) {x y : Int32} (hd : decode cc pc = .ok (.ixor, 1)) (kk : AW C (pc + 1) lv (.int (x ^^^ y) :: st) w k n) : AW C pc lv (.int y :: .int x :: st) w k n := by
  obtain ⟨p, l, e, R, s, m, args, below, meth, c, D, cA, A, nL', G, Q⟩ := C
  obtain ⟨hx, hb, -⟩ := hC
  intro ad H locs ls hG hT hP hA hS hl
  exact lv_ixor hx hb hd (kk ad H locs ls hG hT hP hA hS hl)
theorem x_idiv (hC : xOk C cc own nL rm rt) {x y : Int32} (hd : decode cc pc = .ok (.idiv, 1)) (hne : ¬ y = 0) (kk : AW C (pc + 1) lv (.int (x / y) :: st) w k n) : AW C pc lv (.int y :: .int x :: st) w k n := by
  obtain ⟨p, l, e, R, s, m, args, below, meth, c, D, cA, A, nL', G, Q⟩ := C
  obtain ⟨hx, hb, -⟩ := hC
  intro ad H locs ls hG hT hP hA hS hl
  exact lv_idiv hx hb hd hne (kk ad H locs ls hG hT hP hA hS hl)
theorem x_irem (hC : xOk C cc own nL rm rt) {x y : Int32} (hd : decode cc pc = .ok (.irem, 1)) (hne : ¬ y = 0) (kk : AW C (pc + 1) lv (.int (x - x / y * y) :: st) w k n) : AW C pc lv (.int y :: .int x :: st) w k n := by
  obtain ⟨p, l, e, R, s, m, args, below, meth, c, D, cA, A, nL', G, Q⟩ := C
  obtain ⟨hx, hb, -⟩ := hC
  intro ad H locs ls hG hT hP hA hS hl
  exact lv_irem hx hb hd hne (kk ad H locs ls hG hT hP hA hS hl)
theorem x_ishl (hC : xOk C cc own nL rm rt) {x y : Int32} (hd : decode cc pc = .ok (.ishl, 1)) (kk : AW C (pc + 1) lv (.int (x <<< (y &&& 31)) :: st) w k n) : AW C pc lv (.int y :: .int x :: st) w k n := by
  obtain ⟨p, l, e, R, s, m, args, below, meth, c, D, cA, A, nL', G, Q⟩ := C
  obtain ⟨hx, hb, -⟩ := hC
  intro ad H locs ls hG hT hP hA hS hl
  exact lv_ishl hx hb hd (kk ad H locs ls hG hT hP hA hS hl)
theorem x_ishr (hC : xOk C cc own nL rm rt) {x y : Int32} (hd : decode cc pc = .ok (.ishr, 1)) (kk : AW C (pc + 1) lv (.int (x >>> (y &&& 31)) :: st) w k n) : AW C pc lv (.int y :: .int x :: st) w k n := by
  obtain ⟨p, l, e, R, s, m, args, below, meth, c, D, cA, A, nL', G, Q⟩ := C
  obtain ⟨hx, hb, -⟩ := hC
  intro ad H locs ls hG hT hP hA hS hl
  exact lv_ishr hx hb hd (kk ad H locs ls hG hT hP hA hS hl)
theorem x_ladd (hC : xOk C cc own nL rm rt) {x y : Int64} (hd : decode cc pc = .ok (.ladd, 1)) (kk : AW C (pc + 1) lv (.long (x + y) :: st) w k n) : AW C pc lv (.long y :: .long x :: st) w k n := by
  obtain ⟨p, l, e, R, s, m, args, below, meth, c, D, cA, A, nL', G, Q⟩ := C
  obtain ⟨hx, hb, -⟩ := hC
  intro ad H locs ls hG hT hP hA hS hl
  exact lv_ladd hx hb hd (kk ad H locs ls hG hT hP hA hS hl)
theorem x_lmul (hC : xOk C cc own nL rm rt) {x y : Int64} (hd : decode cc pc = .ok (.lmul, 1)) (kk : AW C (pc + 1) lv (.long (x * y) :: st) w k n) : AW C pc lv (.long y :: .long x :: st) w k n := by
  obtain ⟨p, l, e, R, s, m, args, below, meth, c, D, cA, A, nL', G, Q⟩ := C
  obtain ⟨hx, hb, -⟩ := hC
  intro ad H locs ls hG hT hP hA hS hl
  exact lv_lmul hx hb hd (kk ad H locs ls hG hT hP hA hS hl)
theorem x_i2l (hC : xOk C cc own nL rm rt) {x : Int32} (hd : decode cc pc = .ok (.i2l, 1)) (kk : AW C (pc + 1) lv (.long x.toInt64 :: st) w k n) : AW C pc lv (.int x :: st) w k n := by
  obtain ⟨p, l, e, R, s, m, args, below, meth, c, D, cA, A, nL', G, Q⟩ := C
  obtain ⟨hx, hb, -⟩ := hC
  intro ad H locs ls hG hT hP hA hS hl
  exact lv_i2l hx hb hd rfl (kk ad H locs ls hG hT hP hA hS hl)
theorem x_lcmp (hC : xOk C cc own nL rm rt) {x y : Int64} (hd : decode cc pc = .ok (.lcmp, 1)) (kk : AW C (pc + 1) lv (.int (lg_cmp x y) :: st) w k n) : AW C pc lv (.long y :: .long x :: st) w k n := by
  obtain ⟨p, l, e, R, s, m, args, below, meth, c, D, cA, A, nL', G, Q⟩ := C
  obtain ⟨hx, hb, -⟩ := hC
  intro ad H locs ls hG hT hP hA hS hl
  exact W.lcmp hx hb hd (kk ad H locs ls hG hT hP hA hS hl)
theorem xv_cat (ad : Nat → Nat) (v : Value) : (xv ad v).category = v.category := by cases v <;> rfl
theorem x_dup (hC : xOk C cc own nL rm rt) {v : Value} (hd : decode cc pc = .ok (.dup, 1)) (hv : v.category = 1) (kk : AW C (pc + 1) lv (v :: v :: st) w k n) : AW C pc lv (v :: st) w k n := by
  obtain ⟨p, l, e, R, s, m, args, below, meth, c, D, cA, A, nL', G, Q⟩ := C
  obtain ⟨hx, hb, -⟩ := hC
  intro ad H locs ls hG hT hP hA hS hl
  exact lv_dup hx hb hd (by rw [xv_cat]; exact hv) (kk ad H locs ls hG hT hP hA hS hl)
theorem x_pop (hC : xOk C cc own nL rm rt) {v : Value} (hd : decode cc pc = .ok (.pop, 1)) (hv : v.category = 1) (kk : AW C (pc + 1) lv st w k n) : AW C pc lv (v :: st) w k n := by
  obtain ⟨p, l, e, R, s, m, args, below, meth, c, D, cA, A, nL', G, Q⟩ := C
  obtain ⟨hx, hb, -⟩ := hC
  intro ad H locs ls hG hT hP hA hS hl
  exact lv_pop hx hb hd (by rw [xv_cat]; exact hv) (kk ad H locs ls hG hT hP hA hS hl)
theorem x_dup2 (hC : xOk C cc own nL rm rt) {v u : Value} (hd : decode cc pc = .ok (.dup2, 1)) (hv : v.category = 1) (hu : u.category = 1) (kk : AW C (pc + 1) lv (v :: u :: v :: u :: st) w k n) : AW C pc lv (v :: u :: st) w k n := by
  obtain ⟨p, l, e, R, s, m, args, below, meth, c, D, cA, A, nL', G, Q⟩ := C
  obtain ⟨hx, hb, -⟩ := hC
  intro ad H locs ls hG hT hP hA hS hl
  exact lv_dup2_11 hx hb hd (by rw [xv_cat]; exact hv) (by rw [xv_cat]; exact hu) (kk ad H locs ls hG hT hP hA hS hl)
theorem x_goto (hC : xOk C cc own nL rm rt) {off : Int} {tgt : Nat} (hd : decode cc pc = .ok (.goto off, 3)) (ht : (pc : Int) + off = (tgt : Int)) (kk : AW C tgt lv st w k n) : AW C pc lv st w k n := by
  obtain ⟨p, l, e, R, s, m, args, below, meth, c, D, cA, A, nL', G, Q⟩ := C
  obtain ⟨hx, hb, -⟩ := hC
  intro ad H locs ls hG hT hP hA hS hl
  exact lv_goto hx hb hd ht (kk ad H locs ls hG hT hP hA hS hl)
theorem x_if_eq (hC : xOk C cc own nL rm rt) {x : Int32} {off : Int} {tgt : Nat} (hd : decode cc pc = .ok (.ifCond .eq off, 3)) (ht : (pc : Int) + off = (tgt : Int)) (kt : x = 0 → AW C tgt lv st w k n) (kf : ¬ x = 0 → AW C (pc + 3) lv st w k n) : AW C pc lv (.int x :: st) w k n := by
  obtain ⟨p, l, e, R, s, m, args, below, meth, c, D, cA, A, nL', G, Q⟩ := C
  obtain ⟨hx, hb, -⟩ := hC
  intro ad H locs ls hG hT hP hA hS hl
  exact lv_if_eq hx hb hd ht (fun h => kt h ad H locs ls hG hT hP hA hS hl) (fun h => kf h ad H locs ls hG hT hP hA hS hl)
theorem x_icmp_eq (hC : xOk C cc own nL rm rt) {x y : Int32} {off : Int} {tgt : Nat} (hd : decode cc pc = .ok (.if_icmp .eq off, 3)) (ht : (pc : Int) + off = (tgt : Int)) (kt : x = y → AW C tgt lv st w k n) (kf : ¬ x = y → AW C (pc + 3) lv st w k n) : AW C pc lv (.int y :: .int x :: st) w k n := by
  obtain ⟨p, l, e, R, s, m, args, below, meth, c, D, cA, A, nL', G, Q⟩ := C
  obtain ⟨hx, hb, -⟩ := hC
  intro ad H locs ls hG hT hP hA hS hl
  exact lv_icmp_eq hx hb hd ht (fun h => kt h ad H locs ls hG hT hP hA hS hl) (fun h => kf h ad H locs ls hG hT hP hA hS hl)
theorem x_if_ne (hC : xOk C cc own nL rm rt) {x : Int32} {off : Int} {tgt : Nat} (hd : decode cc pc = .ok (.ifCond .ne off, 3)) (ht : (pc : Int) + off = (tgt : Int)) (kt : ¬ x = 0 → AW C tgt lv st w k n) (kf : x = 0 → AW C (pc + 3) lv st w k n) : AW C pc lv (.int x :: st) w k n := by
  obtain ⟨p, l, e, R, s, m, args, below, meth, c, D, cA, A, nL', G, Q⟩ := C
  obtain ⟨hx, hb, -⟩ := hC
  intro ad H locs ls hG hT hP hA hS hl
  exact lv_if_ne hx hb hd ht (fun h => kt h ad H locs ls hG hT hP hA hS hl) (fun h => kf h ad H locs ls hG hT hP hA hS hl)
theorem x_icmp_ne (hC : xOk C cc own nL rm rt) {x y : Int32} {off : Int} {tgt : Nat} (hd : decode cc pc = .ok (.if_icmp .ne off, 3)) (ht : (pc : Int) + off = (tgt : Int)) (kt : ¬ x = y → AW C tgt lv st w k n) (kf : x = y → AW C (pc + 3) lv st w k n) : AW C pc lv (.int y :: .int x :: st) w k n := by
  obtain ⟨p, l, e, R, s, m, args, below, meth, c, D, cA, A, nL', G, Q⟩ := C
  obtain ⟨hx, hb, -⟩ := hC
  intro ad H locs ls hG hT hP hA hS hl
  exact lv_icmp_ne hx hb hd ht (fun h => kt h ad H locs ls hG hT hP hA hS hl) (fun h => kf h ad H locs ls hG hT hP hA hS hl)
theorem x_if_lt (hC : xOk C cc own nL rm rt) {x : Int32} {off : Int} {tgt : Nat} (hd : decode cc pc = .ok (.ifCond .lt off, 3)) (ht : (pc : Int) + off = (tgt : Int)) (kt : x < 0 → AW C tgt lv st w k n) (kf : ¬ x < 0 → AW C (pc + 3) lv st w k n) : AW C pc lv (.int x :: st) w k n := by
  obtain ⟨p, l, e, R, s, m, args, below, meth, c, D, cA, A, nL', G, Q⟩ := C
  obtain ⟨hx, hb, -⟩ := hC
  intro ad H locs ls hG hT hP hA hS hl
  exact lv_if_lt hx hb hd ht (fun h => kt h ad H locs ls hG hT hP hA hS hl) (fun h => kf h ad H locs ls hG hT hP hA hS hl)
theorem x_icmp_lt (hC : xOk C cc own nL rm rt) {x y : Int32} {off : Int} {tgt : Nat} (hd : decode cc pc = .ok (.if_icmp .lt off, 3)) (ht : (pc : Int) + off = (tgt : Int)) (kt : x < y → AW C tgt lv st w k n) (kf : ¬ x < y → AW C (pc + 3) lv st w k n) : AW C pc lv (.int y :: .int x :: st) w k n := by
  obtain ⟨p, l, e, R, s, m, args, below, meth, c, D, cA, A, nL', G, Q⟩ := C
  obtain ⟨hx, hb, -⟩ := hC
  intro ad H locs ls hG hT hP hA hS hl
  exact lv_icmp_lt hx hb hd ht (fun h => kt h ad H locs ls hG hT hP hA hS hl) (fun h => kf h ad H locs ls hG hT hP hA hS hl)
theorem x_if_ge (hC : xOk C cc own nL rm rt) {x : Int32} {off : Int} {tgt : Nat} (hd : decode cc pc = .ok (.ifCond .ge off, 3)) (ht : (pc : Int) + off = (tgt : Int)) (kt : 0 ≤ x → AW C tgt lv st w k n) (kf : ¬ 0 ≤ x → AW C (pc + 3) lv st w k n) : AW C pc lv (.int x :: st) w k n := by
  obtain ⟨p, l, e, R, s, m, args, below, meth, c, D, cA, A, nL', G, Q⟩ := C
  obtain ⟨hx, hb, -⟩ := hC
  intro ad H locs ls hG hT hP hA hS hl
  exact lv_if_ge hx hb hd ht (fun h => kt h ad H locs ls hG hT hP hA hS hl) (fun h => kf h ad H locs ls hG hT hP hA hS hl)
theorem x_icmp_ge (hC : xOk C cc own nL rm rt) {x y : Int32} {off : Int} {tgt : Nat} (hd : decode cc pc = .ok (.if_icmp .ge off, 3)) (ht : (pc : Int) + off = (tgt : Int)) (kt : y ≤ x → AW C tgt lv st w k n) (kf : ¬ y ≤ x → AW C (pc + 3) lv st w k n) : AW C pc lv (.int y :: .int x :: st) w k n := by
  obtain ⟨p, l, e, R, s, m, args, below, meth, c, D, cA, A, nL', G, Q⟩ := C
  obtain ⟨hx, hb, -⟩ := hC
  intro ad H locs ls hG hT hP hA hS hl
  exact lv_icmp_ge hx hb hd ht (fun h => kt h ad H locs ls hG hT hP hA hS hl) (fun h => kf h ad H locs ls hG hT hP hA hS hl)
theorem x_if_gt (hC : xOk C cc own nL rm rt) {x : Int32} {off : Int} {tgt : Nat} (hd : decode cc pc = .ok (.ifCond .gt off, 3)) (ht : (pc : Int) + off = (tgt : Int)) (kt : 0 < x → AW C tgt lv st w k n) (kf : ¬ 0 < x → AW C (pc + 3) lv st w k n) : AW C pc lv (.int x :: st) w k n := by
  obtain ⟨p, l, e, R, s, m, args, below, meth, c, D, cA, A, nL', G, Q⟩ := C
  obtain ⟨hx, hb, -⟩ := hC
  intro ad H locs ls hG hT hP hA hS hl
  exact lv_if_gt hx hb hd ht (fun h => kt h ad H locs ls hG hT hP hA hS hl) (fun h => kf h ad H locs ls hG hT hP hA hS hl)
theorem x_icmp_gt (hC : xOk C cc own nL rm rt) {x y : Int32} {off : Int} {tgt : Nat} (hd : decode cc pc = .ok (.if_icmp .gt off, 3)) (ht : (pc : Int) + off = (tgt : Int)) (kt : y < x → AW C tgt lv st w k n) (kf : ¬ y < x → AW C (pc + 3) lv st w k n) : AW C pc lv (.int y :: .int x :: st) w k n := by
  obtain ⟨p, l, e, R, s, m, args, below, meth, c, D, cA, A, nL', G, Q⟩ := C
  obtain ⟨hx, hb, -⟩ := hC
  intro ad H locs ls hG hT hP hA hS hl
  exact lv_icmp_gt hx hb hd ht (fun h => kt h ad H locs ls hG hT hP hA hS hl) (fun h => kf h ad H locs ls hG hT hP hA hS hl)
theorem x_if_le (hC : xOk C cc own nL rm rt) {x : Int32} {off : Int} {tgt : Nat} (hd : decode cc pc = .ok (.ifCond .le off, 3)) (ht : (pc : Int) + off = (tgt : Int)) (kt : x ≤ 0 → AW C tgt lv st w k n) (kf : ¬ x ≤ 0 → AW C (pc + 3) lv st w k n) : AW C pc lv (.int x :: st) w k n := by
  obtain ⟨p, l, e, R, s, m, args, below, meth, c, D, cA, A, nL', G, Q⟩ := C
  obtain ⟨hx, hb, -⟩ := hC
  intro ad H locs ls hG hT hP hA hS hl
  exact lv_if_le hx hb hd ht (fun h => kt h ad H locs ls hG hT hP hA hS hl) (fun h => kf h ad H locs ls hG hT hP hA hS hl)
theorem x_icmp_le (hC : xOk C cc own nL rm rt) {x y : Int32} {off : Int} {tgt : Nat} (hd : decode cc pc = .ok (.if_icmp .le off, 3)) (ht : (pc : Int) + off = (tgt : Int)) (kt : x ≤ y → AW C tgt lv st w k n) (kf : ¬ x ≤ y → AW C (pc + 3) lv st w k n) : AW C pc lv (.int y :: .int x :: st) w k n := by
  obtain ⟨p, l, e, R, s, m, args, below, meth, c, D, cA, A, nL', G, Q⟩ := C
  obtain ⟨hx, hb, -⟩ := hC
  intro ad H locs ls hG hT hP hA hS hl
  exact lv_icmp_le hx hb hd ht (fun h => kt h ad H locs ls hG hT hP hA hS hl) (fun h => kf h ad H locs ls hG hT hP hA hS hl)
theorem x_tsw (hC : xOk C cc own nL rm rt) {x : Int32} {dflt lo hi : Int} {offs : Array Int} {len tgt : Nat} (hd : decode cc pc = .ok (.tableswitch dflt lo hi offs, len)) (T : List Nat) (hT' : offs.toList = T.map (fun t : Nat => (t : Int) - (pc : Int))) (hlen : hi = lo + ((T.length : Int) - 1)) (ht : (pc : Int) + dflt = (tgt : Int)) (kd : (x.toInt < lo ∨ hi < x.toInt) → AW C tgt lv st w k n) (ks : ∀ (i t : Nat), T[i]? = some t → x.toInt = lo + (i : Int) → AW C t lv st w k n) : AW C pc lv (.int x :: st) w k n := by
  obtain ⟨p, l, e, R, s, m, args, below, meth, c, D, cA, A, nL', G, Q⟩ := C
  obtain ⟨hx, hb, -⟩ := hC
  intro ad H locs ls hG hT hP hA hS hl
  by_cases h : x.toInt < lo ∨ hi < x.toInt
  · exact lv_tableOut hx hb hd h ht (kd h ad H locs ls hG hT hP hA hS hl)
  · have h1 : ¬ x.toInt < lo := fun q => h (Or.inl q)
    have h2 : ¬ hi < x.toInt := fun q => h (Or.inr q)
    have hi' : (x.toInt - lo).toNat < T.length := by omega
    obtain ⟨t, htt⟩ : ∃ t, T[(x.toInt - lo).toNat]? = some t := ⟨_, List.getElem?_eq_getElem hi'⟩
    have ho : offs[(x.toInt - lo).toNat]? = some ((t : Int) - (pc : Int)) := by
      rw [← Array.getElem?_toList, hT', List.getElem?_map, htt]
      rfl
    exact lv_tableIn hx hb hd h1 h2 ho (by omega) (ks _ t htt (by omega) ad H locs ls hG hT hP hA hS hl)
end XA
end
section
section XH
variable {C : Cx} {cc : ByteArray} {own : String} {nL : Nat} {rm : Room} {rt : Option FieldType} {pc : Nat} {lv : List (Nat × Value)} {st : List Value} {w : Wd} {k n : Nat} {q j ci idx : Nat}
theorem xE_obj {cA : Nat → ClassId} {ad : Nat → Nat} {sh : Nat → Nat × Nat} {g : Sg} (h : (sh q).1 = ci) (hc : ci < 10) : xE cA ad sh g q = .inr (ci, (List.range (NF ci)).map (fun j => fvl ad g (FT ci j) q j)) := by
  unfold xE
  rw [h, if_pos (show ci < 20 by omega)]
theorem xE_int {cA : Nat → ClassId} {ad : Nat → Nat} {sh : Nat → Nat × Nat} {g : Sg} {len : Nat} (h : sh q = (20, len)) : xE cA ad sh g q = .inl (cA 20, len, .inl (g.1 q)) := by
  unfold xE
  rw [h]
  rfl
theorem xE_bool {cA : Nat → ClassId} {ad : Nat → Nat} {sh : Nat → Nat × Nat} {g : Sg} {len : Nat} (h : sh q = (21, len)) : xE cA ad sh g q = .inl (cA 21, len, .inl (g.1 q)) := by
  unfold xE
  rw [h]
  rfl
theorem xE_ref {cA : Nat → ClassId} {ad : Nat → Nat} {sh : Nat → Nat × Nat} {g : Sg} {len : Nat} (h : sh q = (22 + ci, len)) : xE cA ad sh g q = .inl (cA (22 + ci), len, .inr (.inr (.inr (.inr (fun j => (g.2.1 q j).map ad))))) := by
  unfold xE
  rw [h]
  simp only
  rw [if_neg (show ¬ 22 + ci < 20 by omega), if_neg (show ¬ 22 + ci < 22 by omega)]
theorem range_at {α : Type} {f : Nat → α} {N i : Nat} (h : i < N) : ((List.range N).map f)[i]? = some (f i) := by simp [h]
/-- a field link -/
def FL (own : String) (idx ci j : Nat) : Prop := Cond.fieldLink own idx (TTf ci j).1 (TTf ci j).2.1 (TTf ci j).2.2.1 ∈ BIG
theorem x_get (hC : xOk C cc own nL rm rt) (hd : decode cc pc = .ok (.getfield idx, 3)) (hl : FL own idx ci j) (hj : ci < 10 ∧ j < NF ci) (hq : xIn w.1 q ∧ (w.2.1 q).1 = ci) {v : Value} (hv : ∀ ad, fvl ad w.2.2 (FT ci j) q j = xv ad v) (kk : AW C (pc + 3) lv (v :: st) w k n) : AW C pc lv (.ref q :: st) w k n := by
  obtain ⟨p, l, e, R, s, m, args, below, meth, c, D, cA, A, nL', G, Q⟩ := C
  obtain ⟨hx, hb, -, hown, hts, hK, -⟩ := hC
  intro ad H locs ls hG hT hP hA hS hl'
  have he := xW_at (cA := cA) (ad := ad) (w := w) hq.1
  rw [xE_obj hq.2 hj.1] at he
  exact va_get (v := xv ad v) hx hb hts (cl_w hj.1) hown hK.1 hP (q - w.1.1) he (cl_at hj.1) j hj.2 (hts _ hl) (fun _ h => h) (by rw [range_at hj.2, hv]) hd (kk ad H locs ls hG hT hP hA hS hl')
theorem x_getI (hC : xOk C cc own nL rm rt) (hd : decode cc pc = .ok (.getfield idx, 3)) (hl : FL own idx ci j) (hj : ci < 10 ∧ j < NF ci) (hf : FT ci j = 0 ∨ FT ci j = 3) (hq : xIn w.1 q ∧ (w.2.1 q).1 = ci) (kk : AW C (pc + 3) lv (.int (w.2.2.1 q j) :: st) w k n) : AW C pc lv (.ref q :: st) w k n :=
  x_get hC hd hl hj hq (fun ad => by rcases hf with h | h <;> rw [h] <;> rfl) kk
theorem x_getL (hC : xOk C cc own nL rm rt) (hd : decode cc pc = .ok (.getfield idx, 3)) (hl : FL own idx ci j) (hj : ci < 10 ∧ j < NF ci) (hf : FT ci j = 2) (hq : xIn w.1 q ∧ (w.2.1 q).1 = ci) (kk : AW C (pc + 3) lv (.long (w.2.2.2.2 q j) :: st) w k n) : AW C pc lv (.ref q :: st) w k n :=
  x_get hC hd hl hj hq (fun ad => by rw [hf]; rfl) kk
theorem x_getR (hC : xOk C cc own nL rm rt) (hd : decode cc pc = .ok (.getfield idx, 3)) (hl : FL own idx ci j) (hj : ci < 10 ∧ j < NF ci) (hf : FT ci j = 1) (hq : xIn w.1 q ∧ (w.2.1 q).1 = ci) {r : Nat} (hr : w.2.2.2.1 q j = some r) (kk : AW C (pc + 3) lv (.ref r :: st) w k n) : AW C pc lv (.ref q :: st) w k n :=
  x_get hC hd hl hj hq (fun ad => by rw [hf]; show va_re ad (w.2.2.2.1 q j) = _; rw [hr]; rfl) kk
/-- behind a store into a field -/
theorem obj_upd {cA : Nat → ClassId} {ad : Nat → Nat} {g : Nat × Nat} {sh : Nat → Nat × Nat} {a b : Sg} {v : Value} (hq : xIn g q) (hs : (sh q).1 = ci) (hc : ci < 10) (hv : fvl ad b (FT ci j) q j = v) (hself : ∀ i, i ≠ j → fvl ad b (FT ci i) q i = fvl ad a (FT ci i) q i) (ho : ∀ z, z ≠ q → b.1 z = a.1 z ∧ b.2.1 z = a.2.1 z ∧ b.2.2 z = a.2.2 z) : (xW cA ad (g, sh, a)).set (q - g.1) (ad q, .inr (ci, ((List.range (NF ci)).map (fun j => fvl ad a (FT ci j) q j)).set j v)) = xW cA ad (g, sh, b) := by
  refine xW_set hq ?_ (fun z hz => ?_)
  · rw [xE_obj hs hc, set_map (f' := fun i => fvl ad b (FT ci i) q i) hv hself]
  · obtain ⟨h1, h2, h3⟩ := ho z hz
    unfold xE
    have hf : ∀ t i, fvl ad b t z i = fvl ad a t z i := by
      intro t i
      unfold fvl
      rw [h1, h2, h3]
    simp only [hf, h1, h2]
theorem x_putI {g : Nat × Nat} {sh : Nat → Nat × Nat} {a : Sg} (hC : xOk C cc own nL rm rt) (hd : decode cc pc = .ok (.putfield idx, 3)) (hl : FL own idx ci j) (hj : ci < 10 ∧ j < NF ci) (hfin : (TTf ci j).2.2.2 = false) {x : Int32} (hf : FT ci j = 0 ∨ FT ci j = 3) (hn : narrow (TYf ci j) (.int x) = .int x) (hfit : fits (TYf ci j) (.int x) = true) (hq : xIn g q ∧ (sh q).1 = ci) (kk : AW C (pc + 3) lv st (g, sh, up2 a.1 q j x, a.2) k n) : AW C pc lv (.int x :: .ref q :: st) (g, sh, a) k n := by
  obtain ⟨p, l, e, R, s, m, args, below, meth, c, D, cA, A, nL', G, Q⟩ := C
  obtain ⟨hx, hb, -, hown, hts, hK, -⟩ := hC
  intro ad H locs ls hG hT hP hA hS hl'
  have he := xW_at (cA := cA) (ad := ad) (w := (g, sh, a)) hq.1
  rw [xE_obj hq.2 hj.1] at he
  refine va_put (ty := TYf ci j) (v := .int x) hx hb hts (cl_w hj.1) (TYf ci) (cl_ty ci hj.1) (cl_nm ci hj.1) hown hK.1 hP (xD_of hA) hS (q - g.1) he (cl_at hj.1) j hj.2 (hts _ hl) (fun _ h => h) hfin (cl_ty ci hj.1 j hj.2) hn hfit (by simpa using hj.2) hd (fun H1 locs1 hP1 hD1 hS1 => ?_)
  have hu := obj_upd (cA := cA) (ad := ad) (g := g) (sh := sh) (a := a) (b := (up2 a.1 q j x, a.2)) (v := .int x) (j := j) hq.1 hq.2 hj.1 (by rcases hf with h | h <;> rw [h] <;> simp [fvl, up2]) (fun i hi => by unfold fvl; simp [up2, hi]) (fun z hz => ⟨up2_row hz, rfl, rfl⟩)
  rw [hu] at hP1 hD1
  exact kk ad H1 locs1 ls hG hT hP1 (xAd_of hD1) hS1 hl'
theorem x_putL {g : Nat × Nat} {sh : Nat → Nat × Nat} {a : Sg} (hC : xOk C cc own nL rm rt) (hd : decode cc pc = .ok (.putfield idx, 3)) (hl : FL own idx ci j) (hj : ci < 10 ∧ j < NF ci) (hfin : (TTf ci j).2.2.2 = false) {x : Int64} (hf : FT ci j = 2) (hn : narrow (TYf ci j) (.long x) = .long x) (hfit : fits (TYf ci j) (.long x) = true) (hq : xIn g q ∧ (sh q).1 = ci) (kk : AW C (pc + 3) lv st (g, sh, a.1, a.2.1, up2 a.2.2 q j x) k n) : AW C pc lv (.long x :: .ref q :: st) (g, sh, a) k n := by
  obtain ⟨p, l, e, R, s, m, args, below, meth, c, D, cA, A, nL', G, Q⟩ := C
  obtain ⟨hx, hb, -, hown, hts, hK, -⟩ := hC
  intro ad H locs ls hG hT hP hA hS hl'
  have he := xW_at (cA := cA) (ad := ad) (w := (g, sh, a)) hq.1
  rw [xE_obj hq.2 hj.1] at he
  refine va_put (ty := TYf ci j) (v := .long x) hx hb hts (cl_w hj.1) (TYf ci) (cl_ty ci hj.1) (cl_nm ci hj.1) hown hK.1 hP (xD_of hA) hS (q - g.1) he (cl_at hj.1) j hj.2 (hts _ hl) (fun _ h => h) hfin (cl_ty ci hj.1 j hj.2) hn hfit (by simpa using hj.2) hd (fun H1 locs1 hP1 hD1 hS1 => ?_)
  have hu := obj_upd (cA := cA) (ad := ad) (g := g) (sh := sh) (a := a) (b := (a.1, a.2.1, up2 a.2.2 q j x)) (v := .long x) (j := j) hq.1 hq.2 hj.1 (by rw [hf]; simp [fvl, up2]) (fun i hi => by unfold fvl; simp [up2, hi]) (fun z hz => ⟨rfl, rfl, up2_row hz⟩)
  rw [hu] at hP1 hD1
  exact kk ad H1 locs1 ls hG hT hP1 (xAd_of hD1) hS1 hl'
theorem x_iald (hC : xOk C cc own nL rm rt) (hd : decode cc pc = .ok (.iaload, 1)) {len : Nat} (hq : xIn w.1 q ∧ w.2.1 q = (20, len)) {i : Int32} (hi : vp_in i len) (kk : AW C (pc + 1) lv (.int (w.2.2.1 q i.toNatClampNeg) :: st) w k n) : AW C pc lv (.int i :: .ref q :: st) w k n := by
  obtain ⟨p, l, e, R, s, m, args, below, meth, c, D, cA, A, nL', G, Q⟩ := C
  obtain ⟨hx, hb, -, hown, hts, hK, -⟩ := hC
  intro ad H locs ls hG hT hP hA hS hl'
  have he := xW_at (cA := cA) (ad := ad) (w := w) hq.1
  rw [xE_int hq.2] at he
  exact va_iald hx hb hK.1 hP (q - w.1.1) 0 he rfl hi hd (kk ad H locs ls hG hT hP hA hS hl')
theorem x_zald (hC : xOk C cc own nL rm rt) (hd : decode cc pc = .ok (.baload, 1)) {len : Nat} (hq : xIn w.1 q ∧ w.2.1 q = (21, len)) {i : Int32} (hi : vp_in i len) (kk : AW C (pc + 1) lv (.int (w.2.2.1 q i.toNatClampNeg) :: st) w k n) : AW C pc lv (.int i :: .ref q :: st) w k n := by
  obtain ⟨p, l, e, R, s, m, args, below, meth, c, D, cA, A, nL', G, Q⟩ := C
  obtain ⟨hx, hb, -, hown, hts, hK, -⟩ := hC
  intro ad H locs ls hG hT hP hA hS hl'
  have he := xW_at (cA := cA) (ad := ad) (w := w) hq.1
  rw [xE_bool hq.2] at he
  exact va_zald hx hb hK.1 hP (q - w.1.1) 1 he rfl hi hd (kk ad H locs ls hG hT hP hA hS hl')
theorem arr_upd {cA : Nat → ClassId} {ad : Nat → Nat} {g : Nat × Nat} {sh : Nat → Nat × Nat} {a : Sg} {i : Nat} {v : Int32} {z : Nat} (hz : z ≠ q) : xE cA ad sh (up2 a.1 q i v, a.2) z = xE cA ad sh a z := by
  unfold xE
  have h1 : up2 a.1 q i v z = a.1 z := up2_row hz
  have hf : ∀ t b, fvl ad (up2 a.1 q i v, a.2) t z b = fvl ad a t z b := by
    intro t b
    unfold fvl
    simp only [h1]
  simp only [hf, h1]
theorem x_iast {g : Nat × Nat} {sh : Nat → Nat × Nat} {a : Sg} (hC : xOk C cc own nL rm rt) (hd : decode cc pc = .ok (.iastore, 1)) {len : Nat} (hq : xIn g q ∧ sh q = (20, len)) {i x : Int32} (hi : vp_in i len) (kk : AW C (pc + 1) lv st (g, sh, up2 a.1 q i.toNatClampNeg x, a.2) k n) : AW C pc lv (.int x :: .int i :: .ref q :: st) (g, sh, a) k n := by
  obtain ⟨p, l, e, R, s, m, args, below, meth, c, D, cA, A, nL', G, Q⟩ := C
  obtain ⟨hx, hb, -, hown, hts, hK, -⟩ := hC
  intro ad H locs ls hG hT hP hA hS hl'
  have he := xW_at (cA := cA) (ad := ad) (w := (g, sh, a)) hq.1
  rw [xE_int hq.2] at he
  refine va_iast hx hb hK.1 hP (xD_of hA) hS (q - g.1) 0 he rfl hi hd (fun H1 locs1 hP1 hD1 hS1 => ?_)
  have hu := xW_set (cA := cA) (ad := ad) (g := g) (sh := sh) (a := a) (b := (up2 a.1 q i.toNatClampNeg x, a.2)) (q := q) (e := .inl (cA 20, len, .inl (upd (a.1 q) i.toNatClampNeg x))) hq.1 (by rw [xE_int hq.2, ← up2_upd]) (fun z hz => arr_upd (g := g) hz)
  rw [hu] at hP1 hD1
  exact kk ad H1 locs1 ls hG hT hP1 (xAd_of hD1) hS1 hl'
theorem x_zast {g : Nat × Nat} {sh : Nat → Nat × Nat} {a : Sg} (hC : xOk C cc own nL rm rt) (hd : decode cc pc = .ok (.bastore, 1)) {len : Nat} (hq : xIn g q ∧ sh q = (21, len)) {i x y : Int32} (hi : vp_in i len) (hy : vp_nar .boolean x = y) (kk : AW C (pc + 1) lv st (g, sh, up2 a.1 q i.toNatClampNeg y, a.2) k n) : AW C pc lv (.int x :: .int i :: .ref q :: st) (g, sh, a) k n := by
  subst hy
  obtain ⟨p, l, e, R, s, m, args, below, meth, c, D, cA, A, nL', G, Q⟩ := C
  obtain ⟨hx, hb, -, hown, hts, hK, -⟩ := hC
  intro ad H locs ls hG hT hP hA hS hl'
  have he := xW_at (cA := cA) (ad := ad) (w := (g, sh, a)) hq.1
  rw [xE_bool hq.2] at he
  refine va_zast hx hb hK.1 hP (xD_of hA) hS (q - g.1) 1 he rfl hi hd (fun H1 locs1 hP1 hD1 hS1 => ?_)
  have hu := xW_set (cA := cA) (ad := ad) (g := g) (sh := sh) (a := a) (b := (up2 a.1 q i.toNatClampNeg (vp_nar .boolean x), a.2)) (q := q) (e := .inl (cA 21, len, .inl (upd (a.1 q) i.toNatClampNeg (vp_nar .boolean x)))) hq.1 (by rw [xE_bool hq.2, ← up2_upd]) (fun z hz => arr_upd (g := g) hz)
  rw [hu] at hP1 hD1
  exact kk ad H1 locs1 ls hG hT hP1 (xAd_of hD1) hS1 hl'
/-- arrays of references: the kind's place among the array kinds -/
def tA (ci : Nat) : Nat := ci + 1
theorem tA_at (cA : Nat → ClassId) (h : ci = 1 ∨ ci = 2 ∨ ci = 3) : (tyA cA)[tA ci]? = some (cA (22 + ci), .object (RRf ci)) := by
  rcases h with rfl | rfl | rfl <;> rfl
theorem x_aald (hC : xOk C cc own nL rm rt) (hd : decode cc pc = .ok (.aaload, 1)) {len r : Nat} (hc : ci = 1 ∨ ci = 2 ∨ ci = 3) (hq : xIn w.1 q ∧ w.2.1 q = (22 + ci, len)) {i : Int32} (hi : vp_in i len) (hr : w.2.2.2.1 q i.toNatClampNeg = some r) (kk : AW C (pc + 1) lv (.ref r :: st) w k n) : AW C pc lv (.int i :: .ref q :: st) w k n := by
  obtain ⟨p, l, e, R, s, m, args, below, meth, c, D, cA, A, nL', G, Q⟩ := C
  obtain ⟨hx, hb, -, hown, hts, hK, -⟩ := hC
  intro ad H locs ls hG hT hP hA hS hl'
  have he := xW_at (cA := cA) (ad := ad) (w := w) hq.1
  rw [xE_ref hq.2] at he
  refine va_aldq hx hb hK.1 hP (q - w.1.1) (tA ci) he (tA_at cA hc) hi hd ?_
  have hk := kk ad H locs ls hG hT hP hA hS hl'
  simp only [hr]
  exact hk
theorem x_aast {g : Nat × Nat} {sh : Nat → Nat × Nat} {a : Sg} (hC : xOk C cc own nL rm rt) (hd : decode cc pc = .ok (.aastore, 1)) {len r : Nat} (hc : ci = 1 ∨ ci = 2 ∨ ci = 3) (hq : xIn g q ∧ sh q = (22 + ci, len)) (hrr : xIn g r ∧ (sh r).1 = ci) {i : Int32} (hi : vp_in i len) (kk : AW C (pc + 1) lv st (g, sh, a.1, up2 a.2.1 q i.toNatClampNeg (some r), a.2.2) k n) : AW C pc lv (.ref r :: .int i :: .ref q :: st) (g, sh, a) k n := by
  obtain ⟨p, l, e, R, s, m, args, below, meth, c, D, cA, A, nL', G, Q⟩ := C
  obtain ⟨hx, hb, -, hown, hts, hK, -⟩ := hC
  intro ad H locs ls hG hT hP hA hS hl'
  have hcc : ci < 10 := by omega
  have he := xW_at (cA := cA) (ad := ad) (w := (g, sh, a)) hq.1
  rw [xE_ref hq.2] at he
  have he2 := xW_at (cA := cA) (ad := ad) (w := (g, sh, a)) hrr.1
  rw [xE_obj hrr.2 hcc] at he2
  refine va_astq hx hb hK.1 hP (xD_of hA) hS (q - g.1) (tA ci) (r - g.1) ci he (tA_at cA hc) he2 (cl_at hcc) hi hd (fun H1 locs1 hP1 hD1 hS1 => ?_)
  have hu := xW_set (cA := cA) (ad := ad) (g := g) (sh := sh) (a := a) (b := (a.1, up2 a.2.1 q i.toNatClampNeg (some r), a.2.2)) (q := q) (e := .inl (cA (22 + ci), len, .inr (.inr (.inr (.inr (va_up (fun j => (a.2.1 q j).map ad) i.toNatClampNeg (some (ad r)))))))) hq.1 (by
    rw [xE_ref hq.2]
    congr 7
    funext b
    by_cases hb2 : b = i.toNatClampNeg <;> simp [va_up, up2, hb2]) (fun z hz => by
    unfold xE
    have h1 : up2 a.2.1 q i.toNatClampNeg (some r) z = a.2.1 z := up2_row hz
    have hf : ∀ t b, fvl ad (a.1, up2 a.2.1 q i.toNatClampNeg (some r), a.2.2) t z b = fvl ad a t z b := by
      intro t b
      unfold fvl
      simp only [h1]
    simp only [hf, h1])
  rw [hu] at hP1 hD1
  exact kk ad H1 locs1 ls hG hT hP1 (xAd_of hD1) hS1 hl'
end XH
end
section
/-! Contracts of methods that make no cells; calls; ends. -/
/-- what a method's start is: its arguments, the world, the tables -/
def xPc (D : va_G) (cA : Nat → ClassId) (ad : Nat → Nat) (avs : List Value) (w : Wd) (sz : Nat) : Array Value → State → Prop := va_Pc (avs.map (xv ad)) (fun U => U.heap.size = sz ∧ xK D cA U ∧ va_P D CL (xW cA ad w) U.heap ∧ xAd (fun _ => True) ad w.1 ∧ xSt ad (va_A (xW cA ad w) sz) U U.heap)
def xQ0 (D : va_G) (cA : Nat → ClassId) (ad : Nat → Nat) (g : Nat × Nat) (sh : Nat → Nat × Nat) (A : Nat → Prop) (Po : Option Value → Sg → Prop) : Array Value → State → Outcome → State → Prop := fun _ st oc t => (∃ (r : Option Value) (b : Sg), oc = .returned (r.map (xv ad)) ∧ Po r b ∧ va_P D CL (xW cA ad (g, sh, b)) t.heap) ∧ va_F A st t
/-- a method that makes no cells: from this world and these arguments it returns, and its answer and the new contents have Po -/
def MT (y : MethodName) (bytes : ByteArray) (maxL : Nat) (ret : Option FieldType) (rm : Room) (avs : List Value) (g : Nat × Nat) (sh : Nat → Nat × Nat) (a : Sg) (Po : Option Value → Sg → Prop) : Prop :=
  ∀ (l : Launch) (D : va_G) (cA : Nat → ClassId) (ad : Nat → Nat) (sz : Nat), Met l y (Cond.code y bytes maxL ret :: BIG) rm (xPc D cA ad avs (g, sh, a) sz) (xQ0 D cA ad g sh (va_A (xW cA ad (g, sh, a)) sz) Po) 0 0 (va_A (xW cA ad (g, sh, a)) sz)
theorem xPc_blind {D : va_G} {cA : Nat → ClassId} {ad : Nat → Nat} {avs : List Value} {w : Wd} {sz : Nat} : FrameBlind (xPc D cA ad avs w sz) := by
  intro a U g mk h
  obtain ⟨h0, h1, h2, h3, h4, h5⟩ := h
  exact ⟨h0, h1, xK.same (s := U) (U := U.calling g mk a) rfl h2, h3, h4, h5.moved (u := U) (U := U.calling g mk a) (Vm.Alike.refl U.vm)⟩
/-- the context of such a method's walk -/
def xCx (p : Program) (l : Launch) (e : Env) (s : State) (m : MethodId) (args : Array Value) (below : List Frame) (meth : Method) (c : Code) (D : va_G) (cA : Nat → ClassId) (ad : Nat → Nat) (rm : Room) (nL : Nat) (g : Nat × Nat) (sh : Nat → Nat × Nat) (A : Nat → Prop) (Po : Option Value → Sg → Prop) : Cx :=
  (p, l, e, rm, s, m, args, below, meth, c, D, cA, A, nL, (fun ad' => ad' = ad), MQ below (xQ0 D cA ad g sh A Po) args s 0 0 A)
/-- a walk's end is by Po -/
def xEnd (C : Cx) (g : Nat × Nat) (sh : Nat → Nat × Nat) (Po : Option Value → Sg → Prop) : Prop := ∃ p l e s m args below meth c D cA ad rm nL A, C = xCx p l e s m args below meth c D cA ad rm nL g sh A Po
theorem MT.of {y : MethodName} {bytes : ByteArray} {maxL : Nat} {ret : Option FieldType} {rm : Room} {avs : List Value} {g : Nat × Nat} {sh : Nat → Nat × Nat} {a : Sg} {Po : Option Value → Sg → Prop} (hy : plainName y.cls = true) (hn : (lg_sl avs).length ≤ maxL)
    (h : ∀ C : Cx, xOk C bytes y.cls maxL rm ret → xEnd C g sh Po → AW C 0 (lv_args 0 avs) [] (g, sh, a) 0 0) : MT y bytes maxL ret rm avs g sh a Po := by
  intro l D cA ad sz
  refine Met.ofW (cc := bytes) (maxL := maxL) (ret := ret) hy rfl ?_
  intro p e s m args below meth c s₁ B hml hv
  obtain ⟨rfl, hsz, hK, hP, hD, hT⟩ := hv
  subst hsz
  have hts := atoms_spec (ws := Cond.code y bytes maxL ret :: BIG) B.pre
  have hown : s.vm.findClass y.cls = some m.cls := findClass_of_methodNamed B.named
  have hargs : ∀ vs : List Value, lv_args 0 (vs.map (xv ad)) = xl ad (lv_args 0 vs) := by
    have key : ∀ (vs : List Value) (i : Nat), lv_args i (vs.map (xv ad)) = xl ad (lv_args i vs) := by
      intro vs
      induction vs with
      | nil => intro i; rfl
      | cons v vs ih =>
        intro i
        simp only [List.map_cons, lv_args, xl, xv_cat]
        rw [ih]
        rfl
    exact fun vs => key vs 0
  have hlen : (lg_sl (avs.map (xv ad))).length = (lg_sl avs).length := by
    have key : ∀ vs : List Value, (lg_sl (vs.map (xv ad))).length = (lg_sl vs).length := by
      intro vs
      induction vs with
      | nil => rfl
      | cons v vs ih => cases v <;> simp_all [lg_sl, xv, Value.category]
    exact key avs
  have hl := lv_entry (avs.map (xv ad)) (n := maxL) (by rw [hlen]; exact hn)
  rw [lg_entry_eq]
  rw [hargs] at hl
  exact h (xCx p l e s m (avs.map (xv ad)).toArray below meth c D cA ad rm maxL g sh (va_A (xW cA ad (g, sh, a)) s.heap.size) Po) ⟨B.exec, B.bytes, ⟨hml, rfl⟩, hown, fun w hw => hts w (List.mem_cons_of_mem _ hw), hK, fun q h => Or.inr h, B.notSynchronized, rfl, B.returns⟩ ⟨p, l, e, s, m, _, below, meth, c, D, cA, ad, rm, maxL, _, rfl⟩ ad s.heap [] _ rfl hT hP (xAd_w hD (fun i hi _ => va_A.in (xW_at (w := (g, sh, a)) hi))) va_S.rf hl
section XC
variable {C : Cx} {cc : ByteArray} {own : String} {nL : Nat} {rm : Room} {rt : Option FieldType} {pc : Nat} {lv : List (Nat × Value)} {st : List Value} {g : Nat × Nat} {sh : Nat → Nat × Nat} {a : Sg} {Po : Option Value → Sg → Prop}
theorem x_iret (hC : xOk C cc own nL rm (some .int)) (hE : xEnd C g sh Po) (hd : decode cc pc = .ok (.ireturn, 1)) {v : Int32} (h : Po (some (.int v)) a) : AW C pc lv [.int v] (g, sh, a) 0 0 := by
  obtain ⟨p, l, e, s, m, args, below, meth, c, D, cA, ad0, rm', nL', A, rfl⟩ := hE
  obtain ⟨hx, hb, -, -, -, -, -, hlocks, -, hr⟩ := hC
  intro ad H locs ls hG hT hP hA hS hl
  obtain rfl : ad = ad0 := hG
  exact W.iret (v := v) hx hb hr (fun t ht hW => ⟨⟨some (.int v), a, rfl, h, by rw [ht]; exact hP⟩, hS.F ht⟩) hS.2.2 hd hlocks
theorem x_zret (hC : xOk C cc own nL rm (some .boolean)) (hE : xEnd C g sh Po) (hd : decode cc pc = .ok (.ireturn, 1)) {v : Int32} (hv : v = 0 ∨ v = 1) (h : Po (some (.int v)) a) : AW C pc lv [.int v] (g, sh, a) 0 0 := by
  obtain ⟨p, l, e, s, m, args, below, meth, c, D, cA, ad0, rm', nL', A, rfl⟩ := hE
  obtain ⟨hx, hb, -, -, -, -, -, hlocks, -, hr⟩ := hC
  intro ad H locs ls hG hT hP hA hS hl
  obtain rfl : ad = ad0 := hG
  exact W.zret (v := v) hx hb hr (by rcases hv with rfl | rfl <;> rfl) (fun t ht hW => ⟨⟨some (.int v), a, rfl, h, by rw [ht]; exact hP⟩, hS.F ht⟩) hS.2.2 hd hlocks
theorem x_lret (hC : xOk C cc own nL rm (some .long)) (hE : xEnd C g sh Po) (hd : decode cc pc = .ok (.lreturn, 1)) {v : Int64} (h : Po (some (.long v)) a) : AW C pc lv [.long v] (g, sh, a) 0 0 := by
  obtain ⟨p, l, e, s, m, args, below, meth, c, D, cA, ad0, rm', nL', A, rfl⟩ := hE
  obtain ⟨hx, hb, -, -, -, -, -, hlocks, -, hr⟩ := hC
  intro ad H locs ls hG hT hP hA hS hl
  obtain rfl : ad = ad0 := hG
  exact W.lret (v := v) hx hb hr (fun t ht hW => ⟨⟨some (.long v), a, rfl, h, by rw [ht]; exact hP⟩, hS.F ht⟩) hS.2.2 hd hlocks
theorem x_vret (hC : xOk C cc own nL rm none) (hE : xEnd C g sh Po) (hd : decode cc pc = .ok (.return_, 1)) (h : Po none a) : AW C pc lv [] (g, sh, a) 0 0 := by
  obtain ⟨p, l, e, s, m, args, below, meth, c, D, cA, ad0, rm', nL', A, rfl⟩ := hE
  obtain ⟨hx, hb, -, -, -, -, -, hlocks, -, hr⟩ := hC
  intro ad H locs ls hG hT hP hA hS hl
  obtain rfl : ad = ad0 := hG
  exact W.vret hx hb hr (fun t ht hW => ⟨⟨none, a, rfl, h, by rw [ht]; exact hP⟩, hS.F ht⟩) hS.2.2 hd hlocks
theorem x_aret {nm : String} (hC : xOk C cc own nL rm (some (.object nm))) (hE : xEnd C g sh Po) (hd : decode cc pc = .ok (.areturn, 1)) {q : Nat} (h : Po (some (.ref q)) a) : AW C pc lv [.ref q] (g, sh, a) 0 0 := by
  obtain ⟨p, l, e, s, m, args, below, meth, c, D, cA, ad0, rm', nL', A, rfl⟩ := hE
  obtain ⟨hx, hb, -, -, -, -, -, hlocks, -, hr⟩ := hC
  intro ad H locs ls hG hT hP hA hS hl
  obtain rfl : ad = ad0 := hG
  exact W.aret (v := .ref (ad q)) hx hb hr (Or.inl ⟨nm, rfl⟩) (Or.inr ⟨_, rfl⟩) (fun t ht hW => ⟨⟨some (.ref q), a, rfl, h, by rw [ht]; exact hP⟩, hS.F ht⟩) hS.2.2 hd hlocks
/-- a method of an object: what the tables say of it; n: how many arguments -/
def MI (y : MethodName) (ci : Nat) (bytes : ByteArray) (maxL : Nat) (ret : Option FieldType) (n : Nat) : Prop := Cond.instanceMethod y ∈ BIG ∧ Cond.selects y.cls y y ∈ BIG ∧ Cond.initialized y.cls ∈ BIG ∧ Cond.code y bytes maxL ret ∈ BIG ∧ (y.cls = RRf ci ∧ ci < 10) ∧ y.cls ≠ "java/lang/invoke/MethodHandle" ∧ y.cls ≠ "java/lang/invoke/VarHandle" ∧ (parseMethodDescriptor y.desc).map (fun d => d.parameters.length) = some n
def MS (y : MethodName) (bytes : ByteArray) (maxL : Nat) (ret : Option FieldType) (n : Nat) : Prop := Cond.static y ∈ BIG ∧ Cond.initialized y.cls ∈ BIG ∧ Cond.code y bytes maxL ret ∈ BIG ∧ y.cls ≠ "java/lang/invoke/MethodHandle" ∧ y.cls ≠ "java/lang/invoke/VarHandle" ∧ (parseMethodDescriptor y.desc).map (fun d => d.parameters.length) = some n
theorem big_good {w : Cond} (h : w ∈ BIG) : w ∈ BIG ∧ ((w.onTables && w.keeps) = true ∨ ∃ ty, w = .arrayClass ty) := ⟨h, good_of_word (List.mem_filter.mp h).2⟩
theorem big_in {w : Cond} (h : w ∈ BIG) : GoodIn BIG (w :: BIG) := fun x hx => (List.mem_cons.mp hx).elim (fun e => e ▸ big_good h) (fun z => big_good z)
theorem x_back {p : Program} {l : Launch} {e : Env} {R : Room} {s : State} {m : MethodId} {args : Array Value} {below : List Frame} {meth : Method} {c : Code} {H : Heap} {locs : List Loc} {k n : Nat} {Q : State → Prop} {ls : Array Slot} {rest st0 : List Value} {aa : Array Value} {D : va_G} {cA : Nat → ClassId} {ad : Nat → Nat} {A0 A1 : Nat → Prop}
    (hr : va_Run p l e R s m args below meth c H locs k n 0 0 (F0 m pc ls st0) rest (xQ0 D cA ad g sh A1 Po aa) A1) (hS : va_S A0 s.heap H locs) (hA : ∀ q, A1 q → A0 q)
    (kk : ∀ (r : Option Value) (b : Sg) (H1 : Heap) (locs1 : List Loc), Po r b → va_P D CL (xW cA ad (g, sh, b)) H1 → va_S A0 s.heap H1 locs1 → W p l e R s m args below meth c H1 locs1 k n Q (F0 m (pc + 3) ls ((r.map (xv ad)).toList ++ rest))) : W p l e R s m args below meth c H locs k n Q (F0 m pc ls st0) := by
  intro T hT X
  obtain ⟨v, st₀, t, T', L, h0, X', hL, e1, e2, ⟨⟨r, b, hv, hp, hb⟩, hz, hk⟩, st⟩ := hr T hT X
  cases hv
  rw [h0] at hz hk
  obtain ⟨t2, a1, b1⟩ := kk r b T'.heap (locs ++ L) hp (by rw [e1]; exact hb)
    ⟨Nat.le_trans hS.1 (by rw [e1]; exact hz), fun q h1 h2 => by rw [e1, hk q (Nat.lt_of_lt_of_le h1 hS.1) (fun z => h2 (hA q z))]; exact hS.2.1 q h1 h2, fun q hq => by
      rcases List.mem_append.mp hq with h | h
      · exact hS.2.2 q h
      · exact hA _ (hL q h)⟩ T' rfl X'
  exact ⟨t2, st t2 a1, b1⟩
theorem x_pre {s : State} {H : Heap} {locs : List Loc} {D : va_G} {cA : Nat → ClassId} {ad : Nat → Nat} {A : Nat → Prop} {w : Wd} {avs : List Value} (hK : xK D cA s) (hP : va_P D CL (xW cA ad w) H) (hA : xAd A ad w.1) (hS : va_S A s.heap H locs) (hA0 : ∀ q, s.heap.size ≤ q → A q) (hT : xSt ad A s s.heap) : (∀ U : State, U.heap = H → s.WarmedH U.vm → xPc D cA ad avs w H.size (avs.map (xv ad)).toArray U) ∧ ∀ q, va_A (xW cA ad w) H.size q → A q := by
  have hF : ∀ q, va_A (xW cA ad w) H.size q → A q := by
    intro q h
    rcases h with ⟨i, x, h⟩ | h
    · obtain ⟨h1, h2⟩ := xW_of h
      cases h2
      exact hA.2 _ ⟨by omega, by omega⟩
    · exact hA0 q (Nat.le_trans hS.1 h)
  refine ⟨fun U hU hW => ⟨rfl, by rw [hU], hK.moved hW, by rw [hU]; exact hP, ⟨hA.1, fun _ _ => trivial⟩, ?_⟩, hF⟩
  rw [hU]
  exact ((hT.kept hS.2.1).narrow hF).moved hW.alike
theorem cat_map (ad : Nat → Nat) (st : List Value) : ((st.map (xv ad)).map fun v => v.category).sum = (st.map fun v => v.category).sum := by
  rw [List.map_map]
  congr 1
  apply List.map_congr_left
  intro v _
  exact xv_cat ad v
theorem x_callV {y : MethodName} {bytes : ByteArray} {maxL nA ci idx q : Nat} {ret : Option FieldType} {rmy : Room} {avs : List Value} (hC : xOk C cc own nL rm rt) (hd : decode cc pc = .ok (.invokevirtual idx, 3)) (hl : Cond.methodLink own idx y ∈ BIG) (hI : MI y ci bytes maxL ret nA) (hn : avs.length = nA) (hM : MT y bytes maxL ret rmy (.ref q :: avs) g sh a Po) (hq : xIn g q ∧ (sh q).1 = ci) (hc : (st.map fun v => v.category).sum ≤ 8) (hz : rmy.cells = 0 ∧ rmy.slots = 0) (hR : rmy.frames + 1 ≤ rm.frames ∧ 8 + (maxL + 11) + rmy.locals ≤ rm.locals)
    (kk : ∀ (r : Option Value) (b : Sg), Po r b → AW C (pc + 3) lv (r.toList ++ st) (g, sh, b) 0 0) : AW C pc lv (avs.reverse ++ .ref q :: st) (g, sh, a) 0 0 := by
  obtain ⟨p, l, e, R, s, m, args, below, meth, c, D, cA, A, nL', G, Q⟩ := C
  obtain ⟨hx, hb, ⟨hml, hnl⟩, hown, hts, hK, hA0, -, hRR, -⟩ := hC
  subst hRR; subst hnl
  intro ad H locs ls hG hT hP hA hS hl'
  obtain ⟨i1, i2, i3, i4, ⟨i5, i6⟩, i7⟩ := hI
  obtain ⟨hpre, hF⟩ := x_pre (avs := .ref q :: avs) hK hP hA hS hA0 hT
  have hrecv := va_recv hK.1 hP (cl_at i6) (by have he := xW_at (cA := cA) (ad := ad) (w := (g, sh, a)) hq.1; rw [xE_obj hq.2 i6] at he; exact he)
  have hG1 : GoodIn BIG (wsV own idx y.cls y (Cond.code y bytes maxL ret :: BIG)) := by
    intro w hw
    simp only [wsV, List.cons_append, List.nil_append, List.mem_cons] at hw
    rcases hw with rfl | rfl | rfl | rfl | rfl | hw
    · exact big_good hl
    · exact big_good i1
    · exact big_good i2
    · exact big_good i3
    · exact big_good i4
    · exact big_good hw
  refine x_back (va_runV (As := avs.map (xv ad)) (rest := st.map (xv ad)) (C := y.cls) ⟨hx, hb, hml, hown, hts⟩ (hM l D cA ad H.size) (cwV (C := y.cls) nA hts hG1 rfl hz.1 hz.2 ⟨rfl, i7⟩ hR) ⟨xPc_blind, by rw [i5]; exact hrecv, fun U hU hW => hpre U hU hW⟩ rfl (by rw [List.length_map]; exact hn) hl'.1 ?_ ?_ hd ⟨Nat.zero_le _, Nat.zero_le _⟩) hS hF (fun r b H1 locs1 hp hP1 hS1 => ?_)
  · simp [xv, List.map_append, List.map_reverse]
  · exact lv_room (by rw [cat_map]; exact hc)
  · have hk := kk r b hp ad H1 locs1 ls hG hT hP1 hA hS1 hl'
    rw [List.map_append] at hk
    cases r <;> exact hk
theorem x_callS {y : MethodName} {bytes : ByteArray} {maxL nA idx : Nat} {ret : Option FieldType} {rmy : Room} {avs : List Value} (hC : xOk C cc own nL rm rt) (hd : decode cc pc = .ok (.invokestatic idx, 3)) (hl : Cond.methodLink own idx y ∈ BIG) (hI : MS y bytes maxL ret nA) (hn : avs.length = nA) (hM : MT y bytes maxL ret rmy avs g sh a Po) (hc : (st.map fun v => v.category).sum ≤ 8) (hz : rmy.cells = 0 ∧ rmy.slots = 0) (hR : rmy.frames + 1 ≤ rm.frames ∧ 8 + (maxL + 11) + rmy.locals ≤ rm.locals)
    (kk : ∀ (r : Option Value) (b : Sg), Po r b → AW C (pc + 3) lv (r.toList ++ st) (g, sh, b) 0 0) : AW C pc lv (avs.reverse ++ st) (g, sh, a) 0 0 := by
  obtain ⟨p, l, e, R, s, m, args, below, meth, c, D, cA, A, nL', G, Q⟩ := C
  obtain ⟨hx, hb, ⟨hml, hnl⟩, hown, hts, hK, hA0, -, hRR, -⟩ := hC
  subst hRR; subst hnl
  intro ad H locs ls hG hT hP hA hS hl'
  obtain ⟨i1, i3, i4, i7⟩ := hI
  obtain ⟨hpre, hF⟩ := x_pre (avs := avs) hK hP hA hS hA0 hT
  have hG1 : GoodIn BIG (va_wsS own idx y (Cond.code y bytes maxL ret :: BIG)) := by
    intro w hw
    simp only [va_wsS, List.cons_append, List.nil_append, List.mem_cons] at hw
    rcases hw with rfl | rfl | rfl | rfl | hw
    · exact big_good hl
    · exact big_good i1
    · exact big_good i3
    · exact big_good i4
    · exact big_good hw
  refine x_back (va_runS (As := avs.map (xv ad)) (rest := st.map (xv ad)) ⟨hx, hb, hml, hown, hts⟩ (hM l D cA ad H.size) (va_cwS nA hts hG1 rfl hz.1 hz.2 i7 hR) ⟨xPc_blind, fun U hU hW => hpre U hU hW⟩ rfl (by rw [List.length_map]; exact hn) hl'.1 ?_ ?_ hd ⟨Nat.zero_le _, Nat.zero_le _⟩) hS hF (fun r b H1 locs1 hp hP1 hS1 => ?_)
  · simp [List.map_append, List.map_reverse]
  · exact lv_room (by rw [cat_map]; exact hc)
  · have hk := kk r b hp ad H1 locs1 ls hG hT hP1 hA hS1 hl'
    rw [List.map_append] at hk
    cases r <;> exact hk
/-- a static method of a nest mate -/
theorem x_callSN {y : MethodName} {bytes : ByteArray} {maxL nA idx : Nat} {host : String} {ret : Option FieldType} {rmy : Room} {avs : List Value} (hC : xOk C cc own nL rm rt) (hd : decode cc pc = .ok (.invokestatic idx, 3)) (hl : Cond.methodLinkNest own idx y host ∈ lw_tbl.filter isNest) (hI : MS y bytes maxL ret nA) (hn : avs.length = nA) (hM : MT y bytes maxL ret rmy avs g sh a Po) (hc : (st.map fun v => v.category).sum ≤ 8) (hz : rmy.cells = 0 ∧ rmy.slots = 0) (hR : rmy.frames + 1 ≤ rm.frames ∧ 8 + (maxL + 11) + rmy.locals ≤ rm.locals)
    (kk : ∀ (r : Option Value) (b : Sg), Po r b → AW C (pc + 3) lv (r.toList ++ st) (g, sh, b) 0 0) : AW C pc lv (avs.reverse ++ st) (g, sh, a) 0 0 := by
  obtain ⟨p, l, e, R, s, m, args, below, meth, c, D, cA, A, nL', G, Q⟩ := C
  obtain ⟨hx, hb, ⟨hml, hnl⟩, hown, hts, hK, hA0, -, hRR, -⟩ := hC
  subst hRR; subst hnl
  intro ad H locs ls hG hT hP hA hS hl'
  obtain ⟨i1, i3, i4, i7⟩ := hI
  obtain ⟨hpre, hF⟩ := x_pre (avs := avs) hK hP hA hS hA0 hT
  refine x_back (va_runSN (As := avs.map (xv ad)) (rest := st.map (xv ad)) ⟨hx, hb, hml, hown, hts⟩ (hM l D cA ad H.size) ⟨va_cnB nA hts (big_in i4) rfl hz.1 hz.2 (hK.2.1 _ hl) (hts _ i3) i7 hR, hts _ i1, trivial⟩ ⟨xPc_blind, fun U hU hW => hpre U hU hW⟩ rfl (by rw [List.length_map]; exact hn) hl'.1 ?_ ?_ hd ⟨Nat.zero_le _, Nat.zero_le _⟩) hS hF (fun r b H1 locs1 hp hP1 hS1 => ?_)
  · simp [List.map_append, List.map_reverse]
  · exact lv_room (by rw [cat_map]; exact hc)
  · have hk := kk r b hp ad H1 locs1 ls hG hT hP1 hA hS1 hl'
    rw [List.map_append] at hk
    cases r <;> exact hk
end XC
end
section
def SHL : List (Nat × Nat) := [(8, 0), (5, 0), (20, 9), (0, 0), (7, 0), (6, 0), (24, 5), (2, 0), (20, 8), (20, 8), (20, 8), (20, 8), (2, 0), (20, 8), (20, 8), (20, 8), (20, 8), (2, 0), (20, 8), (20, 8), (20, 8), (20, 8), (2, 0), (20, 8), (20, 8), (20, 8), (20, 8), (2, 0), (20, 8), (20, 8), (20, 8), (20, 8), (25, 4), (23, 4), (3, 0), (20, 24), (20, 24), (20, 16), (20, 16), (20, 16), (21, 16), (1, 0), (4, 0), (20, 10), (20, 16), (3, 0), (20, 24), (20, 24), (20, 16), (20, 16), (20, 16), (21, 16), (1, 0), (4, 0), (20, 10), (20, 16), (3, 0), (20, 24), (20, 24), (20, 16), (20, 16), (20, 16), (21, 16), (1, 0), (4, 0), (20, 10), (20, 16), (3, 0), (20, 24), (20, 24), (20, 16), (20, 16), (20, 16), (21, 16), (1, 0), (4, 0), (20, 10), (20, 16), (99, 0), (99, 0), (99, 0), (99, 0), (99, 0), (99, 0), (99, 0), (99, 0), (99, 0), (99, 0), (99, 0), (99, 0), (99, 0), (99, 0), (99, 0), (99, 0), (99, 0), (99, 0), (99, 0), (99, 0), (99, 0), (99, 0), (9, 0), (20, 9), (20, 7), (20, 4), (20, 4), (20, 4), (20, 4), (20, 4), (20, 4), (20, 4), (21, 4), (21, 4), (21, 4), (20, 4), (20, 4), (20, 96), (20, 96), (20, 256), (20, 256), (20, 256), (21, 256), (21, 4), (20, 4), (20, 4), (20, 4), (20, 4), (20, 4), (20, 4), (20, 4), (20, 4), (20, 256), (20, 4), (20, 40), (20, 128), (20, 512), (20, 8), (20, 8)]
def HRL : List (List Nat) := [[1, 3, 4, 5, 32, 33], [2, 0], [], [], [], [4, 6, 0], [7, 12, 17, 22, 27], [0, 0, 0, 0, 0, 0, 0, 0, 8, 9, 10, 11], [], [], [], [], [0, 0, 0, 0, 0, 0, 0, 0, 13, 14, 15, 16], [], [], [], [], [0, 0, 0, 0, 0, 0, 0, 0, 18, 19, 20, 21], [], [], [], [], [0, 0, 0, 0, 0, 0, 0, 0, 23, 24, 25, 26], [], [], [], [], [0, 0, 0, 0, 0, 0, 0, 0, 28, 29, 30, 31], [], [], [], [], [34, 45, 56, 67], [41, 52, 63, 74], [4, 0, 0, 0, 0, 0, 0, 0, 0, 0, 0, 35, 36, 37, 38, 39, 40], [], [], [], [], [], [], [4, 42, 0, 0, 0, 0, 0, 0, 0, 0, 0, 44], [43, 0], [], [], [4, 0, 0, 0, 0, 0, 0, 0, 0, 0, 0, 46, 47, 48, 49, 50, 51], [], [], [], [], [], [], [4, 53, 0, 0, 0, 0, 0, 0, 0, 0, 0, 55], [54, 0], [], [], [4, 0, 0, 0, 0, 0, 0, 0, 0, 0, 0, 57, 58, 59, 60, 61, 62], [], [], [], [], [], [], [4, 64, 0, 0, 0, 0, 0, 0, 0, 0, 0, 66], [65, 0], [], [], [4, 0, 0, 0, 0, 0, 0, 0, 0, 0, 0, 68, 69, 70, 71, 72, 73], [], [], [], [], [], [], [4, 75, 0, 0, 0, 0, 0, 0, 0, 0, 0, 77], [76, 0], [], [], [], [], [], [], [], [], [], [], [], [], [], [], [], [], [], [], [], [], [], [], [], [], [0, 0, 0, 0, 0, 0, 0, 101, 102, 103, 104, 105, 106, 107, 108, 109, 110, 111, 112, 113, 114, 115, 116, 117, 118, 119, 120, 121, 122, 123, 124, 125, 126, 127, 128, 129, 130, 131, 132, 0, 133, 134, 0, 0, 0, 0, 135, 136, 0], [], [], [], [], [], [], [], [], [], [], [], [], [], [], [], [], [], [], [], [], [], [], [], [], [], [], [], [], [], [], [], [], [], [], [], []]
def SH (q : Nat) : Nat × Nat := SHL.getD q (99, 0)
def HR (q j : Nat) : Nat := (HRL.getD q []).getD j 0
abbrev gC : Nat × Nat := (0, 78)
abbrev gM : Nat × Nat := (100, 37)
/-- contents of a fixed world: whole numbers; which letter stands at which place; the reference's long -/
abbrev HP : Type := (Nat → Nat → Int32) × (Nat → Nat) × Int64
def emb (h : HP) : Sg := (h.1, (fun q j => if q = 6 then some (h.2.1 j) else some (HR q j)), (fun q j => if q = 100 ∧ j = 48 then h.2.2 else 0))
def Ty (g : Nat × Nat) (q k len : Nat) : Prop := xIn g q ∧ SH q = (k, len)
abbrev SW (C : Cx) (g : Nat × Nat) (pc : Nat) (lv : List (Nat × Value)) (st : List Value) (h : HP) : Prop := AW C pc lv st (g, SH, emb h) 0 0
def si (h : HP) (q j : Nat) (x : Int32) : HP := (up2 h.1 q j x, h.2)
def sr (h : HP) (i r : Nat) : HP := (h.1, va_up h.2.1 i r, h.2.2)
def sl (h : HP) (x : Int64) : HP := (h.1, h.2.1, x)
theorem emb_si (h : HP) (q j : Nat) (x : Int32) : emb (si h q j x) = (up2 (emb h).1 q j x, (emb h).2) := rfl
theorem lm {lv : List (Nat × Value)} {x : Nat × Value} (i : Nat) (h : lv[i]? = some x) : x ∈ lv := List.mem_of_getElem? h
theorem x_subk {C : Cx} {pc : Nat} {lv lv' : List (Nat × Value)} {st : List Value} {w : Wd} {k n : Nat} (ks : List Nat) (h : lv_pick lv ks = lv') (kk : AW C pc lv' st w k n) : AW C pc lv st w k n := x_sub (fun q hq => by
  rw [← h] at hq
  obtain ⟨i, -, hi⟩ := List.mem_filterMap.mp hq
  exact List.mem_of_getElem? hi) kk
def FK (own : String) (idx ci j t : Nat) : Prop := FL own idx ci j ∧ (ci < 10 ∧ j < NF ci) ∧ FT ci j = t
def Lp1 {A : Type} (F : (A → Prop) → A → Prop) (a : A) : Prop := ∀ X : A → Prop, (∀ a, F X a → X a) → X a
def Lp2 {A B : Type} (F : (A → B → Prop) → A → B → Prop) (a : A) (b : B) : Prop := ∀ X : A → B → Prop, (∀ a b, F X a b → X a b) → X a b
def Lp3 {A B C : Type} (F : (A → B → C → Prop) → A → B → C → Prop) (a : A) (b : B) (c : C) : Prop := ∀ X : A → B → C → Prop, (∀ a b c, F X a b c → X a b c) → X a b c
def Lp4 {A B C D : Type} (F : (A → B → C → D → Prop) → A → B → C → D → Prop) (a : A) (b : B) (c : C) (d : D) : Prop := ∀ X : A → B → C → D → Prop, (∀ a b c d, F X a b c d → X a b c d) → X a b c d
def Lp5 {A B C D E : Type} (F : (A → B → C → D → E → Prop) → A → B → C → D → E → Prop) (a : A) (b : B) (c : C) (d : D) (e : E) : Prop := ∀ X : A → B → C → D → E → Prop, (∀ a b c d e, F X a b c d e → X a b c d e) → X a b c d e
def pI (Q : Int32 → HP → Prop) : Option Value → Sg → Prop := fun r b => ∃ (h : HP) (v : Int32), b = emb h ∧ r = some (.int v) ∧ Q v h
def pL (Q : Int64 → HP → Prop) : Option Value → Sg → Prop := fun r b => ∃ (h : HP) (v : Int64), b = emb h ∧ r = some (.long v) ∧ Q v h
def pR (Q : Nat → HP → Prop) : Option Value → Sg → Prop := fun r b => ∃ (h : HP) (v : Nat), b = emb h ∧ r = some (.ref v) ∧ Q v h
def pV (Q : HP → Prop) : Option Value → Sg → Prop := fun r b => ∃ h : HP, b = emb h ∧ r = none ∧ Q h
section XS
variable {C : Cx} {cc : ByteArray} {own : String} {nL : Nat} {rm : Room} {rt : Option FieldType} {pc : Nat} {lv : List (Nat × Value)} {st : List Value} {h : HP} {g : Nat × Nat} {q j ci idx : Nat}
theorem s_getI (hC : xOk C cc own nL rm rt) (hd : decode cc pc = .ok (.getfield idx, 3)) (hl : FK own idx ci j 0) (hq : Ty g q ci 0) (kk : SW C g (pc + 3) lv (.int (h.1 q j) :: st) h) : SW C g pc lv (.ref q :: st) h := x_getI hC hd hl.1 hl.2.1 (Or.inl hl.2.2) ⟨hq.1, congrArg Prod.fst hq.2⟩ kk
theorem s_getZ (hC : xOk C cc own nL rm rt) (hd : decode cc pc = .ok (.getfield idx, 3)) (hl : FK own idx ci j 3) (hq : Ty g q ci 0) (kk : SW C g (pc + 3) lv (.int (h.1 q j) :: st) h) : SW C g pc lv (.ref q :: st) h := x_getI hC hd hl.1 hl.2.1 (Or.inr hl.2.2) ⟨hq.1, congrArg Prod.fst hq.2⟩ kk
theorem s_getL (hC : xOk C cc own nL rm rt) (hd : decode cc pc = .ok (.getfield idx, 3)) (hl : FK own idx 9 48 2) (hq : Ty g 100 9 0) (kk : SW C g (pc + 3) lv (.long h.2.2 :: st) h) : SW C g pc lv (.ref 100 :: st) h := x_getL hC hd hl.1 hl.2.1 hl.2.2 ⟨hq.1, congrArg Prod.fst hq.2⟩ kk
theorem s_getR (hC : xOk C cc own nL rm rt) (hd : decode cc pc = .ok (.getfield idx, 3)) (hl : FK own idx ci j 1) (hq : Ty g q ci 0) {r : Nat} (hr : HR q j = r) (kk : SW C g (pc + 3) lv (.ref r :: st) h) : SW C g pc lv (.ref q :: st) h := by
  have hne : q ≠ 6 := by
    rintro rfl
    have h1 := congrArg Prod.fst hq.2
    have h2 := hl.2.1.1
    have h3 : (SH 6).1 = 24 := by decide +kernel
    rw [h3] at h1
    simp only at h1
    omega
  exact x_getR hC hd hl.1 hl.2.1 hl.2.2 ⟨hq.1, congrArg Prod.fst hq.2⟩ (by show (if q = 6 then _ else _) = _; rw [if_neg hne, hr]) kk
theorem s_putI (hC : xOk C cc own nL rm rt) (hd : decode cc pc = .ok (.putfield idx, 3)) (hl : FK own idx ci j 0) (ht : TYf ci j = .int) (hfin : (TTf ci j).2.2.2 = false) {x : Int32} (hq : Ty g q ci 0) (kk : SW C g (pc + 3) lv st (si h q j x)) : SW C g pc lv (.int x :: .ref q :: st) h := x_putI hC hd hl.1 hl.2.1 hfin (Or.inl hl.2.2) (by rw [ht]; exact vp_nar_int x) (by rw [ht]; rfl) ⟨hq.1, congrArg Prod.fst hq.2⟩ kk
theorem s_putZ (hC : xOk C cc own nL rm rt) (hd : decode cc pc = .ok (.putfield idx, 3)) (hl : FK own idx ci j 3) (ht : TYf ci j = .boolean) (hfin : (TTf ci j).2.2.2 = false) {x : Int32} (hx : x = 0 ∨ x = 1) (hq : Ty g q ci 0) (kk : SW C g (pc + 3) lv st (si h q j x)) : SW C g pc lv (.int x :: .ref q :: st) h := x_putI hC hd hl.1 hl.2.1 hfin (Or.inr hl.2.2) (by rw [ht]; rcases hx with rfl | rfl <;> rfl) (by rw [ht]; rcases hx with rfl | rfl <;> rfl) ⟨hq.1, congrArg Prod.fst hq.2⟩ kk
theorem s_putL (hC : xOk C cc own nL rm rt) (hd : decode cc pc = .ok (.putfield idx, 3)) (hl : FK own idx 9 48 2) {x : Int64} (hq : Ty g 100 9 0) (kk : SW C g (pc + 3) lv st (sl h x)) : SW C g pc lv (.long x :: .ref 100 :: st) h := by
  refine x_putL hC hd hl.1 hl.2.1 rfl hl.2.2 rfl rfl ⟨hq.1, congrArg Prod.fst hq.2⟩ ?_
  have e : ((emb h).1, (emb h).2.1, up2 (emb h).2.2 100 48 x) = emb (sl h x) := by
    refine congrArg (fun z => ((emb h).1, (emb h).2.1, z)) ?_
    funext a b
    by_cases hab : a = 100 ∧ b = 48 <;> simp [up2, emb, sl, hab]
  rw [e]
  exact kk
theorem s_iald (hC : xOk C cc own nL rm rt) (hd : decode cc pc = .ok (.iaload, 1)) {len : Nat} (hq : Ty g q 20 len) {i : Int32} (hi : vp_in i len) (kk : SW C g (pc + 1) lv (.int (h.1 q i.toNatClampNeg) :: st) h) : SW C g pc lv (.int i :: .ref q :: st) h := x_iald hC hd ⟨hq.1, hq.2⟩ hi kk
theorem s_zald (hC : xOk C cc own nL rm rt) (hd : decode cc pc = .ok (.baload, 1)) {len : Nat} (hq : Ty g q 21 len) {i : Int32} (hi : vp_in i len) (kk : SW C g (pc + 1) lv (.int (h.1 q i.toNatClampNeg) :: st) h) : SW C g pc lv (.int i :: .ref q :: st) h := x_zald hC hd ⟨hq.1, hq.2⟩ hi kk
theorem s_iast (hC : xOk C cc own nL rm rt) (hd : decode cc pc = .ok (.iastore, 1)) {len : Nat} (hq : Ty g q 20 len) {i x : Int32} (hi : vp_in i len) (kk : SW C g (pc + 1) lv st (si h q i.toNatClampNeg x)) : SW C g pc lv (.int x :: .int i :: .ref q :: st) h := x_iast hC hd ⟨hq.1, hq.2⟩ hi kk
theorem s_zast (hC : xOk C cc own nL rm rt) (hd : decode cc pc = .ok (.bastore, 1)) {len : Nat} (hq : Ty g q 21 len) {i x y : Int32} (hi : vp_in i len) (hy : vp_nar .boolean x = y) (kk : SW C g (pc + 1) lv st (si h q i.toNatClampNeg y)) : SW C g pc lv (.int x :: .int i :: .ref q :: st) h := x_zast hC hd ⟨hq.1, hq.2⟩ hi hy kk
theorem s_aald (hC : xOk C cc own nL rm rt) (hd : decode cc pc = .ok (.aaload, 1)) {len r : Nat} (hc : ci = 1 ∨ ci = 2 ∨ ci = 3) (hne : q ≠ 6) (hq : Ty g q (22 + ci) len) {i : Int32} (hi : vp_in i len) (hr : HR q i.toNatClampNeg = r) (kk : SW C g (pc + 1) lv (.ref r :: st) h) : SW C g pc lv (.int i :: .ref q :: st) h := x_aald hC hd hc ⟨hq.1, hq.2⟩ hi (by show (if q = 6 then _ else _) = _; rw [if_neg hne, hr]) kk
theorem s_aaldL (hC : xOk C cc own nL rm rt) (hd : decode cc pc = .ok (.aaload, 1)) (hq : Ty g 6 (22 + 2) 5) {i : Int32} (hi : vp_in i 5) (kk : SW C g (pc + 1) lv (.ref (h.2.1 i.toNatClampNeg) :: st) h) : SW C g pc lv (.int i :: .ref 6 :: st) h := x_aald hC hd (by decide) ⟨hq.1, hq.2⟩ hi rfl kk
theorem s_aastL (hC : xOk C cc own nL rm rt) (hd : decode cc pc = .ok (.aastore, 1)) (hq : Ty g 6 (22 + 2) 5) {i : Int32} {r : Nat} (hr : Ty g r 2 0) (hi : vp_in i 5) (kk : SW C g (pc + 1) lv st (sr h i.toNatClampNeg r)) : SW C g pc lv (.ref r :: .int i :: .ref 6 :: st) h := by
  refine x_aast hC hd (ci := 2) (by decide) ⟨hq.1, hq.2⟩ ⟨hr.1, congrArg Prod.fst hr.2⟩ hi ?_
  have e : ((emb h).1, up2 (emb h).2.1 6 i.toNatClampNeg (some r), (emb h).2.2) = emb (sr h i.toNatClampNeg r) := by
    refine congrArg (fun z => ((emb h).1, z, (emb h).2.2)) ?_
    funext a b
    by_cases ha : a = 6 <;> by_cases hb : b = i.toNatClampNeg <;> simp [up2, emb, sr, va_up, ha, hb]
  rw [e]
  exact kk
def lowI (i : Nat) : Int32 := ([49, 43, 48, 42, 49, 58, 49] : List Int32).getD i 0
def highI (i : Nat) : Int32 := ([57, 43, 57, 42, 57, 58, 56] : List Int32).getD i 0
theorem x_gets900 {w : Wd} {k n : Nat} (hC : xOk C cc own nL rm rt) (hd : decode cc pc = .ok (.getstatic idx, 3)) (hl : Cond.fieldLink own idx RX5 "LOWEST" "[I" ∈ BIG) (kk : AW C (pc + 3) lv (.ref 900 :: st) w k n) : AW C pc lv st w k n := by
  obtain ⟨p, l, e, R, s, m, args, below, meth, c, D, cA, A, nL', G, Q⟩ := C
  obtain ⟨hx, hb, -, hown, hts, -⟩ := hC
  intro ad H locs ls hG hT hP hA hS hl'
  exact va_gets hx hb hT.1.1 hS hown (hts _ hl) (fun _ h => h) hd (kk ad H locs ls hG hT hP hA hS hl')
theorem x_ti900 {w : Wd} {k n : Nat} (hC : xOk C cc own nL rm rt) (hd : decode cc pc = .ok (.iaload, 1)) {i : Int32} (hi : vp_in i 7) (kk : AW C (pc + 1) lv (.int (lowI i.toNatClampNeg) :: st) w k n) : AW C pc lv (.int i :: .ref 900 :: st) w k n := by
  obtain ⟨p, l, e, R, s, m, args, below, meth, c, D, cA, A, nL', G, Q⟩ := C
  obtain ⟨hx, hb, -⟩ := hC
  intro ad H locs ls hG hT hP hA hS hl'
  exact va_ti hx hb hT.1.2 hS hi rfl hd (kk ad H locs ls hG hT hP hA hS hl')
theorem x_tlen900 {w : Wd} {k n : Nat} (hC : xOk C cc own nL rm rt) (hd : decode cc pc = .ok (.arraylength, 1)) (kk : AW C (pc + 1) lv (.int 7 :: st) w k n) : AW C pc lv (.ref 900 :: st) w k n := by
  obtain ⟨p, l, e, R, s, m, args, below, meth, c, D, cA, A, nL', G, Q⟩ := C
  obtain ⟨hx, hb, -⟩ := hC
  intro ad H locs ls hG hT hP hA hS hl'
  exact va_tlen hx hb hT.1.2 hS (by decide) hd (kk ad H locs ls hG hT hP hA hS hl')
theorem x_gets901 {w : Wd} {k n : Nat} (hC : xOk C cc own nL rm rt) (hd : decode cc pc = .ok (.getstatic idx, 3)) (hl : Cond.fieldLink own idx RX5 "HIGHEST" "[I" ∈ BIG) (kk : AW C (pc + 3) lv (.ref 901 :: st) w k n) : AW C pc lv st w k n := by
  obtain ⟨p, l, e, R, s, m, args, below, meth, c, D, cA, A, nL', G, Q⟩ := C
  obtain ⟨hx, hb, -, hown, hts, -⟩ := hC
  intro ad H locs ls hG hT hP hA hS hl'
  exact va_gets hx hb hT.2.1 hS hown (hts _ hl) (fun _ h => h) hd (kk ad H locs ls hG hT hP hA hS hl')
theorem x_ti901 {w : Wd} {k n : Nat} (hC : xOk C cc own nL rm rt) (hd : decode cc pc = .ok (.iaload, 1)) {i : Int32} (hi : vp_in i 7) (kk : AW C (pc + 1) lv (.int (highI i.toNatClampNeg) :: st) w k n) : AW C pc lv (.int i :: .ref 901 :: st) w k n := by
  obtain ⟨p, l, e, R, s, m, args, below, meth, c, D, cA, A, nL', G, Q⟩ := C
  obtain ⟨hx, hb, -⟩ := hC
  intro ad H locs ls hG hT hP hA hS hl'
  exact va_ti hx hb hT.2.2 hS hi rfl hd (kk ad H locs ls hG hT hP hA hS hl')
theorem x_tlen901 {w : Wd} {k n : Nat} (hC : xOk C cc own nL rm rt) (hd : decode cc pc = .ok (.arraylength, 1)) (kk : AW C (pc + 1) lv (.int 7 :: st) w k n) : AW C pc lv (.ref 901 :: st) w k n := by
  obtain ⟨p, l, e, R, s, m, args, below, meth, c, D, cA, A, nL', G, Q⟩ := C
  obtain ⟨hx, hb, -⟩ := hC
  intro ad H locs ls hG hT hP hA hS hl'
  exact va_tlen hx hb hT.2.2 hS (by decide) hd (kk ad H locs ls hG hT hP hA hS hl')
theorem x_mmin {w : Wd} {k n : Nat} (hC : xOk C cc own nL rm rt) (hd : decode cc pc = .ok (.invokestatic idx, 3)) (hl : Cond.methodLink own idx Lib.Math.min.name ∈ BIG) (hs : Cond.static Lib.Math.min.name ∈ BIG) (hi : Cond.initialized "java/lang/Math" ∈ BIG) (hcd : Cond.code Lib.Math.min.name Lib.Math.min.code 2 (some .int) ∈ BIG) (hf : 1 ≤ rm.frames) (hlo : (st.map fun v => v.category).sum + 13 ≤ rm.locals) (hk : k ≤ rm.cells) (hn : n ≤ rm.slots) {x y : Int32} (kk : AW C (pc + 3) lv (.int (if y < x then y else x) :: st) w k n) : AW C pc lv (.int y :: .int x :: st) w k n := by
  obtain ⟨p, l, e, R, s, m, args, below, meth, c, D, cA, A, nL', G, Q⟩ := C
  obtain ⟨hx, hb, ⟨hml, hnl⟩, hown, hts, -, -, -, hRR, -⟩ := hC
  subst hRR; subst hnl
  intro ad H locs ls hG hT hP hA hS hl'
  exact va_mmin hx hb (by rw [hml]; exact hl'.1.symm) hown (hts _ hl) (hts _ hs) (hts _ hi) (hts _ hcd) hf (by rw [cat_map]; exact hlo) hk hn hd (kk ad H locs ls hG hT hP hA hS hl')
theorem x_ldc2 {w : Wd} {k n : Nat} (hC : xOk C cc own nL rm rt) {v : Int64} (hd : decode cc pc = .ok (.ldc2_w idx, 3)) (hl : Cond.constantLong own idx v ∈ BIG) (kk : AW C (pc + 3) lv (.long v :: st) w k n) : AW C pc lv st w k n := by
  obtain ⟨p, l, e, R, s, m, args, below, meth, c, D, cA, A, nL', G, Q⟩ := C
  obtain ⟨hx, hb, -, hown, hts, -⟩ := hC
  intro ad H locs ls hG hT hP hA hS hl'
  exact lv_ldc2 hx hb hown (hts _ hl) hd (kk ad H locs ls hG hT hP hA hS hl')
theorem s_callVi {y : MethodName} {bytes : ByteArray} {maxL nA : Nat} {ret : Option FieldType} {rmy : Room} {avs : List Value} {Qq : Int32 → HP → Prop} (hC : xOk C cc own nL rm rt) (hd : decode cc pc = .ok (.invokevirtual idx, 3)) (hl : Cond.methodLink own idx y ∈ BIG) (hI : MI y ci bytes maxL ret nA) (hq : Ty g q ci 0) (hn : avs.length = nA) (hM : MT y bytes maxL ret rmy (.ref q :: avs) g SH (emb h) (pI Qq)) (hc : (st.map fun v => v.category).sum ≤ 8) (hz : rmy.cells = 0 ∧ rmy.slots = 0) (hR : rmy.frames + 1 ≤ rm.frames ∧ 8 + (maxL + 11) + rmy.locals ≤ rm.locals) (kk : ∀ (v : Int32) (h1 : HP), Qq v h1 → SW C g (pc + 3) lv (.int v :: st) h1) : SW C g pc lv (avs.reverse ++ .ref q :: st) h :=
  x_callV hC hd hl hI hn hM ⟨hq.1, congrArg Prod.fst hq.2⟩ hc hz hR (fun r b hp => by obtain ⟨h1, v, rfl, rfl, hQ⟩ := hp; exact kk v h1 hQ)
theorem s_callVl {y : MethodName} {bytes : ByteArray} {maxL nA : Nat} {ret : Option FieldType} {rmy : Room} {avs : List Value} {Qq : Int64 → HP → Prop} (hC : xOk C cc own nL rm rt) (hd : decode cc pc = .ok (.invokevirtual idx, 3)) (hl : Cond.methodLink own idx y ∈ BIG) (hI : MI y ci bytes maxL ret nA) (hq : Ty g q ci 0) (hn : avs.length = nA) (hM : MT y bytes maxL ret rmy (.ref q :: avs) g SH (emb h) (pL Qq)) (hc : (st.map fun v => v.category).sum ≤ 8) (hz : rmy.cells = 0 ∧ rmy.slots = 0) (hR : rmy.frames + 1 ≤ rm.frames ∧ 8 + (maxL + 11) + rmy.locals ≤ rm.locals) (kk : ∀ (v : Int64) (h1 : HP), Qq v h1 → SW C g (pc + 3) lv (.long v :: st) h1) : SW C g pc lv (avs.reverse ++ .ref q :: st) h :=
  x_callV hC hd hl hI hn hM ⟨hq.1, congrArg Prod.fst hq.2⟩ hc hz hR (fun r b hp => by obtain ⟨h1, v, rfl, rfl, hQ⟩ := hp; exact kk v h1 hQ)
theorem s_callVr {y : MethodName} {bytes : ByteArray} {maxL nA : Nat} {ret : Option FieldType} {rmy : Room} {avs : List Value} {Qq : Nat → HP → Prop} (hC : xOk C cc own nL rm rt) (hd : decode cc pc = .ok (.invokevirtual idx, 3)) (hl : Cond.methodLink own idx y ∈ BIG) (hI : MI y ci bytes maxL ret nA) (hq : Ty g q ci 0) (hn : avs.length = nA) (hM : MT y bytes maxL ret rmy (.ref q :: avs) g SH (emb h) (pR Qq)) (hc : (st.map fun v => v.category).sum ≤ 8) (hz : rmy.cells = 0 ∧ rmy.slots = 0) (hR : rmy.frames + 1 ≤ rm.frames ∧ 8 + (maxL + 11) + rmy.locals ≤ rm.locals) (kk : ∀ (v : Nat) (h1 : HP), Qq v h1 → SW C g (pc + 3) lv (.ref v :: st) h1) : SW C g pc lv (avs.reverse ++ .ref q :: st) h :=
  x_callV hC hd hl hI hn hM ⟨hq.1, congrArg Prod.fst hq.2⟩ hc hz hR (fun r b hp => by obtain ⟨h1, v, rfl, rfl, hQ⟩ := hp; exact kk v h1 hQ)
theorem s_callVv {y : MethodName} {bytes : ByteArray} {maxL nA : Nat} {ret : Option FieldType} {rmy : Room} {avs : List Value} {Qq : HP → Prop} (hC : xOk C cc own nL rm rt) (hd : decode cc pc = .ok (.invokevirtual idx, 3)) (hl : Cond.methodLink own idx y ∈ BIG) (hI : MI y ci bytes maxL ret nA) (hq : Ty g q ci 0) (hn : avs.length = nA) (hM : MT y bytes maxL ret rmy (.ref q :: avs) g SH (emb h) (pV Qq)) (hc : (st.map fun v => v.category).sum ≤ 8) (hz : rmy.cells = 0 ∧ rmy.slots = 0) (hR : rmy.frames + 1 ≤ rm.frames ∧ 8 + (maxL + 11) + rmy.locals ≤ rm.locals) (kk : ∀ (h1 : HP), Qq h1 → SW C g (pc + 3) lv (st) h1) : SW C g pc lv (avs.reverse ++ .ref q :: st) h :=
  x_callV hC hd hl hI hn hM ⟨hq.1, congrArg Prod.fst hq.2⟩ hc hz hR (fun r b hp => by obtain ⟨h1, rfl, rfl, hQ⟩ := hp; exact kk h1 hQ)
theorem s_callSi {y : MethodName} {bytes : ByteArray} {maxL nA : Nat} {ret : Option FieldType} {rmy : Room} {avs : List Value} {Qq : Int32 → HP → Prop} (hC : xOk C cc own nL rm rt) (hd : decode cc pc = .ok (.invokestatic idx, 3)) (hl : Cond.methodLink own idx y ∈ BIG) (hI : MS y bytes maxL ret nA) (hn : avs.length = nA) (hM : MT y bytes maxL ret rmy avs g SH (emb h) (pI Qq)) (hc : (st.map fun v => v.category).sum ≤ 8) (hz : rmy.cells = 0 ∧ rmy.slots = 0) (hR : rmy.frames + 1 ≤ rm.frames ∧ 8 + (maxL + 11) + rmy.locals ≤ rm.locals) (kk : ∀ (v : Int32) (h1 : HP), Qq v h1 → SW C g (pc + 3) lv (.int v :: st) h1) : SW C g pc lv (avs.reverse ++ st) h :=
  x_callS hC hd hl hI hn hM hc hz hR (fun r b hp => by obtain ⟨h1, v, rfl, rfl, hQ⟩ := hp; exact kk v h1 hQ)
theorem s_callSl {y : MethodName} {bytes : ByteArray} {maxL nA : Nat} {ret : Option FieldType} {rmy : Room} {avs : List Value} {Qq : Int64 → HP → Prop} (hC : xOk C cc own nL rm rt) (hd : decode cc pc = .ok (.invokestatic idx, 3)) (hl : Cond.methodLink own idx y ∈ BIG) (hI : MS y bytes maxL ret nA) (hn : avs.length = nA) (hM : MT y bytes maxL ret rmy avs g SH (emb h) (pL Qq)) (hc : (st.map fun v => v.category).sum ≤ 8) (hz : rmy.cells = 0 ∧ rmy.slots = 0) (hR : rmy.frames + 1 ≤ rm.frames ∧ 8 + (maxL + 11) + rmy.locals ≤ rm.locals) (kk : ∀ (v : Int64) (h1 : HP), Qq v h1 → SW C g (pc + 3) lv (.long v :: st) h1) : SW C g pc lv (avs.reverse ++ st) h :=
  x_callS hC hd hl hI hn hM hc hz hR (fun r b hp => by obtain ⟨h1, v, rfl, rfl, hQ⟩ := hp; exact kk v h1 hQ)
theorem s_callSr {y : MethodName} {bytes : ByteArray} {maxL nA : Nat} {ret : Option FieldType} {rmy : Room} {avs : List Value} {Qq : Nat → HP → Prop} (hC : xOk C cc own nL rm rt) (hd : decode cc pc = .ok (.invokestatic idx, 3)) (hl : Cond.methodLink own idx y ∈ BIG) (hI : MS y bytes maxL ret nA) (hn : avs.length = nA) (hM : MT y bytes maxL ret rmy avs g SH (emb h) (pR Qq)) (hc : (st.map fun v => v.category).sum ≤ 8) (hz : rmy.cells = 0 ∧ rmy.slots = 0) (hR : rmy.frames + 1 ≤ rm.frames ∧ 8 + (maxL + 11) + rmy.locals ≤ rm.locals) (kk : ∀ (v : Nat) (h1 : HP), Qq v h1 → SW C g (pc + 3) lv (.ref v :: st) h1) : SW C g pc lv (avs.reverse ++ st) h :=
  x_callS hC hd hl hI hn hM hc hz hR (fun r b hp => by obtain ⟨h1, v, rfl, rfl, hQ⟩ := hp; exact kk v h1 hQ)
theorem s_callSv {y : MethodName} {bytes : ByteArray} {maxL nA : Nat} {ret : Option FieldType} {rmy : Room} {avs : List Value} {Qq : HP → Prop} (hC : xOk C cc own nL rm rt) (hd : decode cc pc = .ok (.invokestatic idx, 3)) (hl : Cond.methodLink own idx y ∈ BIG) (hI : MS y bytes maxL ret nA) (hn : avs.length = nA) (hM : MT y bytes maxL ret rmy avs g SH (emb h) (pV Qq)) (hc : (st.map fun v => v.category).sum ≤ 8) (hz : rmy.cells = 0 ∧ rmy.slots = 0) (hR : rmy.frames + 1 ≤ rm.frames ∧ 8 + (maxL + 11) + rmy.locals ≤ rm.locals) (kk : ∀ (h1 : HP), Qq h1 → SW C g (pc + 3) lv (st) h1) : SW C g pc lv (avs.reverse ++ st) h :=
  x_callS hC hd hl hI hn hM hc hz hR (fun r b hp => by obtain ⟨h1, rfl, rfl, hQ⟩ := hp; exact kk h1 hQ)
theorem s_callNi {y : MethodName} {bytes : ByteArray} {maxL nA : Nat} {ret : Option FieldType} {rmy : Room} {avs : List Value} {Qq : Int32 → HP → Prop} (hC : xOk C cc own nL rm rt) (hd : decode cc pc = .ok (.invokestatic idx, 3)) {host : String} (hl : Cond.methodLinkNest own idx y host ∈ lw_tbl.filter isNest) (hI : MS y bytes maxL ret nA) (hn : avs.length = nA) (hM : MT y bytes maxL ret rmy avs g SH (emb h) (pI Qq)) (hc : (st.map fun v => v.category).sum ≤ 8) (hz : rmy.cells = 0 ∧ rmy.slots = 0) (hR : rmy.frames + 1 ≤ rm.frames ∧ 8 + (maxL + 11) + rmy.locals ≤ rm.locals) (kk : ∀ (v : Int32) (h1 : HP), Qq v h1 → SW C g (pc + 3) lv (.int v :: st) h1) : SW C g pc lv (avs.reverse ++ st) h :=
  x_callSN hC hd hl hI hn hM hc hz hR (fun r b hp => by obtain ⟨h1, v, rfl, rfl, hQ⟩ := hp; exact kk v h1 hQ)
theorem s_callNl {y : MethodName} {bytes : ByteArray} {maxL nA : Nat} {ret : Option FieldType} {rmy : Room} {avs : List Value} {Qq : Int64 → HP → Prop} (hC : xOk C cc own nL rm rt) (hd : decode cc pc = .ok (.invokestatic idx, 3)) {host : String} (hl : Cond.methodLinkNest own idx y host ∈ lw_tbl.filter isNest) (hI : MS y bytes maxL ret nA) (hn : avs.length = nA) (hM : MT y bytes maxL ret rmy avs g SH (emb h) (pL Qq)) (hc : (st.map fun v => v.category).sum ≤ 8) (hz : rmy.cells = 0 ∧ rmy.slots = 0) (hR : rmy.frames + 1 ≤ rm.frames ∧ 8 + (maxL + 11) + rmy.locals ≤ rm.locals) (kk : ∀ (v : Int64) (h1 : HP), Qq v h1 → SW C g (pc + 3) lv (.long v :: st) h1) : SW C g pc lv (avs.reverse ++ st) h :=
  x_callSN hC hd hl hI hn hM hc hz hR (fun r b hp => by obtain ⟨h1, v, rfl, rfl, hQ⟩ := hp; exact kk v h1 hQ)
theorem s_callNr {y : MethodName} {bytes : ByteArray} {maxL nA : Nat} {ret : Option FieldType} {rmy : Room} {avs : List Value} {Qq : Nat → HP → Prop} (hC : xOk C cc own nL rm rt) (hd : decode cc pc = .ok (.invokestatic idx, 3)) {host : String} (hl : Cond.methodLinkNest own idx y host ∈ lw_tbl.filter isNest) (hI : MS y bytes maxL ret nA) (hn : avs.length = nA) (hM : MT y bytes maxL ret rmy avs g SH (emb h) (pR Qq)) (hc : (st.map fun v => v.category).sum ≤ 8) (hz : rmy.cells = 0 ∧ rmy.slots = 0) (hR : rmy.frames + 1 ≤ rm.frames ∧ 8 + (maxL + 11) + rmy.locals ≤ rm.locals) (kk : ∀ (v : Nat) (h1 : HP), Qq v h1 → SW C g (pc + 3) lv (.ref v :: st) h1) : SW C g pc lv (avs.reverse ++ st) h :=
  x_callSN hC hd hl hI hn hM hc hz hR (fun r b hp => by obtain ⟨h1, v, rfl, rfl, hQ⟩ := hp; exact kk v h1 hQ)
theorem s_callNv {y : MethodName} {bytes : ByteArray} {maxL nA : Nat} {ret : Option FieldType} {rmy : Room} {avs : List Value} {Qq : HP → Prop} (hC : xOk C cc own nL rm rt) (hd : decode cc pc = .ok (.invokestatic idx, 3)) {host : String} (hl : Cond.methodLinkNest own idx y host ∈ lw_tbl.filter isNest) (hI : MS y bytes maxL ret nA) (hn : avs.length = nA) (hM : MT y bytes maxL ret rmy avs g SH (emb h) (pV Qq)) (hc : (st.map fun v => v.category).sum ≤ 8) (hz : rmy.cells = 0 ∧ rmy.slots = 0) (hR : rmy.frames + 1 ≤ rm.frames ∧ 8 + (maxL + 11) + rmy.locals ≤ rm.locals) (kk : ∀ (h1 : HP), Qq h1 → SW C g (pc + 3) lv (st) h1) : SW C g pc lv (avs.reverse ++ st) h :=
  x_callSN hC hd hl hI hn hM hc hz hR (fun r b hp => by obtain ⟨h1, rfl, rfl, hQ⟩ := hp; exact kk h1 hQ)
end XS
theorem fr_1_0 {q : Nat} (h : Ty gC q 1 0) : HR q 0 = 4 ∧ Ty gC (4) 7 0 := by
  have key : ∀ q, q < 137 → SH q = (1, 0) → HR q 0 = 4 ∧ (gC.1 ≤ (4) ∧ (4) < gC.1 + gC.2) ∧ SH (4) = (7, 0) := by decide +kernel
  exact key q (by have := h.1.2; simp at this; omega) h.2
theorem fr_1_1 {q : Nat} (h : Ty gC q 1 0) : HR q 1 = q + 1 ∧ Ty gC (q + 1) 4 0 := by
  have key : ∀ q, q < 137 → SH q = (1, 0) → HR q 1 = q + 1 ∧ (gC.1 ≤ (q + 1) ∧ (q + 1) < gC.1 + gC.2) ∧ SH (q + 1) = (4, 0) := by decide +kernel
  exact key q (by have := h.1.2; simp at this; omega) h.2
theorem fr_1_11 {q : Nat} (h : Ty gC q 1 0) : HR q 11 = q + 3 ∧ Ty gC (q + 3) 20 16 := by
  have key : ∀ q, q < 137 → SH q = (1, 0) → HR q 11 = q + 3 ∧ (gC.1 ≤ (q + 3) ∧ (q + 3) < gC.1 + gC.2) ∧ SH (q + 3) = (20, 16) := by decide +kernel
  exact key q (by have := h.1.2; simp at this; omega) h.2
theorem fr_2_8 {q : Nat} (h : Ty gC q 2 0) : HR q 8 = q + 1 ∧ Ty gC (q + 1) 20 8 := by
  have key : ∀ q, q < 137 → SH q = (2, 0) → HR q 8 = q + 1 ∧ (gC.1 ≤ (q + 1) ∧ (q + 1) < gC.1 + gC.2) ∧ SH (q + 1) = (20, 8) := by decide +kernel
  exact key q (by have := h.1.2; simp at this; omega) h.2
theorem fr_2_9 {q : Nat} (h : Ty gC q 2 0) : HR q 9 = q + 2 ∧ Ty gC (q + 2) 20 8 := by
  have key : ∀ q, q < 137 → SH q = (2, 0) → HR q 9 = q + 2 ∧ (gC.1 ≤ (q + 2) ∧ (q + 2) < gC.1 + gC.2) ∧ SH (q + 2) = (20, 8) := by decide +kernel
  exact key q (by have := h.1.2; simp at this; omega) h.2
theorem fr_2_10 {q : Nat} (h : Ty gC q 2 0) : HR q 10 = q + 3 ∧ Ty gC (q + 3) 20 8 := by
  have key : ∀ q, q < 137 → SH q = (2, 0) → HR q 10 = q + 3 ∧ (gC.1 ≤ (q + 3) ∧ (q + 3) < gC.1 + gC.2) ∧ SH (q + 3) = (20, 8) := by decide +kernel
  exact key q (by have := h.1.2; simp at this; omega) h.2
theorem fr_2_11 {q : Nat} (h : Ty gC q 2 0) : HR q 11 = q + 4 ∧ Ty gC (q + 4) 20 8 := by
  have key : ∀ q, q < 137 → SH q = (2, 0) → HR q 11 = q + 4 ∧ (gC.1 ≤ (q + 4) ∧ (q + 4) < gC.1 + gC.2) ∧ SH (q + 4) = (20, 8) := by decide +kernel
  exact key q (by have := h.1.2; simp at this; omega) h.2
theorem fr_3_0 {q : Nat} (h : Ty gC q 3 0) : HR q 0 = 4 ∧ Ty gC (4) 7 0 := by
  have key : ∀ q, q < 137 → SH q = (3, 0) → HR q 0 = 4 ∧ (gC.1 ≤ (4) ∧ (4) < gC.1 + gC.2) ∧ SH (4) = (7, 0) := by decide +kernel
  exact key q (by have := h.1.2; simp at this; omega) h.2
theorem fr_3_11 {q : Nat} (h : Ty gC q 3 0) : HR q 11 = q + 1 ∧ Ty gC (q + 1) 20 24 := by
  have key : ∀ q, q < 137 → SH q = (3, 0) → HR q 11 = q + 1 ∧ (gC.1 ≤ (q + 1) ∧ (q + 1) < gC.1 + gC.2) ∧ SH (q + 1) = (20, 24) := by decide +kernel
  exact key q (by have := h.1.2; simp at this; omega) h.2
theorem fr_3_12 {q : Nat} (h : Ty gC q 3 0) : HR q 12 = q + 2 ∧ Ty gC (q + 2) 20 24 := by
  have key : ∀ q, q < 137 → SH q = (3, 0) → HR q 12 = q + 2 ∧ (gC.1 ≤ (q + 2) ∧ (q + 2) < gC.1 + gC.2) ∧ SH (q + 2) = (20, 24) := by decide +kernel
  exact key q (by have := h.1.2; simp at this; omega) h.2
theorem fr_3_13 {q : Nat} (h : Ty gC q 3 0) : HR q 13 = q + 3 ∧ Ty gC (q + 3) 20 16 := by
  have key : ∀ q, q < 137 → SH q = (3, 0) → HR q 13 = q + 3 ∧ (gC.1 ≤ (q + 3) ∧ (q + 3) < gC.1 + gC.2) ∧ SH (q + 3) = (20, 16) := by decide +kernel
  exact key q (by have := h.1.2; simp at this; omega) h.2
theorem fr_3_14 {q : Nat} (h : Ty gC q 3 0) : HR q 14 = q + 4 ∧ Ty gC (q + 4) 20 16 := by
  have key : ∀ q, q < 137 → SH q = (3, 0) → HR q 14 = q + 4 ∧ (gC.1 ≤ (q + 4) ∧ (q + 4) < gC.1 + gC.2) ∧ SH (q + 4) = (20, 16) := by decide +kernel
  exact key q (by have := h.1.2; simp at this; omega) h.2
theorem fr_3_15 {q : Nat} (h : Ty gC q 3 0) : HR q 15 = q + 5 ∧ Ty gC (q + 5) 20 16 := by
  have key : ∀ q, q < 137 → SH q = (3, 0) → HR q 15 = q + 5 ∧ (gC.1 ≤ (q + 5) ∧ (q + 5) < gC.1 + gC.2) ∧ SH (q + 5) = (20, 16) := by decide +kernel
  exact key q (by have := h.1.2; simp at this; omega) h.2
theorem fr_3_16 {q : Nat} (h : Ty gC q 3 0) : HR q 16 = q + 6 ∧ Ty gC (q + 6) 21 16 := by
  have key : ∀ q, q < 137 → SH q = (3, 0) → HR q 16 = q + 6 ∧ (gC.1 ≤ (q + 6) ∧ (q + 6) < gC.1 + gC.2) ∧ SH (q + 6) = (21, 16) := by decide +kernel
  exact key q (by have := h.1.2; simp at this; omega) h.2
theorem fr_4_0 {q : Nat} (h : Ty gC q 4 0) : HR q 0 = q + 1 ∧ Ty gC (q + 1) 20 10 := by
  have key : ∀ q, q < 137 → SH q = (4, 0) → HR q 0 = q + 1 ∧ (gC.1 ≤ (q + 1) ∧ (q + 1) < gC.1 + gC.2) ∧ SH (q + 1) = (20, 10) := by decide +kernel
  exact key q (by have := h.1.2; simp at this; omega) h.2
theorem fr_5_0 {q : Nat} (h : Ty gC q 5 0) : HR q 0 = 2 ∧ Ty gC (2) 20 9 := by
  have key : ∀ q, q < 137 → SH q = (5, 0) → HR q 0 = 2 ∧ (gC.1 ≤ (2) ∧ (2) < gC.1 + gC.2) ∧ SH (2) = (20, 9) := by decide +kernel
  exact key q (by have := h.1.2; simp at this; omega) h.2
theorem fr_6_0 {q : Nat} (h : Ty gC q 6 0) : HR q 0 = 4 ∧ Ty gC (4) 7 0 := by
  have key : ∀ q, q < 137 → SH q = (6, 0) → HR q 0 = 4 ∧ (gC.1 ≤ (4) ∧ (4) < gC.1 + gC.2) ∧ SH (4) = (7, 0) := by decide +kernel
  exact key q (by have := h.1.2; simp at this; omega) h.2
theorem fr_6_1 {q : Nat} (h : Ty gC q 6 0) : HR q 1 = 6 ∧ Ty gC (6) 24 5 := by
  have key : ∀ q, q < 137 → SH q = (6, 0) → HR q 1 = 6 ∧ (gC.1 ≤ (6) ∧ (6) < gC.1 + gC.2) ∧ SH (6) = (24, 5) := by decide +kernel
  exact key q (by have := h.1.2; simp at this; omega) h.2
theorem fr_8_0 {q : Nat} (h : Ty gC q 8 0) : HR q 0 = 1 ∧ Ty gC (1) 5 0 := by
  have key : ∀ q, q < 137 → SH q = (8, 0) → HR q 0 = 1 ∧ (gC.1 ≤ (1) ∧ (1) < gC.1 + gC.2) ∧ SH (1) = (5, 0) := by decide +kernel
  exact key q (by have := h.1.2; simp at this; omega) h.2
theorem fr_8_1 {q : Nat} (h : Ty gC q 8 0) : HR q 1 = 3 ∧ Ty gC (3) 0 0 := by
  have key : ∀ q, q < 137 → SH q = (8, 0) → HR q 1 = 3 ∧ (gC.1 ≤ (3) ∧ (3) < gC.1 + gC.2) ∧ SH (3) = (0, 0) := by decide +kernel
  exact key q (by have := h.1.2; simp at this; omega) h.2
theorem fr_8_2 {q : Nat} (h : Ty gC q 8 0) : HR q 2 = 4 ∧ Ty gC (4) 7 0 := by
  have key : ∀ q, q < 137 → SH q = (8, 0) → HR q 2 = 4 ∧ (gC.1 ≤ (4) ∧ (4) < gC.1 + gC.2) ∧ SH (4) = (7, 0) := by decide +kernel
  exact key q (by have := h.1.2; simp at this; omega) h.2
theorem fr_8_3 {q : Nat} (h : Ty gC q 8 0) : HR q 3 = 5 ∧ Ty gC (5) 6 0 := by
  have key : ∀ q, q < 137 → SH q = (8, 0) → HR q 3 = 5 ∧ (gC.1 ≤ (5) ∧ (5) < gC.1 + gC.2) ∧ SH (5) = (6, 0) := by decide +kernel
  exact key q (by have := h.1.2; simp at this; omega) h.2
theorem fr_8_4 {q : Nat} (h : Ty gC q 8 0) : HR q 4 = 32 ∧ Ty gC (32) 25 4 := by
  have key : ∀ q, q < 137 → SH q = (8, 0) → HR q 4 = 32 ∧ (gC.1 ≤ (32) ∧ (32) < gC.1 + gC.2) ∧ SH (32) = (25, 4) := by decide +kernel
  exact key q (by have := h.1.2; simp at this; omega) h.2
theorem fr_8_5 {q : Nat} (h : Ty gC q 8 0) : HR q 5 = 33 ∧ Ty gC (33) 23 4 := by
  have key : ∀ q, q < 137 → SH q = (8, 0) → HR q 5 = 33 ∧ (gC.1 ≤ (33) ∧ (33) < gC.1 + gC.2) ∧ SH (33) = (23, 4) := by decide +kernel
  exact key q (by have := h.1.2; simp at this; omega) h.2
theorem fr_9_7 {q : Nat} (h : Ty gM q 9 0) : HR q 7 = 101 ∧ Ty gM (101) 20 9 := by
  have key : ∀ q, q < 137 → SH q = (9, 0) → HR q 7 = 101 ∧ (gM.1 ≤ (101) ∧ (101) < gM.1 + gM.2) ∧ SH (101) = (20, 9) := by decide +kernel
  exact key q (by have := h.1.2; simp at this; omega) h.2
theorem fr_9_8 {q : Nat} (h : Ty gM q 9 0) : HR q 8 = 102 ∧ Ty gM (102) 20 7 := by
  have key : ∀ q, q < 137 → SH q = (9, 0) → HR q 8 = 102 ∧ (gM.1 ≤ (102) ∧ (102) < gM.1 + gM.2) ∧ SH (102) = (20, 7) := by decide +kernel
  exact key q (by have := h.1.2; simp at this; omega) h.2
theorem fr_9_9 {q : Nat} (h : Ty gM q 9 0) : HR q 9 = 103 ∧ Ty gM (103) 20 4 := by
  have key : ∀ q, q < 137 → SH q = (9, 0) → HR q 9 = 103 ∧ (gM.1 ≤ (103) ∧ (103) < gM.1 + gM.2) ∧ SH (103) = (20, 4) := by decide +kernel
  exact key q (by have := h.1.2; simp at this; omega) h.2
theorem fr_9_10 {q : Nat} (h : Ty gM q 9 0) : HR q 10 = 104 ∧ Ty gM (104) 20 4 := by
  have key : ∀ q, q < 137 → SH q = (9, 0) → HR q 10 = 104 ∧ (gM.1 ≤ (104) ∧ (104) < gM.1 + gM.2) ∧ SH (104) = (20, 4) := by decide +kernel
  exact key q (by have := h.1.2; simp at this; omega) h.2
theorem fr_9_11 {q : Nat} (h : Ty gM q 9 0) : HR q 11 = 105 ∧ Ty gM (105) 20 4 := by
  have key : ∀ q, q < 137 → SH q = (9, 0) → HR q 11 = 105 ∧ (gM.1 ≤ (105) ∧ (105) < gM.1 + gM.2) ∧ SH (105) = (20, 4) := by decide +kernel
  exact key q (by have := h.1.2; simp at this; omega) h.2
theorem fr_9_12 {q : Nat} (h : Ty gM q 9 0) : HR q 12 = 106 ∧ Ty gM (106) 20 4 := by
  have key : ∀ q, q < 137 → SH q = (9, 0) → HR q 12 = 106 ∧ (gM.1 ≤ (106) ∧ (106) < gM.1 + gM.2) ∧ SH (106) = (20, 4) := by decide +kernel
  exact key q (by have := h.1.2; simp at this; omega) h.2
theorem fr_9_13 {q : Nat} (h : Ty gM q 9 0) : HR q 13 = 107 ∧ Ty gM (107) 20 4 := by
  have key : ∀ q, q < 137 → SH q = (9, 0) → HR q 13 = 107 ∧ (gM.1 ≤ (107) ∧ (107) < gM.1 + gM.2) ∧ SH (107) = (20, 4) := by decide +kernel
  exact key q (by have := h.1.2; simp at this; omega) h.2
theorem fr_9_14 {q : Nat} (h : Ty gM q 9 0) : HR q 14 = 108 ∧ Ty gM (108) 20 4 := by
  have key : ∀ q, q < 137 → SH q = (9, 0) → HR q 14 = 108 ∧ (gM.1 ≤ (108) ∧ (108) < gM.1 + gM.2) ∧ SH (108) = (20, 4) := by decide +kernel
  exact key q (by have := h.1.2; simp at this; omega) h.2
theorem fr_9_15 {q : Nat} (h : Ty gM q 9 0) : HR q 15 = 109 ∧ Ty gM (109) 20 4 := by
  have key : ∀ q, q < 137 → SH q = (9, 0) → HR q 15 = 109 ∧ (gM.1 ≤ (109) ∧ (109) < gM.1 + gM.2) ∧ SH (109) = (20, 4) := by decide +kernel
  exact key q (by have := h.1.2; simp at this; omega) h.2
theorem fr_9_16 {q : Nat} (h : Ty gM q 9 0) : HR q 16 = 110 ∧ Ty gM (110) 21 4 := by
  have key : ∀ q, q < 137 → SH q = (9, 0) → HR q 16 = 110 ∧ (gM.1 ≤ (110) ∧ (110) < gM.1 + gM.2) ∧ SH (110) = (21, 4) := by decide +kernel
  exact key q (by have := h.1.2; simp at this; omega) h.2
theorem fr_9_17 {q : Nat} (h : Ty gM q 9 0) : HR q 17 = 111 ∧ Ty gM (111) 21 4 := by
  have key : ∀ q, q < 137 → SH q = (9, 0) → HR q 17 = 111 ∧ (gM.1 ≤ (111) ∧ (111) < gM.1 + gM.2) ∧ SH (111) = (21, 4) := by decide +kernel
  exact key q (by have := h.1.2; simp at this; omega) h.2
theorem fr_9_18 {q : Nat} (h : Ty gM q 9 0) : HR q 18 = 112 ∧ Ty gM (112) 21 4 := by
  have key : ∀ q, q < 137 → SH q = (9, 0) → HR q 18 = 112 ∧ (gM.1 ≤ (112) ∧ (112) < gM.1 + gM.2) ∧ SH (112) = (21, 4) := by decide +kernel
  exact key q (by have := h.1.2; simp at this; omega) h.2
theorem fr_9_19 {q : Nat} (h : Ty gM q 9 0) : HR q 19 = 113 ∧ Ty gM (113) 20 4 := by
  have key : ∀ q, q < 137 → SH q = (9, 0) → HR q 19 = 113 ∧ (gM.1 ≤ (113) ∧ (113) < gM.1 + gM.2) ∧ SH (113) = (20, 4) := by decide +kernel
  exact key q (by have := h.1.2; simp at this; omega) h.2
theorem fr_9_20 {q : Nat} (h : Ty gM q 9 0) : HR q 20 = 114 ∧ Ty gM (114) 20 4 := by
  have key : ∀ q, q < 137 → SH q = (9, 0) → HR q 20 = 114 ∧ (gM.1 ≤ (114) ∧ (114) < gM.1 + gM.2) ∧ SH (114) = (20, 4) := by decide +kernel
  exact key q (by have := h.1.2; simp at this; omega) h.2
theorem fr_9_21 {q : Nat} (h : Ty gM q 9 0) : HR q 21 = 115 ∧ Ty gM (115) 20 96 := by
  have key : ∀ q, q < 137 → SH q = (9, 0) → HR q 21 = 115 ∧ (gM.1 ≤ (115) ∧ (115) < gM.1 + gM.2) ∧ SH (115) = (20, 96) := by decide +kernel
  exact key q (by have := h.1.2; simp at this; omega) h.2
theorem fr_9_22 {q : Nat} (h : Ty gM q 9 0) : HR q 22 = 116 ∧ Ty gM (116) 20 96 := by
  have key : ∀ q, q < 137 → SH q = (9, 0) → HR q 22 = 116 ∧ (gM.1 ≤ (116) ∧ (116) < gM.1 + gM.2) ∧ SH (116) = (20, 96) := by decide +kernel
  exact key q (by have := h.1.2; simp at this; omega) h.2
theorem fr_9_23 {q : Nat} (h : Ty gM q 9 0) : HR q 23 = 117 ∧ Ty gM (117) 20 256 := by
  have key : ∀ q, q < 137 → SH q = (9, 0) → HR q 23 = 117 ∧ (gM.1 ≤ (117) ∧ (117) < gM.1 + gM.2) ∧ SH (117) = (20, 256) := by decide +kernel
  exact key q (by have := h.1.2; simp at this; omega) h.2
theorem fr_9_24 {q : Nat} (h : Ty gM q 9 0) : HR q 24 = 118 ∧ Ty gM (118) 20 256 := by
  have key : ∀ q, q < 137 → SH q = (9, 0) → HR q 24 = 118 ∧ (gM.1 ≤ (118) ∧ (118) < gM.1 + gM.2) ∧ SH (118) = (20, 256) := by decide +kernel
  exact key q (by have := h.1.2; simp at this; omega) h.2
theorem fr_9_25 {q : Nat} (h : Ty gM q 9 0) : HR q 25 = 119 ∧ Ty gM (119) 20 256 := by
  have key : ∀ q, q < 137 → SH q = (9, 0) → HR q 25 = 119 ∧ (gM.1 ≤ (119) ∧ (119) < gM.1 + gM.2) ∧ SH (119) = (20, 256) := by decide +kernel
  exact key q (by have := h.1.2; simp at this; omega) h.2
theorem fr_9_26 {q : Nat} (h : Ty gM q 9 0) : HR q 26 = 120 ∧ Ty gM (120) 21 256 := by
  have key : ∀ q, q < 137 → SH q = (9, 0) → HR q 26 = 120 ∧ (gM.1 ≤ (120) ∧ (120) < gM.1 + gM.2) ∧ SH (120) = (21, 256) := by decide +kernel
  exact key q (by have := h.1.2; simp at this; omega) h.2
theorem fr_9_27 {q : Nat} (h : Ty gM q 9 0) : HR q 27 = 121 ∧ Ty gM (121) 21 4 := by
  have key : ∀ q, q < 137 → SH q = (9, 0) → HR q 27 = 121 ∧ (gM.1 ≤ (121) ∧ (121) < gM.1 + gM.2) ∧ SH (121) = (21, 4) := by decide +kernel
  exact key q (by have := h.1.2; simp at this; omega) h.2
theorem fr_9_28 {q : Nat} (h : Ty gM q 9 0) : HR q 28 = 122 ∧ Ty gM (122) 20 4 := by
  have key : ∀ q, q < 137 → SH q = (9, 0) → HR q 28 = 122 ∧ (gM.1 ≤ (122) ∧ (122) < gM.1 + gM.2) ∧ SH (122) = (20, 4) := by decide +kernel
  exact key q (by have := h.1.2; simp at this; omega) h.2
theorem fr_9_29 {q : Nat} (h : Ty gM q 9 0) : HR q 29 = 123 ∧ Ty gM (123) 20 4 := by
  have key : ∀ q, q < 137 → SH q = (9, 0) → HR q 29 = 123 ∧ (gM.1 ≤ (123) ∧ (123) < gM.1 + gM.2) ∧ SH (123) = (20, 4) := by decide +kernel
  exact key q (by have := h.1.2; simp at this; omega) h.2
theorem fr_9_30 {q : Nat} (h : Ty gM q 9 0) : HR q 30 = 124 ∧ Ty gM (124) 20 4 := by
  have key : ∀ q, q < 137 → SH q = (9, 0) → HR q 30 = 124 ∧ (gM.1 ≤ (124) ∧ (124) < gM.1 + gM.2) ∧ SH (124) = (20, 4) := by decide +kernel
  exact key q (by have := h.1.2; simp at this; omega) h.2
theorem fr_9_31 {q : Nat} (h : Ty gM q 9 0) : HR q 31 = 125 ∧ Ty gM (125) 20 4 := by
  have key : ∀ q, q < 137 → SH q = (9, 0) → HR q 31 = 125 ∧ (gM.1 ≤ (125) ∧ (125) < gM.1 + gM.2) ∧ SH (125) = (20, 4) := by decide +kernel
  exact key q (by have := h.1.2; simp at this; omega) h.2
theorem fr_9_32 {q : Nat} (h : Ty gM q 9 0) : HR q 32 = 126 ∧ Ty gM (126) 20 4 := by
  have key : ∀ q, q < 137 → SH q = (9, 0) → HR q 32 = 126 ∧ (gM.1 ≤ (126) ∧ (126) < gM.1 + gM.2) ∧ SH (126) = (20, 4) := by decide +kernel
  exact key q (by have := h.1.2; simp at this; omega) h.2
theorem fr_9_33 {q : Nat} (h : Ty gM q 9 0) : HR q 33 = 127 ∧ Ty gM (127) 20 4 := by
  have key : ∀ q, q < 137 → SH q = (9, 0) → HR q 33 = 127 ∧ (gM.1 ≤ (127) ∧ (127) < gM.1 + gM.2) ∧ SH (127) = (20, 4) := by decide +kernel
  exact key q (by have := h.1.2; simp at this; omega) h.2
theorem fr_9_34 {q : Nat} (h : Ty gM q 9 0) : HR q 34 = 128 ∧ Ty gM (128) 20 4 := by
  have key : ∀ q, q < 137 → SH q = (9, 0) → HR q 34 = 128 ∧ (gM.1 ≤ (128) ∧ (128) < gM.1 + gM.2) ∧ SH (128) = (20, 4) := by decide +kernel
  exact key q (by have := h.1.2; simp at this; omega) h.2
theorem fr_9_35 {q : Nat} (h : Ty gM q 9 0) : HR q 35 = 129 ∧ Ty gM (129) 20 4 := by
  have key : ∀ q, q < 137 → SH q = (9, 0) → HR q 35 = 129 ∧ (gM.1 ≤ (129) ∧ (129) < gM.1 + gM.2) ∧ SH (129) = (20, 4) := by decide +kernel
  exact key q (by have := h.1.2; simp at this; omega) h.2
theorem fr_9_36 {q : Nat} (h : Ty gM q 9 0) : HR q 36 = 130 ∧ Ty gM (130) 20 256 := by
  have key : ∀ q, q < 137 → SH q = (9, 0) → HR q 36 = 130 ∧ (gM.1 ≤ (130) ∧ (130) < gM.1 + gM.2) ∧ SH (130) = (20, 256) := by decide +kernel
  exact key q (by have := h.1.2; simp at this; omega) h.2
theorem fr_9_37 {q : Nat} (h : Ty gM q 9 0) : HR q 37 = 131 ∧ Ty gM (131) 20 4 := by
  have key : ∀ q, q < 137 → SH q = (9, 0) → HR q 37 = 131 ∧ (gM.1 ≤ (131) ∧ (131) < gM.1 + gM.2) ∧ SH (131) = (20, 4) := by decide +kernel
  exact key q (by have := h.1.2; simp at this; omega) h.2
theorem fr_9_38 {q : Nat} (h : Ty gM q 9 0) : HR q 38 = 132 ∧ Ty gM (132) 20 40 := by
  have key : ∀ q, q < 137 → SH q = (9, 0) → HR q 38 = 132 ∧ (gM.1 ≤ (132) ∧ (132) < gM.1 + gM.2) ∧ SH (132) = (20, 40) := by decide +kernel
  exact key q (by have := h.1.2; simp at this; omega) h.2
theorem fr_9_40 {q : Nat} (h : Ty gM q 9 0) : HR q 40 = 133 ∧ Ty gM (133) 20 128 := by
  have key : ∀ q, q < 137 → SH q = (9, 0) → HR q 40 = 133 ∧ (gM.1 ≤ (133) ∧ (133) < gM.1 + gM.2) ∧ SH (133) = (20, 128) := by decide +kernel
  exact key q (by have := h.1.2; simp at this; omega) h.2
theorem fr_9_41 {q : Nat} (h : Ty gM q 9 0) : HR q 41 = 134 ∧ Ty gM (134) 20 512 := by
  have key : ∀ q, q < 137 → SH q = (9, 0) → HR q 41 = 134 ∧ (gM.1 ≤ (134) ∧ (134) < gM.1 + gM.2) ∧ SH (134) = (20, 512) := by decide +kernel
  exact key q (by have := h.1.2; simp at this; omega) h.2
theorem fr_9_46 {q : Nat} (h : Ty gM q 9 0) : HR q 46 = 135 ∧ Ty gM (135) 20 8 := by
  have key : ∀ q, q < 137 → SH q = (9, 0) → HR q 46 = 135 ∧ (gM.1 ≤ (135) ∧ (135) < gM.1 + gM.2) ∧ SH (135) = (20, 8) := by decide +kernel
  exact key q (by have := h.1.2; simp at this; omega) h.2
theorem fr_9_47 {q : Nat} (h : Ty gM q 9 0) : HR q 47 = 136 ∧ Ty gM (136) 20 8 := by
  have key : ∀ q, q < 137 → SH q = (9, 0) → HR q 47 = 136 ∧ (gM.1 ≤ (136) ∧ (136) < gM.1 + gM.2) ∧ SH (136) = (20, 8) := by decide +kernel
  exact key q (by have := h.1.2; simp at this; omega) h.2
theorem el_32 {i : Int32} (h : vp_in i 4) : HR 32 i.toNatClampNeg = 34 + 11 * i.toNatClampNeg ∧ Ty gC (34 + 11 * i.toNatClampNeg) 3 0 := by
  have key : ∀ n, n < 4 → HR 32 n = 34 + 11 * n ∧ (gC.1 ≤ (34 + 11 * n) ∧ (34 + 11 * n) < gC.1 + gC.2) ∧ SH (34 + 11 * n) = (3, 0) := by decide +kernel
  exact key _ (Nat.not_le.mp fun z => h (Or.inr z))
theorem el_33 {i : Int32} (h : vp_in i 4) : HR 33 i.toNatClampNeg = 41 + 11 * i.toNatClampNeg ∧ Ty gC (41 + 11 * i.toNatClampNeg) 1 0 := by
  have key : ∀ n, n < 4 → HR 33 n = 41 + 11 * n ∧ (gC.1 ≤ (41 + 11 * n) ∧ (41 + 11 * n) < gC.1 + gC.2) ∧ SH (41 + 11 * n) = (1, 0) := by decide +kernel
  exact key _ (Nat.not_le.mp fun z => h (Or.inr z))
theorem ty_0 : Ty gC 0 8 0 := ⟨⟨by decide, by decide⟩, by decide +kernel⟩
theorem ty_1 : Ty gC 1 5 0 := ⟨⟨by decide, by decide⟩, by decide +kernel⟩
theorem ty_3 : Ty gC 3 0 0 := ⟨⟨by decide, by decide⟩, by decide +kernel⟩
theorem ty_4 : Ty gC 4 7 0 := ⟨⟨by decide, by decide⟩, by decide +kernel⟩
theorem ty_5 : Ty gC 5 6 0 := ⟨⟨by decide, by decide⟩, by decide +kernel⟩
theorem ty_6 : Ty gC 6 24 5 := ⟨⟨by decide, by decide⟩, by decide +kernel⟩
theorem ty_100 : Ty gM 100 9 0 := ⟨⟨by decide, by decide⟩, by decide +kernel⟩
end
section
theorem vi {i : Int32} {n : Nat} (h : (0 ≤ i.toInt ∧ i.toInt < n)) : vp_in i n := vp_in_iff.mpr h
theorem bp_m104 : (Int8.ofInt (-104)).toInt32 = (-104) := by decide
theorem bp_m103 : (Int8.ofInt (-103)).toInt32 = (-103) := by decide
theorem bp_m102 : (Int8.ofInt (-102)).toInt32 = (-102) := by decide
theorem bp_m101 : (Int8.ofInt (-101)).toInt32 = (-101) := by decide
theorem bp_6 : (Int8.ofInt 6).toInt32 = 6 := by decide
theorem bp_7 : (Int8.ofInt 7).toInt32 = 7 := by decide
theorem bp_8 : (Int8.ofInt 8).toInt32 = 8 := by decide
theorem bp_9 : (Int8.ofInt 9).toInt32 = 9 := by decide
theorem bp_10 : (Int8.ofInt 10).toInt32 = 10 := by decide
theorem bp_12 : (Int8.ofInt 12).toInt32 = 12 := by decide
theorem bp_15 : (Int8.ofInt 15).toInt32 = 15 := by decide
theorem bp_16 : (Int8.ofInt 16).toInt32 = 16 := by decide
theorem bp_20 : (Int8.ofInt 20).toInt32 = 20 := by decide
theorem bp_24 : (Int8.ofInt 24).toInt32 = 24 := by decide
theorem bp_32 : (Int8.ofInt 32).toInt32 = 32 := by decide
theorem bp_42 : (Int8.ofInt 42).toInt32 = 42 := by decide
theorem bp_43 : (Int8.ofInt 43).toInt32 = 43 := by decide
theorem bp_48 : (Int8.ofInt 48).toInt32 = 48 := by decide
theorem bp_49 : (Int8.ofInt 49).toInt32 = 49 := by decide
theorem bp_56 : (Int8.ofInt 56).toInt32 = 56 := by decide
theorem bp_57 : (Int8.ofInt 57).toInt32 = 57 := by decide
theorem bp_58 : (Int8.ofInt 58).toInt32 = 58 := by decide
theorem bp_60 : (Int8.ofInt 60).toInt32 = 60 := by decide
theorem bp_63 : (Int8.ofInt 63).toInt32 = 63 := by decide
theorem bp_64 : (Int8.ofInt 64).toInt32 = 64 := by decide
theorem bp_126 : (Int8.ofInt 126).toInt32 = 126 := by decide
theorem ic_m1 : Int32.ofInt (-1) = (-1) := by decide
theorem ic_0 : Int32.ofInt 0 = 0 := by decide
theorem ic_1 : Int32.ofInt 1 = 1 := by decide
theorem ic_2 : Int32.ofInt 2 = 2 := by decide
theorem ic_3 : Int32.ofInt 3 = 3 := by decide
theorem ic_4 : Int32.ofInt 4 = 4 := by decide
theorem ic_5 : Int32.ofInt 5 = 5 := by decide
theorem sp_128 : (Int16.ofInt 128).toInt32 = 128 := by decide
theorem sp_255 : (Int16.ofInt 255).toInt32 = 255 := by decide
theorem sp_256 : (Int16.ofInt 256).toInt32 = 256 := by decide
theorem sp_999 : (Int16.ofInt 999).toInt32 = 999 := by decide
theorem fk_8_10 : FK yX8_init.cls 10 8 0 1 := ⟨big_t2 71 (by decide +kernel) rfl, ⟨by decide, by decide +kernel⟩, by decide +kernel⟩
theorem fk_8_19 : FK yX8_init.cls 19 8 1 1 := ⟨big_t2 72 (by decide +kernel) rfl, ⟨by decide, by decide +kernel⟩, by decide +kernel⟩
theorem fk_8_26 : FK yX8_init.cls 26 8 2 1 := ⟨big_t2 73 (by decide +kernel) rfl, ⟨by decide, by decide +kernel⟩, by decide +kernel⟩
theorem fk_8_35 : FK yX8_init.cls 35 8 3 1 := ⟨big_t2 74 (by decide +kernel) rfl, ⟨by decide, by decide +kernel⟩, by decide +kernel⟩
theorem fk_8_41 : FK yX8_init.cls 41 8 4 1 := ⟨big_t2 75 (by decide +kernel) rfl, ⟨by decide, by decide +kernel⟩, by decide +kernel⟩
theorem fk_8_47 : FK yX8_init.cls 47 8 5 1 := ⟨big_t2 76 (by decide +kernel) rfl, ⟨by decide, by decide +kernel⟩, by decide +kernel⟩
theorem fk_8_61 : FK yX8_init.cls 61 5 1 0 := ⟨big_t1 28 (by decide +kernel) rfl, ⟨by decide, by decide +kernel⟩, by decide +kernel⟩
theorem fk_8_83 : FK yX8_init.cls 83 7 7 0 := ⟨big_t1 91 (by decide +kernel) rfl, ⟨by decide, by decide +kernel⟩, by decide +kernel⟩
theorem fk_8_91 : FK yX8_init.cls 91 0 1 0 := ⟨big_t1 44 (by decide +kernel) rfl, ⟨by decide, by decide +kernel⟩, by decide +kernel⟩
theorem fk_8_94 : FK yX8_init.cls 94 0 2 0 := ⟨big_t1 46 (by decide +kernel) rfl, ⟨by decide, by decide +kernel⟩, by decide +kernel⟩
theorem fk_8_97 : FK yX8_init.cls 97 0 0 3 := ⟨big_t1 42 (by decide +kernel) rfl, ⟨by decide, by decide +kernel⟩, by decide +kernel⟩
theorem fk_8_104 : FK yX8_init.cls 104 3 1 0 := ⟨big_t1 194 (by decide +kernel) rfl, ⟨by decide, by decide +kernel⟩, by decide +kernel⟩
theorem fk_8_119 : FK yX8_init.cls 119 2 2 0 := ⟨big_t1 128 (by decide +kernel) rfl, ⟨by decide, by decide +kernel⟩, by decide +kernel⟩
theorem fk_8_124 : FK yX8_init.cls 124 2 3 0 := ⟨big_t1 130 (by decide +kernel) rfl, ⟨by decide, by decide +kernel⟩, by decide +kernel⟩
theorem fk_8_127 : FK yX8_init.cls 127 2 4 0 := ⟨big_t1 132 (by decide +kernel) rfl, ⟨by decide, by decide +kernel⟩, by decide +kernel⟩
theorem fk_8_130 : FK yX8_init.cls 130 6 2 0 := ⟨big_t1 175 (by decide +kernel) rfl, ⟨by decide, by decide +kernel⟩, by decide +kernel⟩
theorem fk_8_134 : FK yX8_init.cls 134 3 8 3 := ⟨big_t1 204 (by decide +kernel) rfl, ⟨by decide, by decide +kernel⟩, by decide +kernel⟩
theorem fk_8_137 : FK yX8_init.cls 137 3 6 0 := ⟨big_t1 201 (by decide +kernel) rfl, ⟨by decide, by decide +kernel⟩, by decide +kernel⟩
theorem fk_8_150 : FK yX8_init.cls 150 3 9 3 := ⟨big_t1 206 (by decide +kernel) rfl, ⟨by decide, by decide +kernel⟩, by decide +kernel⟩
theorem fk_8_153 : FK yX8_init.cls 153 3 4 0 := ⟨big_t1 198 (by decide +kernel) rfl, ⟨by decide, by decide +kernel⟩, by decide +kernel⟩
theorem fk_8_156 : FK yX8_init.cls 156 2 5 0 := ⟨big_t1 134 (by decide +kernel) rfl, ⟨by decide, by decide +kernel⟩, by decide +kernel⟩
theorem fk_8_162 : FK yX8_init.cls 162 0 4 0 := ⟨big_t1 50 (by decide +kernel) rfl, ⟨by decide, by decide +kernel⟩, by decide +kernel⟩
theorem fk_8_165 : FK yX8_init.cls 165 0 3 0 := ⟨big_t1 48 (by decide +kernel) rfl, ⟨by decide, by decide +kernel⟩, by decide +kernel⟩
theorem fk_8_179 : FK yX8_init.cls 179 7 2 0 := ⟨big_t1 79 (by decide +kernel) rfl, ⟨by decide, by decide +kernel⟩, by decide +kernel⟩
theorem fk_8_198 : FK yX8_init.cls 198 2 1 0 := ⟨big_t1 126 (by decide +kernel) rfl, ⟨by decide, by decide +kernel⟩, by decide +kernel⟩
theorem fk_8_201 : FK yX8_init.cls 201 7 1 0 := ⟨big_t1 77 (by decide +kernel) rfl, ⟨by decide, by decide +kernel⟩, by decide +kernel⟩
theorem fk_8_212 : FK yX8_init.cls 212 0 5 0 := ⟨big_t1 52 (by decide +kernel) rfl, ⟨by decide, by decide +kernel⟩, by decide +kernel⟩
theorem fk_8_233 : FK yX8_init.cls 233 1 2 3 := ⟨big_t2 32 (by decide +kernel) rfl, ⟨by decide, by decide +kernel⟩, by decide +kernel⟩
theorem fk_8_239 : FK yX8_init.cls 239 1 3 0 := ⟨big_t2 34 (by decide +kernel) rfl, ⟨by decide, by decide +kernel⟩, by decide +kernel⟩
theorem fk_8_240 : FK yX8_init.cls 240 1 1 1 := ⟨big_t2 30 (by decide +kernel) rfl, ⟨by decide, by decide +kernel⟩, by decide +kernel⟩
theorem fk_8_259 : FK yX8_init.cls 259 7 0 0 := ⟨big_t1 74 (by decide +kernel) rfl, ⟨by decide, by decide +kernel⟩, by decide +kernel⟩
theorem fk_8_262 : FK yX8_init.cls 262 7 3 0 := ⟨big_t1 81 (by decide +kernel) rfl, ⟨by decide, by decide +kernel⟩, by decide +kernel⟩
theorem fk_8_265 : FK yX8_init.cls 265 7 4 0 := ⟨big_t1 84 (by decide +kernel) rfl, ⟨by decide, by decide +kernel⟩, by decide +kernel⟩
theorem fk_8_268 : FK yX8_init.cls 268 7 5 0 := ⟨big_t1 87 (by decide +kernel) rfl, ⟨by decide, by decide +kernel⟩, by decide +kernel⟩
theorem fk_8_271 : FK yX8_init.cls 271 7 6 0 := ⟨big_t1 90 (by decide +kernel) rfl, ⟨by decide, by decide +kernel⟩, by decide +kernel⟩
theorem fk_8_298 : FK yX8_init.cls 298 2 0 0 := ⟨big_t1 124 (by decide +kernel) rfl, ⟨by decide, by decide +kernel⟩, by decide +kernel⟩
theorem fk_8_301 : FK yX8_init.cls 301 2 9 1 := ⟨big_t1 142 (by decide +kernel) rfl, ⟨by decide, by decide +kernel⟩, by decide +kernel⟩
theorem fk_8_305 : FK yX8_init.cls 305 2 8 1 := ⟨big_t1 140 (by decide +kernel) rfl, ⟨by decide, by decide +kernel⟩, by decide +kernel⟩
theorem fk_8_308 : FK yX8_init.cls 308 2 10 1 := ⟨big_t1 144 (by decide +kernel) rfl, ⟨by decide, by decide +kernel⟩, by decide +kernel⟩
theorem fk_8_315 : FK yX8_init.cls 315 2 11 1 := ⟨big_t1 146 (by decide +kernel) rfl, ⟨by decide, by decide +kernel⟩, by decide +kernel⟩
theorem fk_8_334 : FK yX8_init.cls 334 1 4 0 := ⟨big_t2 36 (by decide +kernel) rfl, ⟨by decide, by decide +kernel⟩, by decide +kernel⟩
theorem fk_8_341 : FK yX8_init.cls 341 2 6 0 := ⟨big_t1 136 (by decide +kernel) rfl, ⟨by decide, by decide +kernel⟩, by decide +kernel⟩
theorem fk_8_350 : FK yX8_init.cls 350 1 7 0 := ⟨big_t2 40 (by decide +kernel) rfl, ⟨by decide, by decide +kernel⟩, by decide +kernel⟩
theorem fk_8_353 : FK yX8_init.cls 353 1 8 0 := ⟨big_t2 42 (by decide +kernel) rfl, ⟨by decide, by decide +kernel⟩, by decide +kernel⟩
theorem fk_0_7 : FK yX0_init.cls 7 0 0 3 := ⟨big_t1 41 (by decide +kernel) rfl, ⟨by decide, by decide +kernel⟩, by decide +kernel⟩
theorem fk_0_19 : FK yX0_init.cls 19 0 1 0 := ⟨big_t1 43 (by decide +kernel) rfl, ⟨by decide, by decide +kernel⟩, by decide +kernel⟩
theorem fk_0_23 : FK yX0_init.cls 23 0 2 0 := ⟨big_t1 45 (by decide +kernel) rfl, ⟨by decide, by decide +kernel⟩, by decide +kernel⟩
theorem fk_0_26 : FK yX0_init.cls 26 0 3 0 := ⟨big_t1 47 (by decide +kernel) rfl, ⟨by decide, by decide +kernel⟩, by decide +kernel⟩
theorem fk_0_29 : FK yX0_init.cls 29 0 4 0 := ⟨big_t1 49 (by decide +kernel) rfl, ⟨by decide, by decide +kernel⟩, by decide +kernel⟩
theorem fk_0_32 : FK yX0_init.cls 32 0 5 0 := ⟨big_t1 51 (by decide +kernel) rfl, ⟨by decide, by decide +kernel⟩, by decide +kernel⟩
theorem fk_1_12 : FK yX1_init.cls 12 1 1 1 := ⟨big_t2 29 (by decide +kernel) rfl, ⟨by decide, by decide +kernel⟩, by decide +kernel⟩
theorem fk_1_18 : FK yX1_init.cls 18 1 11 1 := ⟨big_t2 45 (by decide +kernel) rfl, ⟨by decide, by decide +kernel⟩, by decide +kernel⟩
theorem fk_1_22 : FK yX1_init.cls 22 1 0 1 := ⟨big_t2 28 (by decide +kernel) rfl, ⟨by decide, by decide +kernel⟩, by decide +kernel⟩
theorem fk_1_26 : FK yX1_init.cls 26 1 2 3 := ⟨big_t2 31 (by decide +kernel) rfl, ⟨by decide, by decide +kernel⟩, by decide +kernel⟩
theorem fk_1_36 : FK yX1_init.cls 36 1 3 0 := ⟨big_t2 33 (by decide +kernel) rfl, ⟨by decide, by decide +kernel⟩, by decide +kernel⟩
theorem fk_1_40 : FK yX1_init.cls 40 1 4 0 := ⟨big_t2 35 (by decide +kernel) rfl, ⟨by decide, by decide +kernel⟩, by decide +kernel⟩
theorem fk_1_43 : FK yX1_init.cls 43 1 5 0 := ⟨big_t2 37 (by decide +kernel) rfl, ⟨by decide, by decide +kernel⟩, by decide +kernel⟩
theorem fk_1_46 : FK yX1_init.cls 46 1 6 0 := ⟨big_t2 38 (by decide +kernel) rfl, ⟨by decide, by decide +kernel⟩, by decide +kernel⟩
theorem fk_1_49 : FK yX1_init.cls 49 1 7 0 := ⟨big_t2 39 (by decide +kernel) rfl, ⟨by decide, by decide +kernel⟩, by decide +kernel⟩
theorem fk_1_52 : FK yX1_init.cls 52 1 8 0 := ⟨big_t2 41 (by decide +kernel) rfl, ⟨by decide, by decide +kernel⟩, by decide +kernel⟩
theorem fk_1_55 : FK yX1_init.cls 55 1 9 0 := ⟨big_t2 43 (by decide +kernel) rfl, ⟨by decide, by decide +kernel⟩, by decide +kernel⟩
theorem fk_1_58 : FK yX1_init.cls 58 1 10 0 := ⟨big_t2 44 (by decide +kernel) rfl, ⟨by decide, by decide +kernel⟩, by decide +kernel⟩
theorem fk_1_117 : FK yX1_init.cls 117 7 4 0 := ⟨big_t1 83 (by decide +kernel) rfl, ⟨by decide, by decide +kernel⟩, by decide +kernel⟩
theorem fk_1_122 : FK yX1_init.cls 122 7 5 0 := ⟨big_t1 86 (by decide +kernel) rfl, ⟨by decide, by decide +kernel⟩, by decide +kernel⟩
theorem fk_2_11 : FK yX2_init.cls 11 2 8 1 := ⟨big_t1 139 (by decide +kernel) rfl, ⟨by decide, by decide +kernel⟩, by decide +kernel⟩
theorem fk_2_15 : FK yX2_init.cls 15 2 9 1 := ⟨big_t1 141 (by decide +kernel) rfl, ⟨by decide, by decide +kernel⟩, by decide +kernel⟩
theorem fk_2_18 : FK yX2_init.cls 18 2 10 1 := ⟨big_t1 143 (by decide +kernel) rfl, ⟨by decide, by decide +kernel⟩, by decide +kernel⟩
theorem fk_2_21 : FK yX2_init.cls 21 2 11 1 := ⟨big_t1 145 (by decide +kernel) rfl, ⟨by decide, by decide +kernel⟩, by decide +kernel⟩
theorem fk_2_24 : FK yX2_init.cls 24 2 0 0 := ⟨big_t1 122 (by decide +kernel) rfl, ⟨by decide, by decide +kernel⟩, by decide +kernel⟩
theorem fk_2_28 : FK yX2_init.cls 28 2 1 0 := ⟨big_t1 125 (by decide +kernel) rfl, ⟨by decide, by decide +kernel⟩, by decide +kernel⟩
theorem fk_2_31 : FK yX2_init.cls 31 2 2 0 := ⟨big_t1 127 (by decide +kernel) rfl, ⟨by decide, by decide +kernel⟩, by decide +kernel⟩
theorem fk_2_34 : FK yX2_init.cls 34 2 3 0 := ⟨big_t1 129 (by decide +kernel) rfl, ⟨by decide, by decide +kernel⟩, by decide +kernel⟩
theorem fk_2_37 : FK yX2_init.cls 37 2 4 0 := ⟨big_t1 131 (by decide +kernel) rfl, ⟨by decide, by decide +kernel⟩, by decide +kernel⟩
theorem fk_2_40 : FK yX2_init.cls 40 2 5 0 := ⟨big_t1 133 (by decide +kernel) rfl, ⟨by decide, by decide +kernel⟩, by decide +kernel⟩
theorem fk_2_43 : FK yX2_init.cls 43 2 6 0 := ⟨big_t1 135 (by decide +kernel) rfl, ⟨by decide, by decide +kernel⟩, by decide +kernel⟩
theorem fk_2_46 : FK yX2_init.cls 46 2 7 0 := ⟨big_t1 137 (by decide +kernel) rfl, ⟨by decide, by decide +kernel⟩, by decide +kernel⟩
theorem fk_3_11 : FK yX3_init.cls 11 3 11 1 := ⟨big_t1 208 (by decide +kernel) rfl, ⟨by decide, by decide +kernel⟩, by decide +kernel⟩
theorem fk_3_15 : FK yX3_init.cls 15 3 12 1 := ⟨big_t1 209 (by decide +kernel) rfl, ⟨by decide, by decide +kernel⟩, by decide +kernel⟩
theorem fk_3_18 : FK yX3_init.cls 18 3 13 1 := ⟨big_t1 210 (by decide +kernel) rfl, ⟨by decide, by decide +kernel⟩, by decide +kernel⟩
theorem fk_3_21 : FK yX3_init.cls 21 3 14 1 := ⟨big_t1 211 (by decide +kernel) rfl, ⟨by decide, by decide +kernel⟩, by decide +kernel⟩
theorem fk_3_24 : FK yX3_init.cls 24 3 15 1 := ⟨big_t1 212 (by decide +kernel) rfl, ⟨by decide, by decide +kernel⟩, by decide +kernel⟩
theorem fk_3_27 : FK yX3_init.cls 27 3 16 1 := ⟨big_t1 213 (by decide +kernel) rfl, ⟨by decide, by decide +kernel⟩, by decide +kernel⟩
theorem fk_3_31 : FK yX3_init.cls 31 3 0 1 := ⟨big_t1 192 (by decide +kernel) rfl, ⟨by decide, by decide +kernel⟩, by decide +kernel⟩
theorem fk_3_35 : FK yX3_init.cls 35 3 1 0 := ⟨big_t1 193 (by decide +kernel) rfl, ⟨by decide, by decide +kernel⟩, by decide +kernel⟩
theorem fk_3_39 : FK yX3_init.cls 39 3 4 0 := ⟨big_t1 197 (by decide +kernel) rfl, ⟨by decide, by decide +kernel⟩, by decide +kernel⟩
theorem fk_3_42 : FK yX3_init.cls 42 3 5 0 := ⟨big_t1 199 (by decide +kernel) rfl, ⟨by decide, by decide +kernel⟩, by decide +kernel⟩
theorem fk_3_45 : FK yX3_init.cls 45 3 6 0 := ⟨big_t1 200 (by decide +kernel) rfl, ⟨by decide, by decide +kernel⟩, by decide +kernel⟩
theorem fk_3_48 : FK yX3_init.cls 48 3 7 0 := ⟨big_t1 202 (by decide +kernel) rfl, ⟨by decide, by decide +kernel⟩, by decide +kernel⟩
theorem fk_3_51 : FK yX3_init.cls 51 3 8 3 := ⟨big_t1 203 (by decide +kernel) rfl, ⟨by decide, by decide +kernel⟩, by decide +kernel⟩
theorem fk_3_55 : FK yX3_init.cls 55 3 9 3 := ⟨big_t1 205 (by decide +kernel) rfl, ⟨by decide, by decide +kernel⟩, by decide +kernel⟩
theorem fk_3_58 : FK yX3_init.cls 58 3 10 3 := ⟨big_t1 207 (by decide +kernel) rfl, ⟨by decide, by decide +kernel⟩, by decide +kernel⟩
theorem fk_3_64 : FK yX3_init.cls 64 3 3 0 := ⟨big_t1 196 (by decide +kernel) rfl, ⟨by decide, by decide +kernel⟩, by decide +kernel⟩
theorem fk_3_67 : FK yX3_init.cls 67 3 2 0 := ⟨big_t1 195 (by decide +kernel) rfl, ⟨by decide, by decide +kernel⟩, by decide +kernel⟩
theorem fk_3_93 : FK yX3_init.cls 93 2 7 0 := ⟨big_t1 138 (by decide +kernel) rfl, ⟨by decide, by decide +kernel⟩, by decide +kernel⟩
theorem fk_3_111 : FK yX3_init.cls 111 7 6 0 := ⟨big_t1 89 (by decide +kernel) rfl, ⟨by decide, by decide +kernel⟩, by decide +kernel⟩
theorem fk_4_11 : FK yX4_init.cls 11 4 0 1 := ⟨big_t2 21 (by decide +kernel) rfl, ⟨by decide, by decide +kernel⟩, by decide +kernel⟩
theorem fk_4_15 : FK yX4_init.cls 15 4 1 0 := ⟨big_t2 22 (by decide +kernel) rfl, ⟨by decide, by decide +kernel⟩, by decide +kernel⟩
theorem fk_5_11 : FK yX5_init.cls 11 5 0 1 := ⟨big_t1 26 (by decide +kernel) rfl, ⟨by decide, by decide +kernel⟩, by decide +kernel⟩
theorem fk_5_15 : FK yX5_init.cls 15 5 1 0 := ⟨big_t1 27 (by decide +kernel) rfl, ⟨by decide, by decide +kernel⟩, by decide +kernel⟩
theorem fk_6_13 : FK yX6_init.cls 13 6 1 1 := ⟨big_t1 173 (by decide +kernel) rfl, ⟨by decide, by decide +kernel⟩, by decide +kernel⟩
theorem fk_6_17 : FK yX6_init.cls 17 6 0 1 := ⟨big_t1 172 (by decide +kernel) rfl, ⟨by decide, by decide +kernel⟩, by decide +kernel⟩
theorem fk_6_22 : FK yX6_init.cls 22 6 2 0 := ⟨big_t1 174 (by decide +kernel) rfl, ⟨by decide, by decide +kernel⟩, by decide +kernel⟩
theorem fk_6_38 : FK yX6_init.cls 38 7 0 0 := ⟨big_t1 73 (by decide +kernel) rfl, ⟨by decide, by decide +kernel⟩, by decide +kernel⟩
theorem fk_6_47 : FK yX6_init.cls 47 2 0 0 := ⟨big_t1 123 (by decide +kernel) rfl, ⟨by decide, by decide +kernel⟩, by decide +kernel⟩
theorem fk_6_57 : FK yX6_init.cls 57 7 1 0 := ⟨big_t1 76 (by decide +kernel) rfl, ⟨by decide, by decide +kernel⟩, by decide +kernel⟩
theorem fk_7_7 : FK yX7_init.cls 7 7 0 0 := ⟨big_t1 72 (by decide +kernel) rfl, ⟨by decide, by decide +kernel⟩, by decide +kernel⟩
theorem fk_7_13 : FK yX7_init.cls 13 7 1 0 := ⟨big_t1 75 (by decide +kernel) rfl, ⟨by decide, by decide +kernel⟩, by decide +kernel⟩
theorem fk_7_16 : FK yX7_init.cls 16 7 2 0 := ⟨big_t1 78 (by decide +kernel) rfl, ⟨by decide, by decide +kernel⟩, by decide +kernel⟩
theorem fk_7_19 : FK yX7_init.cls 19 7 3 0 := ⟨big_t1 80 (by decide +kernel) rfl, ⟨by decide, by decide +kernel⟩, by decide +kernel⟩
theorem fk_7_22 : FK yX7_init.cls 22 7 4 0 := ⟨big_t1 82 (by decide +kernel) rfl, ⟨by decide, by decide +kernel⟩, by decide +kernel⟩
theorem fk_7_25 : FK yX7_init.cls 25 7 5 0 := ⟨big_t1 85 (by decide +kernel) rfl, ⟨by decide, by decide +kernel⟩, by decide +kernel⟩
theorem fk_7_28 : FK yX7_init.cls 28 7 6 0 := ⟨big_t1 88 (by decide +kernel) rfl, ⟨by decide, by decide +kernel⟩, by decide +kernel⟩
theorem fk_9_7 : FK yX9_init.cls 7 9 7 1 := ⟨big_t4 59 (by decide +kernel) rfl, ⟨by decide, by decide +kernel⟩, by decide +kernel⟩
theorem fk_9_13 : FK yX9_init.cls 13 9 8 1 := ⟨big_t4 60 (by decide +kernel) rfl, ⟨by decide, by decide +kernel⟩, by decide +kernel⟩
theorem fk_9_16 : FK yX9_init.cls 16 9 9 1 := ⟨big_t4 61 (by decide +kernel) rfl, ⟨by decide, by decide +kernel⟩, by decide +kernel⟩
theorem fk_9_19 : FK yX9_init.cls 19 9 10 1 := ⟨big_t4 62 (by decide +kernel) rfl, ⟨by decide, by decide +kernel⟩, by decide +kernel⟩
theorem fk_9_22 : FK yX9_init.cls 22 9 11 1 := ⟨big_t4 63 (by decide +kernel) rfl, ⟨by decide, by decide +kernel⟩, by decide +kernel⟩
theorem fk_9_25 : FK yX9_init.cls 25 9 12 1 := ⟨big_t4 64 (by decide +kernel) rfl, ⟨by decide, by decide +kernel⟩, by decide +kernel⟩
theorem fk_9_28 : FK yX9_init.cls 28 9 13 1 := ⟨big_t4 65 (by decide +kernel) rfl, ⟨by decide, by decide +kernel⟩, by decide +kernel⟩
theorem fk_9_31 : FK yX9_init.cls 31 9 14 1 := ⟨big_t4 66 (by decide +kernel) rfl, ⟨by decide, by decide +kernel⟩, by decide +kernel⟩
theorem fk_9_34 : FK yX9_init.cls 34 9 15 1 := ⟨big_t4 67 (by decide +kernel) rfl, ⟨by decide, by decide +kernel⟩, by decide +kernel⟩
theorem fk_9_37 : FK yX9_init.cls 37 9 16 1 := ⟨big_t4 68 (by decide +kernel) rfl, ⟨by decide, by decide +kernel⟩, by decide +kernel⟩
theorem fk_9_41 : FK yX9_init.cls 41 9 17 1 := ⟨big_t4 69 (by decide +kernel) rfl, ⟨by decide, by decide +kernel⟩, by decide +kernel⟩
theorem fk_9_44 : FK yX9_init.cls 44 9 18 1 := ⟨big_t4 70 (by decide +kernel) rfl, ⟨by decide, by decide +kernel⟩, by decide +kernel⟩
theorem fk_9_47 : FK yX9_init.cls 47 9 19 1 := ⟨big_t4 71 (by decide +kernel) rfl, ⟨by decide, by decide +kernel⟩, by decide +kernel⟩
theorem fk_9_50 : FK yX9_init.cls 50 9 20 1 := ⟨big_t4 72 (by decide +kernel) rfl, ⟨by decide, by decide +kernel⟩, by decide +kernel⟩
theorem fk_9_53 : FK yX9_init.cls 53 9 21 1 := ⟨big_t4 73 (by decide +kernel) rfl, ⟨by decide, by decide +kernel⟩, by decide +kernel⟩
theorem fk_9_56 : FK yX9_init.cls 56 9 22 1 := ⟨big_t4 74 (by decide +kernel) rfl, ⟨by decide, by decide +kernel⟩, by decide +kernel⟩
theorem fk_9_59 : FK yX9_init.cls 59 9 23 1 := ⟨big_t4 75 (by decide +kernel) rfl, ⟨by decide, by decide +kernel⟩, by decide +kernel⟩
theorem fk_9_62 : FK yX9_init.cls 62 9 24 1 := ⟨big_t4 76 (by decide +kernel) rfl, ⟨by decide, by decide +kernel⟩, by decide +kernel⟩
theorem fk_9_65 : FK yX9_init.cls 65 9 25 1 := ⟨big_t4 77 (by decide +kernel) rfl, ⟨by decide, by decide +kernel⟩, by decide +kernel⟩
theorem fk_9_68 : FK yX9_init.cls 68 9 26 1 := ⟨big_t4 78 (by decide +kernel) rfl, ⟨by decide, by decide +kernel⟩, by decide +kernel⟩
theorem fk_9_71 : FK yX9_init.cls 71 9 27 1 := ⟨big_t4 79 (by decide +kernel) rfl, ⟨by decide, by decide +kernel⟩, by decide +kernel⟩
theorem fk_9_74 : FK yX9_init.cls 74 9 28 1 := ⟨big_t4 80 (by decide +kernel) rfl, ⟨by decide, by decide +kernel⟩, by decide +kernel⟩
theorem fk_9_77 : FK yX9_init.cls 77 9 29 1 := ⟨big_t4 81 (by decide +kernel) rfl, ⟨by decide, by decide +kernel⟩, by decide +kernel⟩
theorem fk_9_80 : FK yX9_init.cls 80 9 30 1 := ⟨big_t4 82 (by decide +kernel) rfl, ⟨by decide, by decide +kernel⟩, by decide +kernel⟩
theorem fk_9_83 : FK yX9_init.cls 83 9 31 1 := ⟨big_t4 83 (by decide +kernel) rfl, ⟨by decide, by decide +kernel⟩, by decide +kernel⟩
theorem fk_9_86 : FK yX9_init.cls 86 9 32 1 := ⟨big_t4 84 (by decide +kernel) rfl, ⟨by decide, by decide +kernel⟩, by decide +kernel⟩
theorem fk_9_89 : FK yX9_init.cls 89 9 33 1 := ⟨big_t4 85 (by decide +kernel) rfl, ⟨by decide, by decide +kernel⟩, by decide +kernel⟩
theorem fk_9_92 : FK yX9_init.cls 92 9 34 1 := ⟨big_t4 86 (by decide +kernel) rfl, ⟨by decide, by decide +kernel⟩, by decide +kernel⟩
theorem fk_9_95 : FK yX9_init.cls 95 9 35 1 := ⟨big_t4 87 (by decide +kernel) rfl, ⟨by decide, by decide +kernel⟩, by decide +kernel⟩
theorem fk_9_98 : FK yX9_init.cls 98 9 36 1 := ⟨big_t4 88 (by decide +kernel) rfl, ⟨by decide, by decide +kernel⟩, by decide +kernel⟩
theorem fk_9_101 : FK yX9_init.cls 101 9 37 1 := ⟨big_t4 89 (by decide +kernel) rfl, ⟨by decide, by decide +kernel⟩, by decide +kernel⟩
theorem fk_9_104 : FK yX9_init.cls 104 9 38 1 := ⟨big_t4 90 (by decide +kernel) rfl, ⟨by decide, by decide +kernel⟩, by decide +kernel⟩
theorem fk_9_107 : FK yX9_init.cls 107 9 40 1 := ⟨big_t4 92 (by decide +kernel) rfl, ⟨by decide, by decide +kernel⟩, by decide +kernel⟩
theorem fk_9_110 : FK yX9_init.cls 110 9 41 1 := ⟨big_t4 93 (by decide +kernel) rfl, ⟨by decide, by decide +kernel⟩, by decide +kernel⟩
theorem fk_9_113 : FK yX9_init.cls 113 9 46 1 := ⟨big_t4 98 (by decide +kernel) rfl, ⟨by decide, by decide +kernel⟩, by decide +kernel⟩
theorem fk_9_116 : FK yX9_init.cls 116 9 47 1 := ⟨big_t4 99 (by decide +kernel) rfl, ⟨by decide, by decide +kernel⟩, by decide +kernel⟩
theorem fk_9_127 : FK yX9_init.cls 127 9 6 0 := ⟨big_t4 58 (by decide +kernel) rfl, ⟨by decide, by decide +kernel⟩, by decide +kernel⟩
theorem fk_9_139 : FK yX9_init.cls 139 9 0 0 := ⟨big_t4 52 (by decide +kernel) rfl, ⟨by decide, by decide +kernel⟩, by decide +kernel⟩
theorem fk_9_142 : FK yX9_init.cls 142 9 1 0 := ⟨big_t4 53 (by decide +kernel) rfl, ⟨by decide, by decide +kernel⟩, by decide +kernel⟩
theorem fk_9_145 : FK yX9_init.cls 145 9 2 0 := ⟨big_t4 54 (by decide +kernel) rfl, ⟨by decide, by decide +kernel⟩, by decide +kernel⟩
theorem fk_9_148 : FK yX9_init.cls 148 9 3 0 := ⟨big_t4 55 (by decide +kernel) rfl, ⟨by decide, by decide +kernel⟩, by decide +kernel⟩
theorem fk_9_151 : FK yX9_init.cls 151 9 4 0 := ⟨big_t4 56 (by decide +kernel) rfl, ⟨by decide, by decide +kernel⟩, by decide +kernel⟩
theorem fk_9_154 : FK yX9_init.cls 154 9 39 0 := ⟨big_t4 91 (by decide +kernel) rfl, ⟨by decide, by decide +kernel⟩, by decide +kernel⟩
theorem fk_9_157 : FK yX9_init.cls 157 9 5 0 := ⟨big_t4 57 (by decide +kernel) rfl, ⟨by decide, by decide +kernel⟩, by decide +kernel⟩
theorem fk_9_189 : FK yX9_init.cls 189 9 42 0 := ⟨big_t4 94 (by decide +kernel) rfl, ⟨by decide, by decide +kernel⟩, by decide +kernel⟩
theorem fk_9_192 : FK yX9_init.cls 192 9 43 0 := ⟨big_t4 95 (by decide +kernel) rfl, ⟨by decide, by decide +kernel⟩, by decide +kernel⟩
theorem fk_9_198 : FK yX9_init.cls 198 9 45 3 := ⟨big_t4 97 (by decide +kernel) rfl, ⟨by decide, by decide +kernel⟩, by decide +kernel⟩
theorem fk_9_202 : FK yX9_init.cls 202 9 44 0 := ⟨big_t4 96 (by decide +kernel) rfl, ⟨by decide, by decide +kernel⟩, by decide +kernel⟩
theorem fk_9_317 : FK yX9_init.cls 317 9 48 2 := ⟨big_t4 100 (by decide +kernel) rfl, ⟨by decide, by decide +kernel⟩, by decide +kernel⟩
theorem lc_8_274 : Cond.constantLong yX8_init.cls 274 1543 ∈ BIG := big_t4 30 (by decide +kernel) rfl
theorem lc_8_296 : Cond.constantLong yX8_init.cls 296 31 ∈ BIG := big_t4 34 (by decide +kernel) rfl
theorem lc_9_315 : Cond.constantLong yX9_init.cls 315 31 ∈ BIG := big_t6 6 (by decide +kernel) rfl
theorem lc_9_331 : Cond.constantLong yX9_init.cls 331 1543 ∈ BIG := big_t5 237 (by decide +kernel) rfl
theorem ml_0_13 : Cond.methodLink yX0_init.cls 13 yX5_digitAt ∈ BIG := big_t2 135 (by decide +kernel) rfl
theorem ml_0_35 : Cond.methodLink yX0_init.cls 35 yX0_left ∈ BIG := big_t2 229 (by decide +kernel) rfl
theorem ml_0_39 : Cond.methodLink yX0_init.cls 39 yX0_isAwake ∈ BIG := big_t3 181 (by decide +kernel) rfl
theorem ml_1_101 : Cond.methodLink yX1_init.cls 101 yX1_moveOn ∈ BIG := big_t3 108 (by decide +kernel) rfl
theorem ml_1_104 : Cond.methodLink yX1_init.cls 104 yX1_heldCount ∈ BIG := big_t3 160 (by decide +kernel) rfl
theorem ml_1_108 : Cond.methodLink yX1_init.cls 108 yX1_firstHeld ∈ BIG := big_t3 169 (by decide +kernel) rfl
theorem ml_1_114 : Cond.methodLink yX1_init.cls 114 yX4_put ∈ BIG := big_t3 104 (by decide +kernel) rfl
theorem ml_1_30 : Cond.methodLink yX1_init.cls 30 yX4_clear ∈ BIG := big_t2 159 (by decide +kernel) rfl
theorem ml_1_33 : Cond.methodLink yX1_init.cls 33 yX1_end ∈ BIG := big_t3 131 (by decide +kernel) rfl
theorem ml_1_61 : Cond.methodLink yX1_init.cls 61 yX1_moveFrom ∈ BIG := big_t3 95 (by decide +kernel) rfl
theorem ml_1_73 : Cond.methodLink yX1_init.cls 73 yX1_keptAt ∈ BIG := big_t3 112 (by decide +kernel) rfl
theorem ml_1_76 : Cond.methodLink yX1_init.cls 76 yX1_holdsAt ∈ BIG := big_t3 164 (by decide +kernel) rfl
theorem ml_1_92 : Cond.methodLink yX1_init.cls 92 yX1_moveMark ∈ BIG := big_t3 86 (by decide +kernel) rfl
theorem ml_1_95 : Cond.methodLink yX1_init.cls 95 yX1_isDoubled ∈ BIG := big_t3 91 (by decide +kernel) rfl
theorem ml_1_98 : Cond.methodLink yX1_init.cls 98 yX1_release ∈ BIG := big_t3 100 (by decide +kernel) rfl
theorem ml_2_57 : Cond.methodLink yX2_init.cls 57 yX2_hasFrame ∈ BIG := big_t4 21 (by decide +kernel) rfl
theorem ml_3_104 : Cond.methodLink yX3_init.cls 104 yX2_bind ∈ BIG := big_t3 18 (by decide +kernel) rfl
theorem ml_3_108 : Cond.methodLink yX3_init.cls 108 yX3_giveUp ∈ BIG := big_t3 53 (by decide +kernel) rfl
theorem ml_3_116 : Cond.methodLink yX3_init.cls 116 yX3_undone ∈ BIG := big_t3 191 (by decide +kernel) rfl
theorem ml_3_61 : Cond.methodLink yX3_init.cls 61 yX3_vanish ∈ BIG := big_t2 181 (by decide +kernel) rfl
theorem ml_3_74 : Cond.methodLink yX3_init.cls 74 yX3_spread ∈ BIG := big_t2 202 (by decide +kernel) rfl
theorem ml_3_90 : Cond.methodLink yX3_init.cls 90 yX3_queuedLength ∈ BIG := big_t3 2 (by decide +kernel) rfl
theorem ml_3_98 : Cond.methodLink yX3_init.cls 98 yX3_giveNext ∈ BIG := big_t3 11 (by decide +kernel) rfl
theorem ml_4_23 : Cond.methodLink yX4_init.cls 23 yX4_has ∈ BIG := big_t4 3 (by decide +kernel) rfl
theorem ml_5_29 : Cond.methodLink yX5_init.cls 29 yX5_firstFault ∈ BIG := big_t2 130 (by decide +kernel) rfl
theorem ml_5_33 : Cond.methodLink yX5_init.cls 33 yX5_at ∈ BIG := big_t2 139 (by decide +kernel) rfl
theorem ml_6_30 : Cond.methodLink yX6_init.cls 30 yX6_has ∈ BIG := big_t3 44 (by decide +kernel) rfl
theorem ml_6_34 : Cond.methodLink yX6_init.cls 34 yX2_begin ∈ BIG := big_t2 186 (by decide +kernel) rfl
theorem ml_6_43 : Cond.methodLink yX6_init.cls 43 yX6_at ∈ BIG := big_t3 40 (by decide +kernel) rfl
theorem ml_6_54 : Cond.methodLink yX6_init.cls 54 yX6_take ∈ BIG := big_t3 36 (by decide +kernel) rfl
theorem ml_8_101 : Cond.methodLink yX8_init.cls 101 yX8_isClass ∈ BIG := big_t2 167 (by decide +kernel) rfl
theorem ml_8_107 : Cond.methodLink yX8_init.cls 107 yX6_countOf ∈ BIG := big_t2 170 (by decide +kernel) rfl
theorem ml_8_111 : Cond.methodLink yX8_init.cls 111 yX3_ask ∈ BIG := big_t2 177 (by decide +kernel) rfl
theorem ml_8_115 : Cond.methodLink yX8_init.cls 115 yX6_send ∈ BIG := big_t2 182 (by decide +kernel) rfl
theorem ml_8_131 : Cond.methodLink yX8_init.cls 131 yX8_isClassOfAir ∈ BIG := big_t2 194 (by decide +kernel) rfl
theorem ml_8_140 : Cond.methodLink yX8_init.cls 140 yX3_undone ∈ BIG := big_t2 198 (by decide +kernel) rfl
theorem ml_8_143 : Cond.methodLink yX8_init.cls 143 yX3_enqueue ∈ BIG := big_t2 217 (by decide +kernel) rfl
theorem ml_8_147 : Cond.methodLink yX8_init.cls 147 yX0_isAwake ∈ BIG := big_t2 225 (by decide +kernel) rfl
theorem ml_8_159 : Cond.methodLink yX8_init.cls 159 yX3_barGoes ∈ BIG := big_t2 233 (by decide +kernel) rfl
theorem ml_8_168 : Cond.methodLink yX8_init.cls 168 yX0_left ∈ BIG := big_t2 237 (by decide +kernel) rfl
theorem ml_8_171 : Cond.methodLink yX8_init.cls 171 yX3_bundleSize ∈ BIG := big_t2 238 (by decide +kernel) rfl
theorem ml_8_175 : Cond.methodLink yX8_init.cls 175 yX3_bundleGoes ∈ BIG := big_t3 7 (by decide +kernel) rfl
theorem ml_8_182 : Cond.methodLink yX8_init.cls 182 yX6_loseAllOf ∈ BIG := big_t3 32 (by decide +kernel) rfl
theorem ml_8_185 : Cond.methodLink yX8_init.cls 185 yX3_waitNoLonger ∈ BIG := big_t3 49 (by decide +kernel) rfl
theorem ml_8_188 : Cond.methodLink yX8_init.cls 188 yX6_has ∈ BIG := big_t3 61 (by decide +kernel) rfl
theorem ml_8_191 : Cond.methodLink yX8_init.cls 191 yX6_take ∈ BIG := big_t3 62 (by decide +kernel) rfl
theorem ml_8_195 : Cond.methodLink yX8_init.cls 195 yX2_goesToFarEnd ∈ BIG := big_t3 63 (by decide +kernel) rfl
theorem ml_8_204 : Cond.methodLink yX8_init.cls 204 yX8_bundleArrives ∈ BIG := big_t3 67 (by decide +kernel) rfl
theorem ml_8_208 : Cond.methodLink yX8_init.cls 208 yX8_arrives ∈ BIG := big_t3 120 (by decide +kernel) rfl
theorem ml_8_215 : Cond.methodLink yX8_init.cls 215 yX1_tick ∈ BIG := big_t3 156 (by decide +kernel) rfl
theorem ml_8_218 : Cond.methodLink yX8_init.cls 218 yX0_tell ∈ BIG := big_t3 177 (by decide +kernel) rfl
theorem ml_8_221 : Cond.methodLink yX8_init.cls 221 yX3_tell ∈ BIG := big_t3 187 (by decide +kernel) rfl
theorem ml_8_222 : Cond.methodLink yX8_init.cls 222 yX3_hasPlace ∈ BIG := big_t3 196 (by decide +kernel) rfl
theorem ml_8_225 : Cond.methodLink yX8_init.cls 225 yX3_tellGiven ∈ BIG := big_t3 200 (by decide +kernel) rfl
theorem ml_8_228 : Cond.methodLink yX8_init.cls 228 yX1_tell ∈ BIG := big_t3 208 (by decide +kernel) rfl
theorem ml_8_229 : Cond.methodLink yX8_init.cls 229 yX1_hasPlace ∈ BIG := big_t3 216 (by decide +kernel) rfl
theorem ml_8_230 : Cond.methodLink yX8_init.cls 230 yX1_keptAt ∈ BIG := big_t3 221 (by decide +kernel) rfl
theorem ml_8_236 : Cond.methodLink yX8_init.cls 236 yX1_is ∈ BIG := big_t3 226 (by decide +kernel) rfl
theorem ml_8_244 : Cond.methodLink yX8_init.cls 244 yX4_has ∈ BIG := big_t3 234 (by decide +kernel) rfl
theorem ml_8_247 : Cond.methodLink yX8_init.cls 247 yX4_at ∈ BIG := big_t3 239 (by decide +kernel) rfl
theorem ml_8_250 : Cond.methodLink yX8_init.cls 250 yX6_at ∈ BIG := big_t4 8 (by decide +kernel) rfl
theorem ml_8_252 : Cond.methodLink yX8_init.cls 252 yX2_tell ∈ BIG := big_t4 9 (by decide +kernel) rfl
theorem ml_8_253 : Cond.methodLink yX8_init.cls 253 yX2_hasFrame ∈ BIG := big_t3 71 (by decide +kernel) rfl
theorem ml_8_256 : Cond.methodLink yX8_init.cls 256 yX2_tellFrame ∈ BIG := big_t4 17 (by decide +kernel) rfl
theorem ml_8_276 : Cond.methodLink yX8_init.cls 276 yX8_mix ∈ BIG := big_t4 31 (by decide +kernel) rfl
theorem ml_8_280 : Cond.methodLink yX8_init.cls 280 yX8_digestOfNearEnd ∈ BIG := big_t4 35 (by decide +kernel) rfl
theorem ml_8_284 : Cond.methodLink yX8_init.cls 284 yX8_digestOfFarEnd ∈ BIG := big_t4 38 (by decide +kernel) rfl
theorem ml_8_288 : Cond.methodLink yX8_init.cls 288 yX8_digestOfLetter ∈ BIG := big_t4 41 (by decide +kernel) rfl
theorem ml_8_292 : Cond.methodLink yX8_init.cls 292 yX5_at ∈ BIG := big_t4 44 (by decide +kernel) rfl
theorem ml_8_293 : Cond.methodLink yX8_init.cls 293 yX8_count ∈ BIG := big_t4 45 (by decide +kernel) rfl
theorem ml_8_311 : Cond.methodLink yX8_init.cls 311 yX8_checkOf ∈ BIG := big_t3 76 (by decide +kernel) rfl
theorem ml_8_318 : Cond.methodLink yX8_init.cls 318 yX1_comes ∈ BIG := big_t3 77 (by decide +kernel) rfl
theorem ml_8_322 : Cond.methodLink yX8_init.cls 322 yX8_answer ∈ BIG := big_t3 116 (by decide +kernel) rfl
theorem ml_8_330 : Cond.methodLink yX8_init.cls 330 yX1_begin ∈ BIG := big_t3 127 (by decide +kernel) rfl
theorem ml_8_335 : Cond.methodLink yX8_init.cls 335 yX3_yes ∈ BIG := big_t3 135 (by decide +kernel) rfl
theorem ml_8_338 : Cond.methodLink yX8_init.cls 338 yX1_bar ∈ BIG := big_t3 139 (by decide +kernel) rfl
theorem ml_8_344 : Cond.methodLink yX8_init.cls 344 yX3_answered ∈ BIG := big_t3 143 (by decide +kernel) rfl
theorem ml_8_347 : Cond.methodLink yX8_init.cls 347 yX1_end ∈ BIG := big_t3 147 (by decide +kernel) rfl
theorem ml_8_354 : Cond.methodLink yX8_init.cls 354 yX8_ahead ∈ BIG := big_t3 84 (by decide +kernel) rfl
theorem ml_8_357 : Cond.methodLink yX8_init.cls 357 yX8_turn ∈ BIG := big_t3 25 (by decide +kernel) rfl
theorem ml_8_53 : Cond.methodLink yX8_init.cls 53 yX8_within ∈ BIG := big_t2 94 (by decide +kernel) rfl
theorem ml_8_57 : Cond.methodLink yX8_init.cls 57 yX5_write ∈ BIG := big_t2 97 (by decide +kernel) rfl
theorem ml_8_65 : Cond.methodLink yX8_init.cls 65 yX5_wipe ∈ BIG := big_t2 105 (by decide +kernel) rfl
theorem ml_8_69 : Cond.methodLink yX8_init.cls 69 yX5_firstFault ∈ BIG := big_t2 113 (by decide +kernel) rfl
theorem ml_8_72 : Cond.methodLink yX8_init.cls 72 yX5_isAir ∈ BIG := big_t2 126 (by decide +kernel) rfl
theorem ml_8_76 : Cond.methodLink yX8_init.cls 76 yX0_read ∈ BIG := big_t2 131 (by decide +kernel) rfl
theorem ml_8_80 : Cond.methodLink yX8_init.cls 80 yX7_clear ∈ BIG := big_t2 143 (by decide +kernel) rfl
theorem ml_8_86 : Cond.methodLink yX8_init.cls 86 yX6_clear ∈ BIG := big_t2 147 (by decide +kernel) rfl
theorem ml_8_87 : Cond.methodLink yX8_init.cls 87 yX3_vanish ∈ BIG := big_t2 151 (by decide +kernel) rfl
theorem ml_8_90 : Cond.methodLink yX8_init.cls 90 yX1_vanish ∈ BIG := big_t2 155 (by decide +kernel) rfl
theorem ml_9_119 : Cond.methodLink yX9_init.cls 119 yX9_ahead ∈ BIG := big_t5 18 (by decide +kernel) rfl
theorem ml_9_123 : Cond.methodLink yX9_init.cls 123 yX9_within ∈ BIG := big_t4 204 (by decide +kernel) rfl
theorem ml_9_131 : Cond.methodLink yX9_init.cls 131 yX9_fitsAt ∈ BIG := big_t4 219 (by decide +kernel) rfl
theorem ml_9_135 : Cond.methodLink yX9_init.cls 135 yX9_faultNow ∈ BIG := big_t4 215 (by decide +kernel) rfl
theorem ml_9_160 : Cond.methodLink yX9_init.cls 160 yX9_isAir ∈ BIG := big_t4 230 (by decide +kernel) rfl
theorem ml_9_164 : Cond.methodLink yX9_init.cls 164 yX9_drop ∈ BIG := big_t5 67 (by decide +kernel) rfl
theorem ml_9_168 : Cond.methodLink yX9_init.cls 168 yX9_turned ∈ BIG := big_t5 56 (by decide +kernel) rfl
theorem ml_9_171 : Cond.methodLink yX9_init.cls 171 yX9_isClass ∈ BIG := big_t4 234 (by decide +kernel) rfl
theorem ml_9_175 : Cond.methodLink yX9_init.cls 175 yX9_isUnderWay ∈ BIG := big_t4 238 (by decide +kernel) rfl
theorem ml_9_178 : Cond.methodLink yX9_init.cls 178 yX9_send ∈ BIG := big_t5 2 (by decide +kernel) rfl
theorem ml_9_182 : Cond.methodLink yX9_init.cls 182 yX9_isOpen ∈ BIG := big_t5 10 (by decide +kernel) rfl
theorem ml_9_185 : Cond.methodLink yX9_init.cls 185 yX9_notDone ∈ BIG := big_t5 14 (by decide +kernel) rfl
theorem ml_9_195 : Cond.methodLink yX9_init.cls 195 yX9_left ∈ BIG := big_t5 29 (by decide +kernel) rfl
theorem ml_9_205 : Cond.methodLink yX9_init.cls 205 yX9_tryOne ∈ BIG := big_t5 41 (by decide +kernel) rfl
theorem ml_9_209 : Cond.methodLink yX9_init.cls 209 yX9_give ∈ BIG := big_t5 49 (by decide +kernel) rfl
theorem ml_9_213 : Cond.methodLink yX9_init.cls 213 yX9_checkOf ∈ BIG := big_t5 53 (by decide +kernel) rfl
theorem ml_9_217 : Cond.methodLink yX9_init.cls 217 yX9_sendBar ∈ BIG := big_t5 33 (by decide +kernel) rfl
theorem ml_9_220 : Cond.methodLink yX9_init.cls 220 yX9_plan ∈ BIG := big_t5 37 (by decide +kernel) rfl
theorem ml_9_223 : Cond.methodLink yX9_init.cls 223 yX9_sendBundle ∈ BIG := big_t5 45 (by decide +kernel) rfl
theorem ml_9_226 : Cond.methodLink yX9_init.cls 226 yX9_loseNow ∈ BIG := big_t5 63 (by decide +kernel) rfl
theorem ml_9_229 : Cond.methodLink yX9_init.cls 229 yX9_giveUp ∈ BIG := big_t5 71 (by decide +kernel) rfl
theorem ml_9_232 : Cond.methodLink yX9_init.cls 232 yX9_releases ∈ BIG := big_t5 117 (by decide +kernel) rfl
theorem ml_9_235 : Cond.methodLink yX9_init.cls 235 yX9_steps ∈ BIG := big_t5 113 (by decide +kernel) rfl
theorem ml_9_238 : Cond.methodLink yX9_init.cls 238 yX9_isBehind ∈ BIG := big_t5 95 (by decide +kernel) rfl
theorem ml_9_241 : Cond.methodLink yX9_init.cls 241 yX9_lastOf ∈ BIG := big_t5 98 (by decide +kernel) rfl
theorem ml_9_244 : Cond.methodLink yX9_init.cls 244 yX9_marksTo ∈ BIG := big_t5 101 (by decide +kernel) rfl
theorem ml_9_247 : Cond.methodLink yX9_init.cls 247 yX9_marks ∈ BIG := big_t5 91 (by decide +kernel) rfl
theorem ml_9_250 : Cond.methodLink yX9_init.cls 250 yX9_doubles ∈ BIG := big_t5 105 (by decide +kernel) rfl
theorem ml_9_253 : Cond.methodLink yX9_init.cls 253 yX9_movesTo ∈ BIG := big_t5 109 (by decide +kernel) rfl
theorem ml_9_256 : Cond.methodLink yX9_init.cls 256 yX9_goesOn ∈ BIG := big_t5 121 (by decide +kernel) rfl
theorem ml_9_259 : Cond.methodLink yX9_init.cls 259 yX9_ends ∈ BIG := big_t5 133 (by decide +kernel) rfl
theorem ml_9_262 : Cond.methodLink yX9_init.cls 262 yX9_comesNumber ∈ BIG := big_t5 87 (by decide +kernel) rfl
theorem ml_9_265 : Cond.methodLink yX9_init.cls 265 yX9_comesAsk ∈ BIG := big_t5 129 (by decide +kernel) rfl
theorem ml_9_269 : Cond.methodLink yX9_init.cls 269 yX9_comesYes ∈ BIG := big_t5 137 (by decide +kernel) rfl
theorem ml_9_272 : Cond.methodLink yX9_init.cls 272 yX9_comesBar ∈ BIG := big_t5 141 (by decide +kernel) rfl
theorem ml_9_275 : Cond.methodLink yX9_init.cls 275 yX9_comesAnswer ∈ BIG := big_t5 145 (by decide +kernel) rfl
theorem ml_9_278 : Cond.methodLink yX9_init.cls 278 yX9_isLetter ∈ BIG := big_t5 79 (by decide +kernel) rfl
theorem ml_9_281 : Cond.methodLink yX9_init.cls 281 yX9_comesBundle ∈ BIG := big_t5 83 (by decide +kernel) rfl
theorem ml_9_284 : Cond.methodLink yX9_init.cls 284 yX9_comesOther ∈ BIG := big_t5 125 (by decide +kernel) rfl
theorem ml_9_287 : Cond.methodLink yX9_init.cls 287 yX9_firstHeld ∈ BIG := big_t5 161 (by decide +kernel) rfl
theorem ml_9_290 : Cond.methodLink yX9_init.cls 290 yX9_tick ∈ BIG := big_t5 157 (by decide +kernel) rfl
theorem ml_9_293 : Cond.methodLink yX9_init.cls 293 yX9_aboutNow ∈ BIG := big_t5 169 (by decide +kernel) rfl
theorem ml_9_296 : Cond.methodLink yX9_init.cls 296 yX9_nearNow ∈ BIG := big_t5 177 (by decide +kernel) rfl
theorem ml_9_299 : Cond.methodLink yX9_init.cls 299 yX9_givenNow ∈ BIG := big_t5 185 (by decide +kernel) rfl
theorem ml_9_303 : Cond.methodLink yX9_init.cls 303 yX9_heldMany ∈ BIG := big_t5 197 (by decide +kernel) rfl
theorem ml_9_306 : Cond.methodLink yX9_init.cls 306 yX9_farNow ∈ BIG := big_t5 193 (by decide +kernel) rfl
theorem ml_9_309 : Cond.methodLink yX9_init.cls 309 yX9_underNow ∈ BIG := big_t5 217 (by decide +kernel) rfl
theorem ml_9_312 : Cond.methodLink yX9_init.cls 312 yX9_howMany ∈ BIG := big_t5 229 (by decide +kernel) rfl
theorem ml_9_321 : Cond.methodLink yX9_init.cls 321 yX9_mix ∈ BIG := big_t6 2 (by decide +kernel) rfl
theorem ml_9_325 : Cond.methodLink yX9_init.cls 325 yX9_mixNear ∈ BIG := big_t6 7 (by decide +kernel) rfl
theorem ml_9_328 : Cond.methodLink yX9_init.cls 328 yX9_mixFar ∈ BIG := big_t6 11 (by decide +kernel) rfl
theorem ml_9_333 : Cond.methodLink yX9_init.cls 333 yX9_mixAir ∈ BIG := big_t5 238 (by decide +kernel) rfl
theorem mn_8_325 : Cond.methodLink yX8_init.cls 325 Lib.Math.min.name ∈ BIG := big_t3 124 (by decide +kernel) rfl
theorem mn_s : Cond.static Lib.Math.min.name ∈ BIG := big_t3 125 (by decide +kernel) rfl
theorem mn_i : Cond.initialized "java/lang/Math" ∈ BIG := big_t1 11 (by decide +kernel) rfl
theorem mn_c : Cond.code Lib.Math.min.name Lib.Math.min.code 2 (some .int) ∈ BIG := big_t3 126 (by decide +kernel) rfl
theorem nl_0_43 : Cond.methodLinkNest yX0_init.cls 43 yX8_flag "BoundFrames" ∈ lw_tbl.filter isNest := nst_t3 182 (by decide +kernel) rfl
theorem nl_1_111 : Cond.methodLinkNest yX1_init.cls 111 yX8_round "BoundFrames" ∈ lw_tbl.filter isNest := nst_t3 90 (by decide +kernel) rfl
theorem nl_1_65 : Cond.methodLinkNest yX1_init.cls 65 yX8_within "BoundFrames" ∈ lw_tbl.filter isNest := nst_t3 220 (by decide +kernel) rfl
theorem nl_1_69 : Cond.methodLinkNest yX1_init.cls 69 yX8_slot "BoundFrames" ∈ lw_tbl.filter isNest := nst_t3 99 (by decide +kernel) rfl
theorem nl_1_80 : Cond.methodLinkNest yX1_init.cls 80 yX8_flag "BoundFrames" ∈ lw_tbl.filter isNest := nst_t3 168 (by decide +kernel) rfl
theorem nl_1_84 : Cond.methodLinkNest yX1_init.cls 84 yX8_isBehind "BoundFrames" ∈ lw_tbl.filter isNest := nst_t3 81 (by decide +kernel) rfl
theorem nl_1_88 : Cond.methodLinkNest yX1_init.cls 88 yX8_ahead "BoundFrames" ∈ lw_tbl.filter isNest := nst_t3 85 (by decide +kernel) rfl
theorem nl_2_49 : Cond.methodLinkNest yX2_init.cls 49 yX8_within "BoundFrames" ∈ lw_tbl.filter isNest := nst_t3 75 (by decide +kernel) rfl
theorem nl_2_53 : Cond.methodLinkNest yX2_init.cls 53 yX8_checkOf "BoundFrames" ∈ lw_tbl.filter isNest := nst_t3 22 (by decide +kernel) rfl
theorem nl_3_101 : Cond.methodLinkNest yX3_init.cls 101 yX8_round "BoundFrames" ∈ lw_tbl.filter isNest := nst_t3 15 (by decide +kernel) rfl
theorem nl_3_70 : Cond.methodLinkNest yX3_init.cls 70 yX8_ahead "BoundFrames" ∈ lw_tbl.filter isNest := nst_t2 206 (by decide +kernel) rfl
theorem nl_3_78 : Cond.methodLinkNest yX3_init.cls 78 yX8_within "BoundFrames" ∈ lw_tbl.filter isNest := nst_t3 6 (by decide +kernel) rfl
theorem nl_3_82 : Cond.methodLinkNest yX3_init.cls 82 yX8_slot "BoundFrames" ∈ lw_tbl.filter isNest := nst_t2 209 (by decide +kernel) rfl
theorem nl_3_86 : Cond.methodLinkNest yX3_init.cls 86 yX8_flag "BoundFrames" ∈ lw_tbl.filter isNest := nst_t2 212 (by decide +kernel) rfl
theorem nl_4_19 : Cond.methodLinkNest yX4_init.cls 19 yX8_within "BoundFrames" ∈ lw_tbl.filter isNest := nst_t3 238 (by decide +kernel) rfl
theorem nl_5_25 : Cond.methodLinkNest yX5_init.cls 25 yX8_within "BoundFrames" ∈ lw_tbl.filter isNest := nst_t2 121 (by decide +kernel) rfl
theorem nl_6_26 : Cond.methodLinkNest yX6_init.cls 26 yX8_within "BoundFrames" ∈ lw_tbl.filter isNest := nst_t3 48 (by decide +kernel) rfl
theorem nl_6_50 : Cond.methodLinkNest yX6_init.cls 50 yX8_flag "BoundFrames" ∈ lw_tbl.filter isNest := nst_t2 174 (by decide +kernel) rfl
theorem sk_5_19 : Cond.fieldLink yX5_init.cls 19 RX5 "LOWEST" "[I" ∈ BIG := big_t2 117 (by decide +kernel) rfl
theorem sk_5_22 : Cond.fieldLink yX5_init.cls 22 RX5 "HIGHEST" "[I" ∈ BIG := big_t2 119 (by decide +kernel) rfl
theorem ms_X8_within : MS yX8_within cX8_within 3 (some .boolean) 3 := ⟨big_t2 95 (by decide +kernel) rfl, big_t1 1 (by decide +kernel) rfl, big_t2 96 (by decide +kernel) rfl, by decide +kernel, by decide +kernel, by decide +kernel⟩
theorem mi_X5_at : MI yX5_at 5 cX5_at 2 (some .int) 1 := ⟨big_t2 140 (by decide +kernel) rfl, big_t2 141 (by decide +kernel) rfl, big_t1 2 (by decide +kernel) rfl, big_t2 142 (by decide +kernel) rfl, ⟨by decide +kernel, by decide⟩, by decide +kernel, by decide +kernel, by decide +kernel⟩
theorem mi_X5_digitAt : MI yX5_digitAt 5 cX5_digitAt 2 (some .int) 1 := ⟨big_t2 136 (by decide +kernel) rfl, big_t2 137 (by decide +kernel) rfl, big_t1 2 (by decide +kernel) rfl, big_t2 138 (by decide +kernel) rfl, ⟨by decide +kernel, by decide⟩, by decide +kernel, by decide +kernel, by decide +kernel⟩
theorem mi_X0_read : MI yX0_read 0 cX0_read 2 none 1 := ⟨big_t2 132 (by decide +kernel) rfl, big_t2 133 (by decide +kernel) rfl, big_t1 3 (by decide +kernel) rfl, big_t2 134 (by decide +kernel) rfl, ⟨by decide +kernel, by decide⟩, by decide +kernel, by decide +kernel, by decide +kernel⟩
theorem mi_X0_left : MI yX0_left 0 cX0_left 3 (some .int) 0 := ⟨big_t2 230 (by decide +kernel) rfl, big_t2 231 (by decide +kernel) rfl, big_t1 3 (by decide +kernel) rfl, big_t2 232 (by decide +kernel) rfl, ⟨by decide +kernel, by decide⟩, by decide +kernel, by decide +kernel, by decide +kernel⟩
theorem mi_X0_isAwake : MI yX0_isAwake 0 cX0_isAwake 1 (some .boolean) 0 := ⟨big_t2 226 (by decide +kernel) rfl, big_t2 227 (by decide +kernel) rfl, big_t1 3 (by decide +kernel) rfl, big_t2 228 (by decide +kernel) rfl, ⟨by decide +kernel, by decide⟩, by decide +kernel, by decide +kernel, by decide +kernel⟩
theorem ms_X8_flag : MS yX8_flag cX8_flag 1 (some .int) 1 := ⟨big_t2 175 (by decide +kernel) rfl, big_t1 1 (by decide +kernel) rfl, big_t2 176 (by decide +kernel) rfl, by decide +kernel, by decide +kernel, by decide +kernel⟩
theorem mi_X0_tell : MI yX0_tell 0 cX0_tell 2 (some .int) 1 := ⟨big_t3 178 (by decide +kernel) rfl, big_t3 179 (by decide +kernel) rfl, big_t1 3 (by decide +kernel) rfl, big_t3 180 (by decide +kernel) rfl, ⟨by decide +kernel, by decide⟩, by decide +kernel, by decide +kernel, by decide +kernel⟩
theorem mi_X4_clear : MI yX4_clear 4 cX4_clear 1 none 0 := ⟨big_t2 160 (by decide +kernel) rfl, big_t2 161 (by decide +kernel) rfl, big_t1 9 (by decide +kernel) rfl, big_t2 162 (by decide +kernel) rfl, ⟨by decide +kernel, by decide⟩, by decide +kernel, by decide +kernel, by decide +kernel⟩
theorem mi_X1_vanish : MI yX1_vanish 1 cX1_vanish 1 none 0 := ⟨big_t2 156 (by decide +kernel) rfl, big_t2 157 (by decide +kernel) rfl, big_t1 8 (by decide +kernel) rfl, big_t2 158 (by decide +kernel) rfl, ⟨by decide +kernel, by decide⟩, by decide +kernel, by decide +kernel, by decide +kernel⟩
theorem ms_X8_slot : MS yX8_slot cX8_slot 1 (some .int) 1 := ⟨big_t2 210 (by decide +kernel) rfl, big_t1 1 (by decide +kernel) rfl, big_t2 211 (by decide +kernel) rfl, by decide +kernel, by decide +kernel, by decide +kernel⟩
theorem mi_X4_put : MI yX4_put 4 cX4_put 3 none 1 := ⟨big_t3 105 (by decide +kernel) rfl, big_t3 106 (by decide +kernel) rfl, big_t1 9 (by decide +kernel) rfl, big_t3 107 (by decide +kernel) rfl, ⟨by decide +kernel, by decide⟩, by decide +kernel, by decide +kernel, by decide +kernel⟩
theorem mi_X1_release : MI yX1_release 1 cX1_release 2 none 1 := ⟨big_t3 101 (by decide +kernel) rfl, big_t3 102 (by decide +kernel) rfl, big_t1 8 (by decide +kernel) rfl, big_t3 103 (by decide +kernel) rfl, ⟨by decide +kernel, by decide⟩, by decide +kernel, by decide +kernel, by decide +kernel⟩
theorem ms_X8_round : MS yX8_round cX8_round 1 (some .int) 1 := ⟨big_t3 16 (by decide +kernel) rfl, big_t1 1 (by decide +kernel) rfl, big_t3 17 (by decide +kernel) rfl, by decide +kernel, by decide +kernel, by decide +kernel⟩
theorem mi_X1_moveFrom : MI yX1_moveFrom 1 cX1_moveFrom 4 none 1 := ⟨big_t3 96 (by decide +kernel) rfl, big_t3 97 (by decide +kernel) rfl, big_t1 8 (by decide +kernel) rfl, big_t3 98 (by decide +kernel) rfl, ⟨by decide +kernel, by decide⟩, by decide +kernel, by decide +kernel, by decide +kernel⟩
theorem mi_X1_end : MI yX1_end 1 cX1_end 1 none 0 := ⟨big_t3 132 (by decide +kernel) rfl, big_t3 133 (by decide +kernel) rfl, big_t1 8 (by decide +kernel) rfl, big_t3 134 (by decide +kernel) rfl, ⟨by decide +kernel, by decide⟩, by decide +kernel, by decide +kernel, by decide +kernel⟩
theorem mi_X1_begin : MI yX1_begin 1 cX1_begin 5 none 3 := ⟨big_t3 128 (by decide +kernel) rfl, big_t3 129 (by decide +kernel) rfl, big_t1 8 (by decide +kernel) rfl, big_t3 130 (by decide +kernel) rfl, ⟨by decide +kernel, by decide⟩, by decide +kernel, by decide +kernel, by decide +kernel⟩
theorem mi_X1_is : MI yX1_is 1 cX1_is 2 (some .boolean) 1 := ⟨big_t3 227 (by decide +kernel) rfl, big_t3 228 (by decide +kernel) rfl, big_t1 8 (by decide +kernel) rfl, big_t3 229 (by decide +kernel) rfl, ⟨by decide +kernel, by decide⟩, by decide +kernel, by decide +kernel, by decide +kernel⟩
theorem mi_X1_hasPlace : MI yX1_hasPlace 1 cX1_hasPlace 2 (some .boolean) 1 := ⟨big_t3 217 (by decide +kernel) rfl, big_t3 218 (by decide +kernel) rfl, big_t1 8 (by decide +kernel) rfl, big_t3 219 (by decide +kernel) rfl, ⟨by decide +kernel, by decide⟩, by decide +kernel, by decide +kernel, by decide +kernel⟩
theorem mi_X1_keptAt : MI yX1_keptAt 1 cX1_keptAt 2 (some .int) 1 := ⟨big_t3 113 (by decide +kernel) rfl, big_t3 114 (by decide +kernel) rfl, big_t1 8 (by decide +kernel) rfl, big_t3 115 (by decide +kernel) rfl, ⟨by decide +kernel, by decide⟩, by decide +kernel, by decide +kernel, by decide +kernel⟩
theorem mi_X1_holdsAt : MI yX1_holdsAt 1 cX1_holdsAt 2 (some .boolean) 1 := ⟨big_t3 165 (by decide +kernel) rfl, big_t3 166 (by decide +kernel) rfl, big_t1 8 (by decide +kernel) rfl, big_t3 167 (by decide +kernel) rfl, ⟨by decide +kernel, by decide⟩, by decide +kernel, by decide +kernel, by decide +kernel⟩
theorem mi_X1_heldCount : MI yX1_heldCount 1 cX1_heldCount 3 (some .int) 0 := ⟨big_t3 161 (by decide +kernel) rfl, big_t3 162 (by decide +kernel) rfl, big_t1 8 (by decide +kernel) rfl, big_t3 163 (by decide +kernel) rfl, ⟨by decide +kernel, by decide⟩, by decide +kernel, by decide +kernel, by decide +kernel⟩
theorem ms_X8_ahead : MS yX8_ahead cX8_ahead 2 (some .int) 2 := ⟨big_t2 207 (by decide +kernel) rfl, big_t1 1 (by decide +kernel) rfl, big_t2 208 (by decide +kernel) rfl, by decide +kernel, by decide +kernel, by decide +kernel⟩
theorem ms_X8_isBehind : MS yX8_isBehind cX8_isBehind 2 (some .boolean) 2 := ⟨big_t3 82 (by decide +kernel) rfl, big_t1 1 (by decide +kernel) rfl, big_t3 83 (by decide +kernel) rfl, by decide +kernel, by decide +kernel, by decide +kernel⟩
theorem mi_X1_moveMark : MI yX1_moveMark 1 cX1_moveMark 2 none 1 := ⟨big_t3 87 (by decide +kernel) rfl, big_t3 88 (by decide +kernel) rfl, big_t1 8 (by decide +kernel) rfl, big_t3 89 (by decide +kernel) rfl, ⟨by decide +kernel, by decide⟩, by decide +kernel, by decide +kernel, by decide +kernel⟩
theorem mi_X1_isDoubled : MI yX1_isDoubled 1 cX1_isDoubled 1 none 0 := ⟨big_t3 92 (by decide +kernel) rfl, big_t3 93 (by decide +kernel) rfl, big_t1 8 (by decide +kernel) rfl, big_t3 94 (by decide +kernel) rfl, ⟨by decide +kernel, by decide⟩, by decide +kernel, by decide +kernel, by decide +kernel⟩
theorem mi_X1_moveOn : MI yX1_moveOn 1 cX1_moveOn 2 none 0 := ⟨big_t3 109 (by decide +kernel) rfl, big_t3 110 (by decide +kernel) rfl, big_t1 8 (by decide +kernel) rfl, big_t3 111 (by decide +kernel) rfl, ⟨by decide +kernel, by decide⟩, by decide +kernel, by decide +kernel, by decide +kernel⟩
theorem mi_X1_comes : MI yX1_comes 1 cX1_comes 3 none 2 := ⟨big_t3 78 (by decide +kernel) rfl, big_t3 79 (by decide +kernel) rfl, big_t1 8 (by decide +kernel) rfl, big_t3 80 (by decide +kernel) rfl, ⟨by decide +kernel, by decide⟩, by decide +kernel, by decide +kernel, by decide +kernel⟩
theorem mi_X1_bar : MI yX1_bar 1 cX1_bar 2 none 1 := ⟨big_t3 140 (by decide +kernel) rfl, big_t3 141 (by decide +kernel) rfl, big_t1 8 (by decide +kernel) rfl, big_t3 142 (by decide +kernel) rfl, ⟨by decide +kernel, by decide⟩, by decide +kernel, by decide +kernel, by decide +kernel⟩
theorem mi_X1_firstHeld : MI yX1_firstHeld 1 cX1_firstHeld 2 (some .int) 0 := ⟨big_t3 170 (by decide +kernel) rfl, big_t3 171 (by decide +kernel) rfl, big_t1 8 (by decide +kernel) rfl, big_t3 172 (by decide +kernel) rfl, ⟨by decide +kernel, by decide⟩, by decide +kernel, by decide +kernel, by decide +kernel⟩
theorem mi_X1_tick : MI yX1_tick 1 cX1_tick 1 none 0 := ⟨big_t3 157 (by decide +kernel) rfl, big_t3 158 (by decide +kernel) rfl, big_t1 8 (by decide +kernel) rfl, big_t3 159 (by decide +kernel) rfl, ⟨by decide +kernel, by decide⟩, by decide +kernel, by decide +kernel, by decide +kernel⟩
theorem mi_X1_tell : MI yX1_tell 1 cX1_tell 2 (some .int) 1 := ⟨big_t3 209 (by decide +kernel) rfl, big_t3 210 (by decide +kernel) rfl, big_t1 8 (by decide +kernel) rfl, big_t3 211 (by decide +kernel) rfl, ⟨by decide +kernel, by decide⟩, by decide +kernel, by decide +kernel, by decide +kernel⟩
theorem mi_X2_begin : MI yX2_begin 2 cX2_begin 3 none 2 := ⟨big_t2 187 (by decide +kernel) rfl, big_t2 188 (by decide +kernel) rfl, big_t1 6 (by decide +kernel) rfl, big_t2 189 (by decide +kernel) rfl, ⟨by decide +kernel, by decide⟩, by decide +kernel, by decide +kernel, by decide +kernel⟩
theorem mi_X2_goesToFarEnd : MI yX2_goesToFarEnd 2 cX2_goesToFarEnd 1 (some .boolean) 0 := ⟨big_t3 64 (by decide +kernel) rfl, big_t3 65 (by decide +kernel) rfl, big_t1 6 (by decide +kernel) rfl, big_t3 66 (by decide +kernel) rfl, ⟨by decide +kernel, by decide⟩, by decide +kernel, by decide +kernel, by decide +kernel⟩
theorem mi_X2_hasFrame : MI yX2_hasFrame 2 cX2_hasFrame 2 (some .boolean) 1 := ⟨big_t3 72 (by decide +kernel) rfl, big_t3 73 (by decide +kernel) rfl, big_t1 6 (by decide +kernel) rfl, big_t3 74 (by decide +kernel) rfl, ⟨by decide +kernel, by decide⟩, by decide +kernel, by decide +kernel, by decide +kernel⟩
theorem ms_X8_turn : MS yX8_turn cX8_turn 5 (some .int) 2 := ⟨big_t3 26 (by decide +kernel) rfl, big_t1 1 (by decide +kernel) rfl, big_t3 27 (by decide +kernel) rfl, by decide +kernel, by decide +kernel, by decide +kernel⟩
theorem ms_X8_checkOf : MS yX8_checkOf cX8_checkOf 5 (some .int) 4 := ⟨big_t3 23 (by decide +kernel) rfl, big_t1 1 (by decide +kernel) rfl, big_t3 24 (by decide +kernel) rfl, by decide +kernel, by decide +kernel, by decide +kernel⟩
theorem mi_X2_bind : MI yX2_bind 2 cX2_bind 4 none 3 := ⟨big_t3 19 (by decide +kernel) rfl, big_t3 20 (by decide +kernel) rfl, big_t1 6 (by decide +kernel) rfl, big_t3 21 (by decide +kernel) rfl, ⟨by decide +kernel, by decide⟩, by decide +kernel, by decide +kernel, by decide +kernel⟩
theorem mi_X2_tell : MI yX2_tell 2 cX2_tell 2 (some .int) 1 := ⟨big_t4 10 (by decide +kernel) rfl, big_t4 11 (by decide +kernel) rfl, big_t1 6 (by decide +kernel) rfl, big_t4 12 (by decide +kernel) rfl, ⟨by decide +kernel, by decide⟩, by decide +kernel, by decide +kernel, by decide +kernel⟩
theorem mi_X2_tellFrame : MI yX2_tellFrame 2 cX2_tellFrame 3 (some .int) 2 := ⟨big_t4 18 (by decide +kernel) rfl, big_t4 19 (by decide +kernel) rfl, big_t1 6 (by decide +kernel) rfl, big_t4 20 (by decide +kernel) rfl, ⟨by decide +kernel, by decide⟩, by decide +kernel, by decide +kernel, by decide +kernel⟩
theorem mi_X3_vanish : MI yX3_vanish 3 cX3_vanish 1 none 0 := ⟨big_t2 152 (by decide +kernel) rfl, big_t2 153 (by decide +kernel) rfl, big_t1 7 (by decide +kernel) rfl, big_t2 154 (by decide +kernel) rfl, ⟨by decide +kernel, by decide⟩, by decide +kernel, by decide +kernel, by decide +kernel⟩
theorem mi_X3_ask : MI yX3_ask 3 cX3_ask 2 none 1 := ⟨big_t2 178 (by decide +kernel) rfl, big_t2 179 (by decide +kernel) rfl, big_t1 7 (by decide +kernel) rfl, big_t2 180 (by decide +kernel) rfl, ⟨by decide +kernel, by decide⟩, by decide +kernel, by decide +kernel, by decide +kernel⟩
theorem mi_X3_yes : MI yX3_yes 3 cX3_yes 2 none 1 := ⟨big_t3 136 (by decide +kernel) rfl, big_t3 137 (by decide +kernel) rfl, big_t1 7 (by decide +kernel) rfl, big_t3 138 (by decide +kernel) rfl, ⟨by decide +kernel, by decide⟩, by decide +kernel, by decide +kernel, by decide +kernel⟩
theorem mi_X3_enqueue : MI yX3_enqueue 3 cX3_enqueue 3 (some .boolean) 2 := ⟨big_t2 218 (by decide +kernel) rfl, big_t2 219 (by decide +kernel) rfl, big_t1 7 (by decide +kernel) rfl, big_t2 220 (by decide +kernel) rfl, ⟨by decide +kernel, by decide⟩, by decide +kernel, by decide +kernel, by decide +kernel⟩
theorem mi_X3_spread : MI yX3_spread 3 cX3_spread 1 (some .int) 0 := ⟨big_t2 203 (by decide +kernel) rfl, big_t2 204 (by decide +kernel) rfl, big_t1 7 (by decide +kernel) rfl, big_t2 205 (by decide +kernel) rfl, ⟨by decide +kernel, by decide⟩, by decide +kernel, by decide +kernel, by decide +kernel⟩
theorem mi_X3_hasPlace : MI yX3_hasPlace 3 cX3_hasPlace 2 (some .boolean) 1 := ⟨big_t3 197 (by decide +kernel) rfl, big_t3 198 (by decide +kernel) rfl, big_t1 7 (by decide +kernel) rfl, big_t3 199 (by decide +kernel) rfl, ⟨by decide +kernel, by decide⟩, by decide +kernel, by decide +kernel, by decide +kernel⟩
theorem mi_X3_undone : MI yX3_undone 3 cX3_undone 4 (some .int) 0 := ⟨big_t2 199 (by decide +kernel) rfl, big_t2 200 (by decide +kernel) rfl, big_t1 7 (by decide +kernel) rfl, big_t2 201 (by decide +kernel) rfl, ⟨by decide +kernel, by decide⟩, by decide +kernel, by decide +kernel, by decide +kernel⟩
theorem mi_X3_queuedLength : MI yX3_queuedLength 3 cX3_queuedLength 2 (some .int) 1 := ⟨big_t3 3 (by decide +kernel) rfl, big_t3 4 (by decide +kernel) rfl, big_t1 7 (by decide +kernel) rfl, big_t3 5 (by decide +kernel) rfl, ⟨by decide +kernel, by decide⟩, by decide +kernel, by decide +kernel, by decide +kernel⟩
theorem mi_X3_bundleSize : MI yX3_bundleSize 3 cX3_bundleSize 7 (some .int) 2 := ⟨big_t2 239 (by decide +kernel) rfl, big_t3 0 (by decide +kernel) rfl, big_t1 7 (by decide +kernel) rfl, big_t3 1 (by decide +kernel) rfl, ⟨by decide +kernel, by decide⟩, by decide +kernel, by decide +kernel, by decide +kernel⟩
theorem mi_X3_giveNext : MI yX3_giveNext 3 cX3_giveNext 3 none 0 := ⟨big_t3 12 (by decide +kernel) rfl, big_t3 13 (by decide +kernel) rfl, big_t1 7 (by decide +kernel) rfl, big_t3 14 (by decide +kernel) rfl, ⟨by decide +kernel, by decide⟩, by decide +kernel, by decide +kernel, by decide +kernel⟩
theorem mi_X3_bundleGoes : MI yX3_bundleGoes 3 cX3_bundleGoes 5 none 2 := ⟨big_t3 8 (by decide +kernel) rfl, big_t3 9 (by decide +kernel) rfl, big_t1 7 (by decide +kernel) rfl, big_t3 10 (by decide +kernel) rfl, ⟨by decide +kernel, by decide⟩, by decide +kernel, by decide +kernel, by decide +kernel⟩
theorem mi_X3_barGoes : MI yX3_barGoes 3 cX3_barGoes 1 none 0 := ⟨big_t2 234 (by decide +kernel) rfl, big_t2 235 (by decide +kernel) rfl, big_t1 7 (by decide +kernel) rfl, big_t2 236 (by decide +kernel) rfl, ⟨by decide +kernel, by decide⟩, by decide +kernel, by decide +kernel, by decide +kernel⟩
theorem mi_X3_giveUp : MI yX3_giveUp 3 cX3_giveUp 4 none 0 := ⟨big_t3 54 (by decide +kernel) rfl, big_t3 55 (by decide +kernel) rfl, big_t1 7 (by decide +kernel) rfl, big_t3 56 (by decide +kernel) rfl, ⟨by decide +kernel, by decide⟩, by decide +kernel, by decide +kernel, by decide +kernel⟩
theorem mi_X3_answered : MI yX3_answered 3 cX3_answered 6 none 2 := ⟨big_t3 144 (by decide +kernel) rfl, big_t3 145 (by decide +kernel) rfl, big_t1 7 (by decide +kernel) rfl, big_t3 146 (by decide +kernel) rfl, ⟨by decide +kernel, by decide⟩, by decide +kernel, by decide +kernel, by decide +kernel⟩
theorem mi_X3_waitNoLonger : MI yX3_waitNoLonger 3 cX3_waitNoLonger 1 none 0 := ⟨big_t3 50 (by decide +kernel) rfl, big_t3 51 (by decide +kernel) rfl, big_t1 7 (by decide +kernel) rfl, big_t3 52 (by decide +kernel) rfl, ⟨by decide +kernel, by decide⟩, by decide +kernel, by decide +kernel, by decide +kernel⟩
theorem mi_X3_tell : MI yX3_tell 3 cX3_tell 2 (some .int) 1 := ⟨big_t3 188 (by decide +kernel) rfl, big_t3 189 (by decide +kernel) rfl, big_t1 7 (by decide +kernel) rfl, big_t3 190 (by decide +kernel) rfl, ⟨by decide +kernel, by decide⟩, by decide +kernel, by decide +kernel, by decide +kernel⟩
theorem mi_X3_tellGiven : MI yX3_tellGiven 3 cX3_tellGiven 4 (some .int) 2 := ⟨big_t3 201 (by decide +kernel) rfl, big_t3 202 (by decide +kernel) rfl, big_t1 7 (by decide +kernel) rfl, big_t3 203 (by decide +kernel) rfl, ⟨by decide +kernel, by decide⟩, by decide +kernel, by decide +kernel, by decide +kernel⟩
theorem mi_X4_has : MI yX4_has 4 cX4_has 2 (some .boolean) 1 := ⟨big_t3 235 (by decide +kernel) rfl, big_t3 236 (by decide +kernel) rfl, big_t1 9 (by decide +kernel) rfl, big_t3 237 (by decide +kernel) rfl, ⟨by decide +kernel, by decide⟩, by decide +kernel, by decide +kernel, by decide +kernel⟩
theorem mi_X4_at : MI yX4_at 4 cX4_at 2 (some .int) 1 := ⟨big_t4 0 (by decide +kernel) rfl, big_t4 1 (by decide +kernel) rfl, big_t1 9 (by decide +kernel) rfl, big_t4 2 (by decide +kernel) rfl, ⟨by decide +kernel, by decide⟩, by decide +kernel, by decide +kernel, by decide +kernel⟩
theorem mi_X5_write : MI yX5_write 5 cX5_write 2 (some .boolean) 1 := ⟨big_t2 98 (by decide +kernel) rfl, big_t2 99 (by decide +kernel) rfl, big_t1 2 (by decide +kernel) rfl, big_t2 100 (by decide +kernel) rfl, ⟨by decide +kernel, by decide⟩, by decide +kernel, by decide +kernel, by decide +kernel⟩
theorem mi_X5_wipe : MI yX5_wipe 5 cX5_wipe 2 (some .int) 0 := ⟨big_t2 106 (by decide +kernel) rfl, big_t2 107 (by decide +kernel) rfl, big_t1 2 (by decide +kernel) rfl, big_t2 108 (by decide +kernel) rfl, ⟨by decide +kernel, by decide⟩, by decide +kernel, by decide +kernel, by decide +kernel⟩
theorem mi_X5_firstFault : MI yX5_firstFault 5 cX5_firstFault 2 (some .int) 0 := ⟨big_t2 114 (by decide +kernel) rfl, big_t2 115 (by decide +kernel) rfl, big_t1 2 (by decide +kernel) rfl, big_t2 116 (by decide +kernel) rfl, ⟨by decide +kernel, by decide⟩, by decide +kernel, by decide +kernel, by decide +kernel⟩
theorem mi_X5_isAir : MI yX5_isAir 5 cX5_isAir 1 (some .boolean) 0 := ⟨big_t2 127 (by decide +kernel) rfl, big_t2 128 (by decide +kernel) rfl, big_t1 2 (by decide +kernel) rfl, big_t2 129 (by decide +kernel) rfl, ⟨by decide +kernel, by decide⟩, by decide +kernel, by decide +kernel, by decide +kernel⟩
theorem mi_X6_clear : MI yX6_clear 6 cX6_clear 1 none 0 := ⟨big_t2 148 (by decide +kernel) rfl, big_t2 149 (by decide +kernel) rfl, big_t1 5 (by decide +kernel) rfl, big_t2 150 (by decide +kernel) rfl, ⟨by decide +kernel, by decide⟩, by decide +kernel, by decide +kernel, by decide +kernel⟩
theorem mi_X6_has : MI yX6_has 6 cX6_has 2 (some .boolean) 1 := ⟨big_t3 45 (by decide +kernel) rfl, big_t3 46 (by decide +kernel) rfl, big_t1 5 (by decide +kernel) rfl, big_t3 47 (by decide +kernel) rfl, ⟨by decide +kernel, by decide⟩, by decide +kernel, by decide +kernel, by decide +kernel⟩
theorem mi_X6_at : MI yX6_at 6 cX6_at 2 (some (.object "BoundFrames$Letter")) 1 := ⟨big_t3 41 (by decide +kernel) rfl, big_t3 42 (by decide +kernel) rfl, big_t1 5 (by decide +kernel) rfl, big_t3 43 (by decide +kernel) rfl, ⟨by decide +kernel, by decide⟩, by decide +kernel, by decide +kernel, by decide +kernel⟩
theorem mi_X6_send : MI yX6_send 6 cX6_send 4 (some (.object "BoundFrames$Letter")) 2 := ⟨big_t2 183 (by decide +kernel) rfl, big_t2 184 (by decide +kernel) rfl, big_t1 5 (by decide +kernel) rfl, big_t2 185 (by decide +kernel) rfl, ⟨by decide +kernel, by decide⟩, by decide +kernel, by decide +kernel, by decide +kernel⟩
theorem mi_X6_take : MI yX6_take 6 cX6_take 4 (some (.object "BoundFrames$Letter")) 1 := ⟨big_t3 37 (by decide +kernel) rfl, big_t3 38 (by decide +kernel) rfl, big_t1 5 (by decide +kernel) rfl, big_t3 39 (by decide +kernel) rfl, ⟨by decide +kernel, by decide⟩, by decide +kernel, by decide +kernel, by decide +kernel⟩
theorem mi_X6_countOf : MI yX6_countOf 6 cX6_countOf 4 (some .int) 1 := ⟨big_t2 171 (by decide +kernel) rfl, big_t2 172 (by decide +kernel) rfl, big_t1 5 (by decide +kernel) rfl, big_t2 173 (by decide +kernel) rfl, ⟨by decide +kernel, by decide⟩, by decide +kernel, by decide +kernel, by decide +kernel⟩
theorem mi_X6_loseAllOf : MI yX6_loseAllOf 6 cX6_loseAllOf 4 (some .int) 1 := ⟨big_t3 33 (by decide +kernel) rfl, big_t3 34 (by decide +kernel) rfl, big_t1 5 (by decide +kernel) rfl, big_t3 35 (by decide +kernel) rfl, ⟨by decide +kernel, by decide⟩, by decide +kernel, by decide +kernel, by decide +kernel⟩
theorem mi_X7_clear : MI yX7_clear 7 cX7_clear 1 none 0 := ⟨big_t2 144 (by decide +kernel) rfl, big_t2 145 (by decide +kernel) rfl, big_t1 4 (by decide +kernel) rfl, big_t2 146 (by decide +kernel) rfl, ⟨by decide +kernel, by decide⟩, by decide +kernel, by decide +kernel, by decide +kernel⟩
theorem mi_X8_letter : MI yX8_letter 8 cX8_letter 2 (some .int) 1 := ⟨big_t2 91 (by decide +kernel) rfl, big_t2 92 (by decide +kernel) rfl, big_t1 1 (by decide +kernel) rfl, big_t2 93 (by decide +kernel) rfl, ⟨by decide +kernel, by decide⟩, by decide +kernel, by decide +kernel, by decide +kernel⟩
theorem mi_X8_blank : MI yX8_blank 8 cX8_blank 1 (some .int) 0 := ⟨big_t2 102 (by decide +kernel) rfl, big_t2 103 (by decide +kernel) rfl, big_t1 1 (by decide +kernel) rfl, big_t2 104 (by decide +kernel) rfl, ⟨by decide +kernel, by decide⟩, by decide +kernel, by decide +kernel, by decide +kernel⟩
theorem mi_X8_fault : MI yX8_fault 8 cX8_fault 1 (some .int) 0 := ⟨big_t2 110 (by decide +kernel) rfl, big_t2 111 (by decide +kernel) rfl, big_t1 1 (by decide +kernel) rfl, big_t2 112 (by decide +kernel) rfl, ⟨by decide +kernel, by decide⟩, by decide +kernel, by decide +kernel, by decide +kernel⟩
theorem mi_X8_air : MI yX8_air 8 cX8_air 2 (some .int) 0 := ⟨big_t2 123 (by decide +kernel) rfl, big_t2 124 (by decide +kernel) rfl, big_t1 1 (by decide +kernel) rfl, big_t2 125 (by decide +kernel) rfl, ⟨by decide +kernel, by decide⟩, by decide +kernel, by decide +kernel, by decide +kernel⟩
theorem ms_X8_isClass : MS yX8_isClass cX8_isClass 1 (some .boolean) 1 := ⟨big_t2 168 (by decide +kernel) rfl, big_t1 1 (by decide +kernel) rfl, big_t2 169 (by decide +kernel) rfl, by decide +kernel, by decide +kernel, by decide +kernel⟩
theorem mi_X8_open : MI yX8_open 8 cX8_open 7 (some .int) 5 := ⟨big_t2 164 (by decide +kernel) rfl, big_t2 165 (by decide +kernel) rfl, big_t1 1 (by decide +kernel) rfl, big_t2 166 (by decide +kernel) rfl, ⟨by decide +kernel, by decide⟩, by decide +kernel, by decide +kernel, by decide +kernel⟩
theorem mi_X8_isClassOfAir : MI yX8_isClassOfAir 8 cX8_isClassOfAir 2 (some .boolean) 1 := ⟨big_t2 196 (by decide +kernel) rfl, big_t0 0 (by decide +kernel) rfl, big_t1 1 (by decide +kernel) rfl, big_t2 197 (by decide +kernel) rfl, ⟨by decide +kernel, by decide⟩, by decide +kernel, by decide +kernel, by decide +kernel⟩
theorem mi_X8_close : MI yX8_close 8 cX8_close 4 (some .int) 1 := ⟨big_t2 191 (by decide +kernel) rfl, big_t2 192 (by decide +kernel) rfl, big_t1 1 (by decide +kernel) rfl, big_t2 193 (by decide +kernel) rfl, ⟨by decide +kernel, by decide⟩, by decide +kernel, by decide +kernel, by decide +kernel⟩
theorem mi_X8_feed : MI yX8_feed 8 cX8_feed 5 (some .int) 3 := ⟨big_t2 214 (by decide +kernel) rfl, big_t2 215 (by decide +kernel) rfl, big_t1 1 (by decide +kernel) rfl, big_t2 216 (by decide +kernel) rfl, ⟨by decide +kernel, by decide⟩, by decide +kernel, by decide +kernel, by decide +kernel⟩
theorem mi_X8_bundle : MI yX8_bundle 8 cX8_bundle 4 (some .int) 1 := ⟨big_t2 222 (by decide +kernel) rfl, big_t2 223 (by decide +kernel) rfl, big_t1 1 (by decide +kernel) rfl, big_t2 224 (by decide +kernel) rfl, ⟨by decide +kernel, by decide⟩, by decide +kernel, by decide +kernel, by decide +kernel⟩
theorem mi_X8_expire : MI yX8_expire 8 cX8_expire 4 (some .int) 1 := ⟨big_t3 29 (by decide +kernel) rfl, big_t3 30 (by decide +kernel) rfl, big_t1 1 (by decide +kernel) rfl, big_t3 31 (by decide +kernel) rfl, ⟨by decide +kernel, by decide⟩, by decide +kernel, by decide +kernel, by decide +kernel⟩
theorem mi_X8_answer : MI yX8_answer 8 cX8_answer 4 none 1 := ⟨big_t3 118 (by decide +kernel) rfl, big_t0 2 (by decide +kernel) rfl, big_t1 1 (by decide +kernel) rfl, big_t3 119 (by decide +kernel) rfl, ⟨by decide +kernel, by decide⟩, by decide +kernel, by decide +kernel, by decide +kernel⟩
theorem mi_X8_bundleArrives : MI yX8_bundleArrives 8 cX8_bundleArrives 7 (some .int) 2 := ⟨big_t3 69 (by decide +kernel) rfl, big_t0 1 (by decide +kernel) rfl, big_t1 1 (by decide +kernel) rfl, big_t3 70 (by decide +kernel) rfl, ⟨by decide +kernel, by decide⟩, by decide +kernel, by decide +kernel, by decide +kernel⟩
theorem mi_X8_arrives : MI yX8_arrives 8 cX8_arrives 3 none 1 := ⟨big_t3 122 (by decide +kernel) rfl, big_t0 3 (by decide +kernel) rfl, big_t1 1 (by decide +kernel) rfl, big_t3 123 (by decide +kernel) rfl, ⟨by decide +kernel, by decide⟩, by decide +kernel, by decide +kernel, by decide +kernel⟩
theorem mi_X8_deliver : MI yX8_deliver 8 cX8_deliver 6 (some .int) 2 := ⟨big_t3 58 (by decide +kernel) rfl, big_t3 59 (by decide +kernel) rfl, big_t1 1 (by decide +kernel) rfl, big_t3 60 (by decide +kernel) rfl, ⟨by decide +kernel, by decide⟩, by decide +kernel, by decide +kernel, by decide +kernel⟩
theorem mi_X8_lose : MI yX8_lose 8 cX8_lose 2 (some .int) 1 := ⟨big_t3 149 (by decide +kernel) rfl, big_t3 150 (by decide +kernel) rfl, big_t1 1 (by decide +kernel) rfl, big_t3 151 (by decide +kernel) rfl, ⟨by decide +kernel, by decide⟩, by decide +kernel, by decide +kernel, by decide +kernel⟩
theorem mi_X8_pass : MI yX8_pass 8 cX8_pass 4 (some .int) 1 := ⟨big_t3 153 (by decide +kernel) rfl, big_t3 154 (by decide +kernel) rfl, big_t1 1 (by decide +kernel) rfl, big_t3 155 (by decide +kernel) rfl, ⟨by decide +kernel, by decide⟩, by decide +kernel, by decide +kernel, by decide +kernel⟩
theorem mi_X8_about : MI yX8_about 8 cX8_about 2 (some .int) 1 := ⟨big_t3 174 (by decide +kernel) rfl, big_t3 175 (by decide +kernel) rfl, big_t1 1 (by decide +kernel) rfl, big_t3 176 (by decide +kernel) rfl, ⟨by decide +kernel, by decide⟩, by decide +kernel, by decide +kernel, by decide +kernel⟩
theorem mi_X8_near : MI yX8_near 8 cX8_near 3 (some .int) 2 := ⟨big_t3 184 (by decide +kernel) rfl, big_t3 185 (by decide +kernel) rfl, big_t1 1 (by decide +kernel) rfl, big_t3 186 (by decide +kernel) rfl, ⟨by decide +kernel, by decide⟩, by decide +kernel, by decide +kernel, by decide +kernel⟩
theorem mi_X8_given : MI yX8_given 8 cX8_given 4 (some .int) 3 := ⟨big_t3 193 (by decide +kernel) rfl, big_t3 194 (by decide +kernel) rfl, big_t1 1 (by decide +kernel) rfl, big_t3 195 (by decide +kernel) rfl, ⟨by decide +kernel, by decide⟩, by decide +kernel, by decide +kernel, by decide +kernel⟩
theorem mi_X8_far : MI yX8_far 8 cX8_far 3 (some .int) 2 := ⟨big_t3 205 (by decide +kernel) rfl, big_t3 206 (by decide +kernel) rfl, big_t1 1 (by decide +kernel) rfl, big_t3 207 (by decide +kernel) rfl, ⟨by decide +kernel, by decide⟩, by decide +kernel, by decide +kernel, by decide +kernel⟩
theorem mi_X8_held : MI yX8_held 8 cX8_held 3 (some .int) 2 := ⟨big_t3 213 (by decide +kernel) rfl, big_t3 214 (by decide +kernel) rfl, big_t1 1 (by decide +kernel) rfl, big_t3 215 (by decide +kernel) rfl, ⟨by decide +kernel, by decide⟩, by decide +kernel, by decide +kernel, by decide +kernel⟩
theorem mi_X8_as : MI yX8_as 8 cX8_as 3 (some .int) 2 := ⟨big_t3 223 (by decide +kernel) rfl, big_t3 224 (by decide +kernel) rfl, big_t1 1 (by decide +kernel) rfl, big_t3 225 (by decide +kernel) rfl, ⟨by decide +kernel, by decide⟩, by decide +kernel, by decide +kernel, by decide +kernel⟩
theorem mi_X8_released : MI yX8_released 8 cX8_released 3 (some .int) 2 := ⟨big_t3 231 (by decide +kernel) rfl, big_t3 232 (by decide +kernel) rfl, big_t1 1 (by decide +kernel) rfl, big_t3 233 (by decide +kernel) rfl, ⟨by decide +kernel, by decide⟩, by decide +kernel, by decide +kernel, by decide +kernel⟩
theorem mi_X8_under : MI yX8_under 8 cX8_under 3 (some .int) 2 := ⟨big_t4 5 (by decide +kernel) rfl, big_t4 6 (by decide +kernel) rfl, big_t1 1 (by decide +kernel) rfl, big_t4 7 (by decide +kernel) rfl, ⟨by decide +kernel, by decide⟩, by decide +kernel, by decide +kernel, by decide +kernel⟩
theorem mi_X8_frame : MI yX8_frame 8 cX8_frame 4 (some .int) 3 := ⟨big_t4 14 (by decide +kernel) rfl, big_t4 15 (by decide +kernel) rfl, big_t1 1 (by decide +kernel) rfl, big_t4 16 (by decide +kernel) rfl, ⟨by decide +kernel, by decide⟩, by decide +kernel, by decide +kernel, by decide +kernel⟩
theorem mi_X8_count : MI yX8_count 8 cX8_count 2 (some .int) 1 := ⟨big_t4 23 (by decide +kernel) rfl, big_t4 24 (by decide +kernel) rfl, big_t1 1 (by decide +kernel) rfl, big_t4 25 (by decide +kernel) rfl, ⟨by decide +kernel, by decide⟩, by decide +kernel, by decide +kernel, by decide +kernel⟩
theorem ms_X8_mix : MS yX8_mix cX8_mix 3 (some .long) 2 := ⟨big_t4 32 (by decide +kernel) rfl, big_t1 1 (by decide +kernel) rfl, big_t4 33 (by decide +kernel) rfl, by decide +kernel, by decide +kernel, by decide +kernel⟩
theorem ms_X8_digestOfNearEnd : MS yX8_digestOfNearEnd cX8_digestOfNearEnd 7 (some .long) 2 := ⟨big_t4 36 (by decide +kernel) rfl, big_t1 1 (by decide +kernel) rfl, big_t4 37 (by decide +kernel) rfl, by decide +kernel, by decide +kernel, by decide +kernel⟩
theorem ms_X8_digestOfFarEnd : MS yX8_digestOfFarEnd cX8_digestOfFarEnd 6 (some .long) 2 := ⟨big_t4 39 (by decide +kernel) rfl, big_t1 1 (by decide +kernel) rfl, big_t4 40 (by decide +kernel) rfl, by decide +kernel, by decide +kernel, by decide +kernel⟩
theorem ms_X8_digestOfLetter : MS yX8_digestOfLetter cX8_digestOfLetter 7 (some .long) 2 := ⟨big_t4 42 (by decide +kernel) rfl, big_t1 1 (by decide +kernel) rfl, big_t4 43 (by decide +kernel) rfl, by decide +kernel, by decide +kernel, by decide +kernel⟩
theorem mi_X8_digest : MI yX8_digest 8 cX8_digest 4 (some .long) 0 := ⟨big_t4 27 (by decide +kernel) rfl, big_t4 28 (by decide +kernel) rfl, big_t1 1 (by decide +kernel) rfl, big_t4 29 (by decide +kernel) rfl, ⟨by decide +kernel, by decide⟩, by decide +kernel, by decide +kernel, by decide +kernel⟩
theorem ms_X9_within : MS yX9_within cX9_within 3 (some .boolean) 3 := ⟨big_t4 205 (by decide +kernel) rfl, big_t1 10 (by decide +kernel) rfl, big_t4 206 (by decide +kernel) rfl, by decide +kernel, by decide +kernel, by decide +kernel⟩
theorem ms_X9_ahead : MS yX9_ahead cX9_ahead 2 (some .int) 2 := ⟨big_t5 19 (by decide +kernel) rfl, big_t1 10 (by decide +kernel) rfl, big_t5 20 (by decide +kernel) rfl, by decide +kernel, by decide +kernel, by decide +kernel⟩
theorem ms_X9_isBehind : MS yX9_isBehind cX9_isBehind 2 (some .boolean) 2 := ⟨big_t5 96 (by decide +kernel) rfl, big_t1 10 (by decide +kernel) rfl, big_t5 97 (by decide +kernel) rfl, by decide +kernel, by decide +kernel, by decide +kernel⟩
theorem mi_X9_letter : MI yX9_letter 9 cX9_letter 2 (some .int) 1 := ⟨big_t4 201 (by decide +kernel) rfl, big_t4 202 (by decide +kernel) rfl, big_t1 10 (by decide +kernel) rfl, big_t4 203 (by decide +kernel) rfl, ⟨by decide +kernel, by decide⟩, by decide +kernel, by decide +kernel, by decide +kernel⟩
theorem mi_X9_blank : MI yX9_blank 9 cX9_blank 2 (some .int) 0 := ⟨big_t4 208 (by decide +kernel) rfl, big_t4 209 (by decide +kernel) rfl, big_t1 10 (by decide +kernel) rfl, big_t4 210 (by decide +kernel) rfl, ⟨by decide +kernel, by decide⟩, by decide +kernel, by decide +kernel, by decide +kernel⟩
theorem ms_X9_fitsAt : MS yX9_fitsAt cX9_fitsAt 2 (some .boolean) 2 := ⟨big_t4 220 (by decide +kernel) rfl, big_t1 10 (by decide +kernel) rfl, big_t4 221 (by decide +kernel) rfl, by decide +kernel, by decide +kernel, by decide +kernel⟩
theorem mi_X9_faultNow : MI yX9_faultNow 9 cX9_faultNow 2 (some .int) 0 := ⟨big_t4 217 (by decide +kernel) rfl, big_t0 4 (by decide +kernel) rfl, big_t1 10 (by decide +kernel) rfl, big_t4 218 (by decide +kernel) rfl, ⟨by decide +kernel, by decide⟩, by decide +kernel, by decide +kernel, by decide +kernel⟩
theorem mi_X9_fault : MI yX9_fault 9 cX9_fault 1 (some .int) 0 := ⟨big_t4 212 (by decide +kernel) rfl, big_t4 213 (by decide +kernel) rfl, big_t1 10 (by decide +kernel) rfl, big_t4 214 (by decide +kernel) rfl, ⟨by decide +kernel, by decide⟩, by decide +kernel, by decide +kernel, by decide +kernel⟩
theorem mi_X9_air : MI yX9_air 9 cX9_air 2 (some .int) 0 := ⟨big_t4 223 (by decide +kernel) rfl, big_t4 224 (by decide +kernel) rfl, big_t1 10 (by decide +kernel) rfl, big_t4 225 (by decide +kernel) rfl, ⟨by decide +kernel, by decide⟩, by decide +kernel, by decide +kernel, by decide +kernel⟩
theorem mi_X9_isAir : MI yX9_isAir 9 cX9_isAir 1 (some .boolean) 0 := ⟨big_t4 232 (by decide +kernel) rfl, big_t0 5 (by decide +kernel) rfl, big_t1 10 (by decide +kernel) rfl, big_t4 233 (by decide +kernel) rfl, ⟨by decide +kernel, by decide⟩, by decide +kernel, by decide +kernel, by decide +kernel⟩
theorem mi_X9_isClass : MI yX9_isClass 9 cX9_isClass 2 (some .boolean) 1 := ⟨big_t4 236 (by decide +kernel) rfl, big_t0 6 (by decide +kernel) rfl, big_t1 10 (by decide +kernel) rfl, big_t4 237 (by decide +kernel) rfl, ⟨by decide +kernel, by decide⟩, by decide +kernel, by decide +kernel, by decide +kernel⟩
theorem mi_X9_left : MI yX9_left 9 cX9_left 2 (some .int) 0 := ⟨big_t5 31 (by decide +kernel) rfl, big_t0 11 (by decide +kernel) rfl, big_t1 10 (by decide +kernel) rfl, big_t5 32 (by decide +kernel) rfl, ⟨by decide +kernel, by decide⟩, by decide +kernel, by decide +kernel, by decide +kernel⟩
theorem mi_X9_send : MI yX9_send 9 cX9_send 7 (some .int) 5 := ⟨big_t5 4 (by decide +kernel) rfl, big_t0 8 (by decide +kernel) rfl, big_t1 10 (by decide +kernel) rfl, big_t5 5 (by decide +kernel) rfl, ⟨by decide +kernel, by decide⟩, by decide +kernel, by decide +kernel, by decide +kernel⟩
theorem mi_X9_drop : MI yX9_drop 9 cX9_drop 3 none 1 := ⟨big_t5 69 (by decide +kernel) rfl, big_t0 18 (by decide +kernel) rfl, big_t1 10 (by decide +kernel) rfl, big_t5 70 (by decide +kernel) rfl, ⟨by decide +kernel, by decide⟩, by decide +kernel, by decide +kernel, by decide +kernel⟩
theorem mi_X9_loseNow : MI yX9_loseNow 9 cX9_loseNow 3 (some .int) 1 := ⟨big_t5 65 (by decide +kernel) rfl, big_t0 17 (by decide +kernel) rfl, big_t1 10 (by decide +kernel) rfl, big_t5 66 (by decide +kernel) rfl, ⟨by decide +kernel, by decide⟩, by decide +kernel, by decide +kernel, by decide +kernel⟩
theorem mi_X9_isUnderWay : MI yX9_isUnderWay 9 cX9_isUnderWay 4 (some .boolean) 1 := ⟨big_t5 0 (by decide +kernel) rfl, big_t0 7 (by decide +kernel) rfl, big_t1 10 (by decide +kernel) rfl, big_t5 1 (by decide +kernel) rfl, ⟨by decide +kernel, by decide⟩, by decide +kernel, by decide +kernel, by decide +kernel⟩
theorem ms_X9_turned : MS yX9_turned cX9_turned 5 (some .int) 2 := ⟨big_t5 57 (by decide +kernel) rfl, big_t1 10 (by decide +kernel) rfl, big_t5 58 (by decide +kernel) rfl, by decide +kernel, by decide +kernel, by decide +kernel⟩
theorem ms_X9_checkOf : MS yX9_checkOf cX9_checkOf 5 (some .int) 4 := ⟨big_t5 54 (by decide +kernel) rfl, big_t1 10 (by decide +kernel) rfl, big_t5 55 (by decide +kernel) rfl, by decide +kernel, by decide +kernel, by decide +kernel⟩
theorem mi_X9_open : MI yX9_open 9 cX9_open 7 (some .int) 5 := ⟨big_t4 227 (by decide +kernel) rfl, big_t4 228 (by decide +kernel) rfl, big_t1 10 (by decide +kernel) rfl, big_t4 229 (by decide +kernel) rfl, ⟨by decide +kernel, by decide⟩, by decide +kernel, by decide +kernel, by decide +kernel⟩
theorem mi_X9_isOpen : MI yX9_isOpen 9 cX9_isOpen 2 (some .boolean) 1 := ⟨big_t5 12 (by decide +kernel) rfl, big_t0 9 (by decide +kernel) rfl, big_t1 10 (by decide +kernel) rfl, big_t5 13 (by decide +kernel) rfl, ⟨by decide +kernel, by decide⟩, by decide +kernel, by decide +kernel, by decide +kernel⟩
theorem mi_X9_notDone : MI yX9_notDone 9 cX9_notDone 4 (some .int) 1 := ⟨big_t5 16 (by decide +kernel) rfl, big_t0 10 (by decide +kernel) rfl, big_t1 10 (by decide +kernel) rfl, big_t5 17 (by decide +kernel) rfl, ⟨by decide +kernel, by decide⟩, by decide +kernel, by decide +kernel, by decide +kernel⟩
theorem mi_X9_close : MI yX9_close 9 cX9_close 2 (some .int) 1 := ⟨big_t5 7 (by decide +kernel) rfl, big_t5 8 (by decide +kernel) rfl, big_t1 10 (by decide +kernel) rfl, big_t5 9 (by decide +kernel) rfl, ⟨by decide +kernel, by decide⟩, by decide +kernel, by decide +kernel, by decide +kernel⟩
theorem mi_X9_feed : MI yX9_feed 9 cX9_feed 4 (some .int) 3 := ⟨big_t5 22 (by decide +kernel) rfl, big_t5 23 (by decide +kernel) rfl, big_t1 10 (by decide +kernel) rfl, big_t5 24 (by decide +kernel) rfl, ⟨by decide +kernel, by decide⟩, by decide +kernel, by decide +kernel, by decide +kernel⟩
theorem mi_X9_tryOne : MI yX9_tryOne 9 cX9_tryOne 5 none 3 := ⟨big_t5 43 (by decide +kernel) rfl, big_t0 14 (by decide +kernel) rfl, big_t1 10 (by decide +kernel) rfl, big_t5 44 (by decide +kernel) rfl, ⟨by decide +kernel, by decide⟩, by decide +kernel, by decide +kernel, by decide +kernel⟩
theorem mi_X9_plan : MI yX9_plan 9 cX9_plan 4 none 1 := ⟨big_t5 39 (by decide +kernel) rfl, big_t0 13 (by decide +kernel) rfl, big_t1 10 (by decide +kernel) rfl, big_t5 40 (by decide +kernel) rfl, ⟨by decide +kernel, by decide⟩, by decide +kernel, by decide +kernel, by decide +kernel⟩
theorem mi_X9_give : MI yX9_give 9 cX9_give 5 none 2 := ⟨big_t5 51 (by decide +kernel) rfl, big_t0 16 (by decide +kernel) rfl, big_t1 10 (by decide +kernel) rfl, big_t5 52 (by decide +kernel) rfl, ⟨by decide +kernel, by decide⟩, by decide +kernel, by decide +kernel, by decide +kernel⟩
theorem mi_X9_sendBundle : MI yX9_sendBundle 9 cX9_sendBundle 8 (some .int) 1 := ⟨big_t5 47 (by decide +kernel) rfl, big_t0 15 (by decide +kernel) rfl, big_t1 10 (by decide +kernel) rfl, big_t5 48 (by decide +kernel) rfl, ⟨by decide +kernel, by decide⟩, by decide +kernel, by decide +kernel, by decide +kernel⟩
theorem mi_X9_sendBar : MI yX9_sendBar 9 cX9_sendBar 2 (some .int) 1 := ⟨big_t5 35 (by decide +kernel) rfl, big_t0 12 (by decide +kernel) rfl, big_t1 10 (by decide +kernel) rfl, big_t5 36 (by decide +kernel) rfl, ⟨by decide +kernel, by decide⟩, by decide +kernel, by decide +kernel, by decide +kernel⟩
theorem mi_X9_bundle : MI yX9_bundle 9 cX9_bundle 2 (some .int) 1 := ⟨big_t5 26 (by decide +kernel) rfl, big_t5 27 (by decide +kernel) rfl, big_t1 10 (by decide +kernel) rfl, big_t5 28 (by decide +kernel) rfl, ⟨by decide +kernel, by decide⟩, by decide +kernel, by decide +kernel, by decide +kernel⟩
theorem mi_X9_giveUp : MI yX9_giveUp 9 cX9_giveUp 5 none 1 := ⟨big_t5 73 (by decide +kernel) rfl, big_t0 19 (by decide +kernel) rfl, big_t1 10 (by decide +kernel) rfl, big_t5 74 (by decide +kernel) rfl, ⟨by decide +kernel, by decide⟩, by decide +kernel, by decide +kernel, by decide +kernel⟩
theorem mi_X9_expire : MI yX9_expire 9 cX9_expire 5 (some .int) 1 := ⟨big_t5 60 (by decide +kernel) rfl, big_t5 61 (by decide +kernel) rfl, big_t1 10 (by decide +kernel) rfl, big_t5 62 (by decide +kernel) rfl, ⟨by decide +kernel, by decide⟩, by decide +kernel, by decide +kernel, by decide +kernel⟩
theorem mi_X9_comesYes : MI yX9_comesYes 9 cX9_comesYes 3 none 2 := ⟨big_t5 139 (by decide +kernel) rfl, big_t0 33 (by decide +kernel) rfl, big_t1 10 (by decide +kernel) rfl, big_t5 140 (by decide +kernel) rfl, ⟨by decide +kernel, by decide⟩, by decide +kernel, by decide +kernel, by decide +kernel⟩
theorem mi_X9_comesAnswer : MI yX9_comesAnswer 9 cX9_comesAnswer 7 none 3 := ⟨big_t5 147 (by decide +kernel) rfl, big_t0 35 (by decide +kernel) rfl, big_t1 10 (by decide +kernel) rfl, big_t5 148 (by decide +kernel) rfl, ⟨by decide +kernel, by decide⟩, by decide +kernel, by decide +kernel, by decide +kernel⟩
theorem mi_X9_releases : MI yX9_releases 9 cX9_releases 4 none 2 := ⟨big_t5 119 (by decide +kernel) rfl, big_t0 28 (by decide +kernel) rfl, big_t1 10 (by decide +kernel) rfl, big_t5 120 (by decide +kernel) rfl, ⟨by decide +kernel, by decide⟩, by decide +kernel, by decide +kernel, by decide +kernel⟩
theorem mi_X9_steps : MI yX9_steps 9 cX9_steps 3 none 1 := ⟨big_t5 115 (by decide +kernel) rfl, big_t0 27 (by decide +kernel) rfl, big_t1 10 (by decide +kernel) rfl, big_t5 116 (by decide +kernel) rfl, ⟨by decide +kernel, by decide⟩, by decide +kernel, by decide +kernel, by decide +kernel⟩
theorem mi_X9_movesTo : MI yX9_movesTo 9 cX9_movesTo 3 none 2 := ⟨big_t5 111 (by decide +kernel) rfl, big_t0 26 (by decide +kernel) rfl, big_t1 10 (by decide +kernel) rfl, big_t5 112 (by decide +kernel) rfl, ⟨by decide +kernel, by decide⟩, by decide +kernel, by decide +kernel, by decide +kernel⟩
theorem mi_X9_goesOn : MI yX9_goesOn 9 cX9_goesOn 2 none 1 := ⟨big_t5 123 (by decide +kernel) rfl, big_t0 29 (by decide +kernel) rfl, big_t1 10 (by decide +kernel) rfl, big_t5 124 (by decide +kernel) rfl, ⟨by decide +kernel, by decide⟩, by decide +kernel, by decide +kernel, by decide +kernel⟩
theorem mi_X9_marksTo : MI yX9_marksTo 9 cX9_marksTo 4 none 2 := ⟨big_t5 103 (by decide +kernel) rfl, big_t0 24 (by decide +kernel) rfl, big_t1 10 (by decide +kernel) rfl, big_t5 104 (by decide +kernel) rfl, ⟨by decide +kernel, by decide⟩, by decide +kernel, by decide +kernel, by decide +kernel⟩
theorem ms_X9_lastOf : MS yX9_lastOf cX9_lastOf 2 (some .int) 2 := ⟨big_t5 99 (by decide +kernel) rfl, big_t1 10 (by decide +kernel) rfl, big_t5 100 (by decide +kernel) rfl, by decide +kernel, by decide +kernel, by decide +kernel⟩
theorem mi_X9_marks : MI yX9_marks 9 cX9_marks 3 none 2 := ⟨big_t5 93 (by decide +kernel) rfl, big_t0 23 (by decide +kernel) rfl, big_t1 10 (by decide +kernel) rfl, big_t5 94 (by decide +kernel) rfl, ⟨by decide +kernel, by decide⟩, by decide +kernel, by decide +kernel, by decide +kernel⟩
theorem mi_X9_doubles : MI yX9_doubles 9 cX9_doubles 2 none 1 := ⟨big_t5 107 (by decide +kernel) rfl, big_t0 25 (by decide +kernel) rfl, big_t1 10 (by decide +kernel) rfl, big_t5 108 (by decide +kernel) rfl, ⟨by decide +kernel, by decide⟩, by decide +kernel, by decide +kernel, by decide +kernel⟩
theorem mi_X9_comesNumber : MI yX9_comesNumber 9 cX9_comesNumber 5 none 3 := ⟨big_t5 89 (by decide +kernel) rfl, big_t0 22 (by decide +kernel) rfl, big_t1 10 (by decide +kernel) rfl, big_t5 90 (by decide +kernel) rfl, ⟨by decide +kernel, by decide⟩, by decide +kernel, by decide +kernel, by decide +kernel⟩
theorem mi_X9_ends : MI yX9_ends 9 cX9_ends 4 none 1 := ⟨big_t5 135 (by decide +kernel) rfl, big_t0 32 (by decide +kernel) rfl, big_t1 10 (by decide +kernel) rfl, big_t5 136 (by decide +kernel) rfl, ⟨by decide +kernel, by decide⟩, by decide +kernel, by decide +kernel, by decide +kernel⟩
theorem mi_X9_comesAsk : MI yX9_comesAsk 9 cX9_comesAsk 6 none 4 := ⟨big_t5 131 (by decide +kernel) rfl, big_t0 31 (by decide +kernel) rfl, big_t1 10 (by decide +kernel) rfl, big_t5 132 (by decide +kernel) rfl, ⟨by decide +kernel, by decide⟩, by decide +kernel, by decide +kernel, by decide +kernel⟩
theorem mi_X9_comesBar : MI yX9_comesBar 9 cX9_comesBar 3 none 2 := ⟨big_t5 143 (by decide +kernel) rfl, big_t0 34 (by decide +kernel) rfl, big_t1 10 (by decide +kernel) rfl, big_t5 144 (by decide +kernel) rfl, ⟨by decide +kernel, by decide⟩, by decide +kernel, by decide +kernel, by decide +kernel⟩
theorem mi_X9_comesBundle : MI yX9_comesBundle 9 cX9_comesBundle 9 (some .int) 2 := ⟨big_t5 85 (by decide +kernel) rfl, big_t0 21 (by decide +kernel) rfl, big_t1 10 (by decide +kernel) rfl, big_t5 86 (by decide +kernel) rfl, ⟨by decide +kernel, by decide⟩, by decide +kernel, by decide +kernel, by decide +kernel⟩
theorem mi_X9_comesOther : MI yX9_comesOther 9 cX9_comesOther 10 none 1 := ⟨big_t5 127 (by decide +kernel) rfl, big_t0 30 (by decide +kernel) rfl, big_t1 10 (by decide +kernel) rfl, big_t5 128 (by decide +kernel) rfl, ⟨by decide +kernel, by decide⟩, by decide +kernel, by decide +kernel, by decide +kernel⟩
theorem mi_X9_isLetter : MI yX9_isLetter 9 cX9_isLetter 2 (some .boolean) 1 := ⟨big_t5 81 (by decide +kernel) rfl, big_t0 20 (by decide +kernel) rfl, big_t1 10 (by decide +kernel) rfl, big_t5 82 (by decide +kernel) rfl, ⟨by decide +kernel, by decide⟩, by decide +kernel, by decide +kernel, by decide +kernel⟩
theorem mi_X9_deliver : MI yX9_deliver 9 cX9_deliver 5 (some .int) 2 := ⟨big_t5 76 (by decide +kernel) rfl, big_t5 77 (by decide +kernel) rfl, big_t1 10 (by decide +kernel) rfl, big_t5 78 (by decide +kernel) rfl, ⟨by decide +kernel, by decide⟩, by decide +kernel, by decide +kernel, by decide +kernel⟩
theorem mi_X9_lose : MI yX9_lose 9 cX9_lose 2 (some .int) 1 := ⟨big_t5 150 (by decide +kernel) rfl, big_t5 151 (by decide +kernel) rfl, big_t1 10 (by decide +kernel) rfl, big_t5 152 (by decide +kernel) rfl, ⟨by decide +kernel, by decide⟩, by decide +kernel, by decide +kernel, by decide +kernel⟩
theorem mi_X9_firstHeld : MI yX9_firstHeld 9 cX9_firstHeld 4 (some .int) 1 := ⟨big_t5 163 (by decide +kernel) rfl, big_t0 37 (by decide +kernel) rfl, big_t1 10 (by decide +kernel) rfl, big_t5 164 (by decide +kernel) rfl, ⟨by decide +kernel, by decide⟩, by decide +kernel, by decide +kernel, by decide +kernel⟩
theorem mi_X9_tick : MI yX9_tick 9 cX9_tick 2 none 1 := ⟨big_t5 159 (by decide +kernel) rfl, big_t0 36 (by decide +kernel) rfl, big_t1 10 (by decide +kernel) rfl, big_t5 160 (by decide +kernel) rfl, ⟨by decide +kernel, by decide⟩, by decide +kernel, by decide +kernel, by decide +kernel⟩
theorem mi_X9_pass : MI yX9_pass 9 cX9_pass 4 (some .int) 1 := ⟨big_t5 154 (by decide +kernel) rfl, big_t5 155 (by decide +kernel) rfl, big_t1 10 (by decide +kernel) rfl, big_t5 156 (by decide +kernel) rfl, ⟨by decide +kernel, by decide⟩, by decide +kernel, by decide +kernel, by decide +kernel⟩
theorem mi_X9_aboutNow : MI yX9_aboutNow 9 cX9_aboutNow 2 (some .int) 1 := ⟨big_t5 171 (by decide +kernel) rfl, big_t0 38 (by decide +kernel) rfl, big_t1 10 (by decide +kernel) rfl, big_t5 172 (by decide +kernel) rfl, ⟨by decide +kernel, by decide⟩, by decide +kernel, by decide +kernel, by decide +kernel⟩
theorem mi_X9_about : MI yX9_about 9 cX9_about 2 (some .int) 1 := ⟨big_t5 166 (by decide +kernel) rfl, big_t5 167 (by decide +kernel) rfl, big_t1 10 (by decide +kernel) rfl, big_t5 168 (by decide +kernel) rfl, ⟨by decide +kernel, by decide⟩, by decide +kernel, by decide +kernel, by decide +kernel⟩
theorem mi_X9_nearNow : MI yX9_nearNow 9 cX9_nearNow 3 (some .int) 2 := ⟨big_t5 179 (by decide +kernel) rfl, big_t0 39 (by decide +kernel) rfl, big_t1 10 (by decide +kernel) rfl, big_t5 180 (by decide +kernel) rfl, ⟨by decide +kernel, by decide⟩, by decide +kernel, by decide +kernel, by decide +kernel⟩
theorem mi_X9_near : MI yX9_near 9 cX9_near 3 (some .int) 2 := ⟨big_t5 174 (by decide +kernel) rfl, big_t5 175 (by decide +kernel) rfl, big_t1 10 (by decide +kernel) rfl, big_t5 176 (by decide +kernel) rfl, ⟨by decide +kernel, by decide⟩, by decide +kernel, by decide +kernel, by decide +kernel⟩
theorem mi_X9_givenNow : MI yX9_givenNow 9 cX9_givenNow 6 (some .int) 3 := ⟨big_t5 187 (by decide +kernel) rfl, big_t0 40 (by decide +kernel) rfl, big_t1 10 (by decide +kernel) rfl, big_t5 188 (by decide +kernel) rfl, ⟨by decide +kernel, by decide⟩, by decide +kernel, by decide +kernel, by decide +kernel⟩
theorem mi_X9_given : MI yX9_given 9 cX9_given 4 (some .int) 3 := ⟨big_t5 182 (by decide +kernel) rfl, big_t5 183 (by decide +kernel) rfl, big_t1 10 (by decide +kernel) rfl, big_t5 184 (by decide +kernel) rfl, ⟨by decide +kernel, by decide⟩, by decide +kernel, by decide +kernel, by decide +kernel⟩
theorem mi_X9_heldMany : MI yX9_heldMany 9 cX9_heldMany 4 (some .int) 1 := ⟨big_t5 199 (by decide +kernel) rfl, big_t0 42 (by decide +kernel) rfl, big_t1 10 (by decide +kernel) rfl, big_t5 200 (by decide +kernel) rfl, ⟨by decide +kernel, by decide⟩, by decide +kernel, by decide +kernel, by decide +kernel⟩
theorem mi_X9_farNow : MI yX9_farNow 9 cX9_farNow 3 (some .int) 2 := ⟨big_t5 195 (by decide +kernel) rfl, big_t0 41 (by decide +kernel) rfl, big_t1 10 (by decide +kernel) rfl, big_t5 196 (by decide +kernel) rfl, ⟨by decide +kernel, by decide⟩, by decide +kernel, by decide +kernel, by decide +kernel⟩
theorem mi_X9_far : MI yX9_far 9 cX9_far 3 (some .int) 2 := ⟨big_t5 190 (by decide +kernel) rfl, big_t5 191 (by decide +kernel) rfl, big_t1 10 (by decide +kernel) rfl, big_t5 192 (by decide +kernel) rfl, ⟨by decide +kernel, by decide⟩, by decide +kernel, by decide +kernel, by decide +kernel⟩
theorem mi_X9_held : MI yX9_held 9 cX9_held 3 (some .int) 2 := ⟨big_t5 202 (by decide +kernel) rfl, big_t5 203 (by decide +kernel) rfl, big_t1 10 (by decide +kernel) rfl, big_t5 204 (by decide +kernel) rfl, ⟨by decide +kernel, by decide⟩, by decide +kernel, by decide +kernel, by decide +kernel⟩
theorem mi_X9_as : MI yX9_as 9 cX9_as 4 (some .int) 2 := ⟨big_t5 206 (by decide +kernel) rfl, big_t5 207 (by decide +kernel) rfl, big_t1 10 (by decide +kernel) rfl, big_t5 208 (by decide +kernel) rfl, ⟨by decide +kernel, by decide⟩, by decide +kernel, by decide +kernel, by decide +kernel⟩
theorem mi_X9_released : MI yX9_released 9 cX9_released 3 (some .int) 2 := ⟨big_t5 210 (by decide +kernel) rfl, big_t5 211 (by decide +kernel) rfl, big_t1 10 (by decide +kernel) rfl, big_t5 212 (by decide +kernel) rfl, ⟨by decide +kernel, by decide⟩, by decide +kernel, by decide +kernel, by decide +kernel⟩
theorem mi_X9_underNow : MI yX9_underNow 9 cX9_underNow 4 (some .int) 2 := ⟨big_t5 219 (by decide +kernel) rfl, big_t0 43 (by decide +kernel) rfl, big_t1 10 (by decide +kernel) rfl, big_t5 220 (by decide +kernel) rfl, ⟨by decide +kernel, by decide⟩, by decide +kernel, by decide +kernel, by decide +kernel⟩
theorem mi_X9_under : MI yX9_under 9 cX9_under 3 (some .int) 2 := ⟨big_t5 214 (by decide +kernel) rfl, big_t5 215 (by decide +kernel) rfl, big_t1 10 (by decide +kernel) rfl, big_t5 216 (by decide +kernel) rfl, ⟨by decide +kernel, by decide⟩, by decide +kernel, by decide +kernel, by decide +kernel⟩
theorem mi_X9_frame : MI yX9_frame 9 cX9_frame 4 (some .int) 3 := ⟨big_t5 222 (by decide +kernel) rfl, big_t5 223 (by decide +kernel) rfl, big_t1 10 (by decide +kernel) rfl, big_t5 224 (by decide +kernel) rfl, ⟨by decide +kernel, by decide⟩, by decide +kernel, by decide +kernel, by decide +kernel⟩
theorem mi_X9_howMany : MI yX9_howMany 9 cX9_howMany 2 (some .int) 1 := ⟨big_t5 231 (by decide +kernel) rfl, big_t0 44 (by decide +kernel) rfl, big_t1 10 (by decide +kernel) rfl, big_t5 232 (by decide +kernel) rfl, ⟨by decide +kernel, by decide⟩, by decide +kernel, by decide +kernel, by decide +kernel⟩
theorem mi_X9_count : MI yX9_count 9 cX9_count 2 (some .int) 1 := ⟨big_t5 226 (by decide +kernel) rfl, big_t5 227 (by decide +kernel) rfl, big_t1 10 (by decide +kernel) rfl, big_t5 228 (by decide +kernel) rfl, ⟨by decide +kernel, by decide⟩, by decide +kernel, by decide +kernel, by decide +kernel⟩
theorem mi_X9_mix : MI yX9_mix 9 cX9_mix 3 none 1 := ⟨big_t6 4 (by decide +kernel) rfl, big_t0 46 (by decide +kernel) rfl, big_t1 10 (by decide +kernel) rfl, big_t6 5 (by decide +kernel) rfl, ⟨by decide +kernel, by decide⟩, by decide +kernel, by decide +kernel, by decide +kernel⟩
theorem mi_X9_mixNear : MI yX9_mixNear 9 cX9_mixNear 4 none 1 := ⟨big_t6 9 (by decide +kernel) rfl, big_t0 47 (by decide +kernel) rfl, big_t1 10 (by decide +kernel) rfl, big_t6 10 (by decide +kernel) rfl, ⟨by decide +kernel, by decide⟩, by decide +kernel, by decide +kernel, by decide +kernel⟩
theorem mi_X9_mixFar : MI yX9_mixFar 9 cX9_mixFar 3 none 1 := ⟨big_t6 13 (by decide +kernel) rfl, big_t0 48 (by decide +kernel) rfl, big_t1 10 (by decide +kernel) rfl, big_t6 14 (by decide +kernel) rfl, ⟨by decide +kernel, by decide⟩, by decide +kernel, by decide +kernel, by decide +kernel⟩
theorem mi_X9_mixAir : MI yX9_mixAir 9 cX9_mixAir 3 none 0 := ⟨big_t6 0 (by decide +kernel) rfl, big_t0 45 (by decide +kernel) rfl, big_t1 10 (by decide +kernel) rfl, big_t6 1 (by decide +kernel) rfl, ⟨by decide +kernel, by decide⟩, by decide +kernel, by decide +kernel, by decide +kernel⟩
theorem mi_X9_digest : MI yX9_digest 9 cX9_digest 2 (some .long) 0 := ⟨big_t5 234 (by decide +kernel) rfl, big_t5 235 (by decide +kernel) rfl, big_t1 10 (by decide +kernel) rfl, big_t5 236 (by decide +kernel) rfl, ⟨by decide +kernel, by decide⟩, by decide +kernel, by decide +kernel, by decide +kernel⟩
end
