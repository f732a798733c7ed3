section
/-- a private method of a class that the tables say can be made, by its rows of tables_1 -/
def lw_okq (q : MethodName × Nat) : Prop := (q.1.cls ≠ "java/lang/invoke/MethodHandle" ∧ q.1.cls ≠ "java/lang/invoke/VarHandle") ∧ Cond.instantiable q.1.cls q.2 ∈ tables_1 ∧ Cond.privateMethod q.1 ∈ tables_1 ∧ Cond.instanceMethod q.1 ∈ tables_1
theorem lw_p0 : lw_okq (⟨"HeronTalk", "isNoFact", "(I)Z"⟩, 11) := ⟨⟨by decide +kernel, by decide +kernel⟩, List.mem_of_getElem? (i := 17) (by decide +kernel), List.mem_of_getElem? (i := 264) (by decide +kernel), List.mem_of_getElem? (i := 265) (by decide +kernel)⟩
theorem lw_p1 : lw_okq (⟨"HeronTalk", "isNobody", "(I)Z"⟩, 11) := ⟨⟨by decide +kernel, by decide +kernel⟩, List.mem_of_getElem? (i := 17) (by decide +kernel), List.mem_of_getElem? (i := 296) (by decide +kernel), List.mem_of_getElem? (i := 297) (by decide +kernel)⟩
theorem lw_p2 : lw_okq (⟨"HeronTalk", "isNoTalk", "(I)Z"⟩, 11) := ⟨⟨by decide +kernel, by decide +kernel⟩, List.mem_of_getElem? (i := 17) (by decide +kernel), List.mem_of_getElem? (i := 415) (by decide +kernel), List.mem_of_getElem? (i := 416) (by decide +kernel)⟩
theorem lw_p3 : lw_okq (⟨"HeronTalkModel", "isFact", "(I)Z"⟩, 34) := ⟨⟨by decide +kernel, by decide +kernel⟩, List.mem_of_getElem? (i := 822) (by decide +kernel), List.mem_of_getElem? (i := 946) (by decide +kernel), List.mem_of_getElem? (i := 947) (by decide +kernel)⟩
theorem lw_p4 : lw_okq (⟨"HeronTalkModel", "isFresh", "(I)Z"⟩, 34) := ⟨⟨by decide +kernel, by decide +kernel⟩, List.mem_of_getElem? (i := 822) (by decide +kernel), List.mem_of_getElem? (i := 950) (by decide +kernel), List.mem_of_getElem? (i := 951) (by decide +kernel)⟩
theorem lw_p5 : lw_okq (⟨"HeronTalkModel", "knowers", "(I)I"⟩, 34) := ⟨⟨by decide +kernel, by decide +kernel⟩, List.mem_of_getElem? (i := 822) (by decide +kernel), List.mem_of_getElem? (i := 954) (by decide +kernel), List.mem_of_getElem? (i := 955) (by decide +kernel)⟩
theorem lw_p6 : lw_okq (⟨"HeronTalkModel", "doesKnow", "(II)Z"⟩, 34) := ⟨⟨by decide +kernel, by decide +kernel⟩, List.mem_of_getElem? (i := 822) (by decide +kernel), List.mem_of_getElem? (i := 958) (by decide +kernel), List.mem_of_getElem? (i := 959) (by decide +kernel)⟩
theorem lw_p7 : lw_okq (⟨"HeronTalkModel", "knownTo", "(I)I"⟩, 34) := ⟨⟨by decide +kernel, by decide +kernel⟩, List.mem_of_getElem? (i := 822) (by decide +kernel), List.mem_of_getElem? (i := 962) (by decide +kernel), List.mem_of_getElem? (i := 963) (by decide +kernel)⟩
theorem lw_p8 : lw_okq (⟨"HeronTalkModel", "becomes", "(II)I"⟩, 34) := ⟨⟨by decide +kernel, by decide +kernel⟩, List.mem_of_getElem? (i := 822) (by decide +kernel), List.mem_of_getElem? (i := 970) (by decide +kernel), List.mem_of_getElem? (i := 971) (by decide +kernel)⟩
theorem lw_p9 : lw_okq (⟨"HeronTalkModel", "isPerson", "(I)Z"⟩, 34) := ⟨⟨by decide +kernel, by decide +kernel⟩, List.mem_of_getElem? (i := 822) (by decide +kernel), List.mem_of_getElem? (i := 982) (by decide +kernel), List.mem_of_getElem? (i := 983) (by decide +kernel)⟩
theorem lw_p10 : lw_okq (⟨"HeronTalkModel", "neededBy", "(I)I"⟩, 34) := ⟨⟨by decide +kernel, by decide +kernel⟩, List.mem_of_getElem? (i := 822) (by decide +kernel), List.mem_of_getElem? (i := 986) (by decide +kernel), List.mem_of_getElem? (i := 987) (by decide +kernel)⟩
theorem lw_p11 : lw_okq (⟨"HeronTalkModel", "newsOf", "(I)I"⟩, 34) := ⟨⟨by decide +kernel, by decide +kernel⟩, List.mem_of_getElem? (i := 822) (by decide +kernel), List.mem_of_getElem? (i := 990) (by decide +kernel), List.mem_of_getElem? (i := 991) (by decide +kernel)⟩
theorem lw_p12 : lw_okq (⟨"HeronTalkModel", "richesOf", "(I)I"⟩, 34) := ⟨⟨by decide +kernel, by decide +kernel⟩, List.mem_of_getElem? (i := 822) (by decide +kernel), List.mem_of_getElem? (i := 994) (by decide +kernel), List.mem_of_getElem? (i := 995) (by decide +kernel)⟩
theorem lw_p13 : lw_okq (⟨"HeronTalkModel", "worthOf", "(I)I"⟩, 34) := ⟨⟨by decide +kernel, by decide +kernel⟩, List.mem_of_getElem? (i := 822) (by decide +kernel), List.mem_of_getElem? (i := 998) (by decide +kernel), List.mem_of_getElem? (i := 999) (by decide +kernel)⟩
theorem lw_p14 : lw_okq (⟨"HeronTalkModel", "isSet", "(I)Z"⟩, 34) := ⟨⟨by decide +kernel, by decide +kernel⟩, List.mem_of_getElem? (i := 822) (by decide +kernel), List.mem_of_getElem? (i := 1006) (by decide +kernel), List.mem_of_getElem? (i := 1007) (by decide +kernel)⟩
theorem lw_p15 : lw_okq (⟨"HeronTalkModel", "learns", "(II)V"⟩, 34) := ⟨⟨by decide +kernel, by decide +kernel⟩, List.mem_of_getElem? (i := 822) (by decide +kernel), List.mem_of_getElem? (i := 1010) (by decide +kernel), List.mem_of_getElem? (i := 1011) (by decide +kernel)⟩
def lw_privs_1 : List (MethodName × Nat) := [(⟨"HeronTalk", "isNoFact", "(I)Z"⟩, 11), (⟨"HeronTalk", "isNobody", "(I)Z"⟩, 11), (⟨"HeronTalk", "isNoTalk", "(I)Z"⟩, 11), (⟨"HeronTalkModel", "isFact", "(I)Z"⟩, 34), (⟨"HeronTalkModel", "isFresh", "(I)Z"⟩, 34), (⟨"HeronTalkModel", "knowers", "(I)I"⟩, 34), (⟨"HeronTalkModel", "doesKnow", "(II)Z"⟩, 34), (⟨"HeronTalkModel", "knownTo", "(I)I"⟩, 34), (⟨"HeronTalkModel", "becomes", "(II)I"⟩, 34), (⟨"HeronTalkModel", "isPerson", "(I)Z"⟩, 34), (⟨"HeronTalkModel", "neededBy", "(I)I"⟩, 34), (⟨"HeronTalkModel", "newsOf", "(I)I"⟩, 34), (⟨"HeronTalkModel", "richesOf", "(I)I"⟩, 34), (⟨"HeronTalkModel", "worthOf", "(I)I"⟩, 34), (⟨"HeronTalkModel", "isSet", "(I)Z"⟩, 34), (⟨"HeronTalkModel", "learns", "(II)V"⟩, 34)]
theorem lw_r1 : ∀ q ∈ lw_privs_1, lw_okq q := List.forall_mem_cons.mpr ⟨lw_p0, List.forall_mem_cons.mpr ⟨lw_p1, List.forall_mem_cons.mpr ⟨lw_p2, List.forall_mem_cons.mpr ⟨lw_p3, List.forall_mem_cons.mpr ⟨lw_p4, List.forall_mem_cons.mpr ⟨lw_p5, List.forall_mem_cons.mpr ⟨lw_p6, List.forall_mem_cons.mpr ⟨lw_p7, List.forall_mem_cons.mpr ⟨lw_p8, List.forall_mem_cons.mpr ⟨lw_p9, List.forall_mem_cons.mpr ⟨lw_p10, List.forall_mem_cons.mpr ⟨lw_p11, List.forall_mem_cons.mpr ⟨lw_p12, List.forall_mem_cons.mpr ⟨lw_p13, List.forall_mem_cons.mpr ⟨lw_p14, List.forall_mem_cons.mpr ⟨lw_p15, fun _ h => absurd h List.not_mem_nil⟩⟩⟩⟩⟩⟩⟩⟩⟩⟩⟩⟩⟩⟩⟩⟩
theorem lw_p16 : lw_okq (⟨"HeronTalkModel", "priceOf", "(II)I"⟩, 34) := ⟨⟨by decide +kernel, by decide +kernel⟩, List.mem_of_getElem? (i := 822) (by decide +kernel), List.mem_of_getElem? (i := 1022) (by decide +kernel), List.mem_of_getElem? (i := 1023) (by decide +kernel)⟩
theorem lw_p17 : lw_okq (⟨"HeronTalkModel", "counts", "(I)I"⟩, 34) := ⟨⟨by decide +kernel, by decide +kernel⟩, List.mem_of_getElem? (i := 822) (by decide +kernel), List.mem_of_getElem? (i := 1026) (by decide +kernel), List.mem_of_getElem? (i := 1027) (by decide +kernel)⟩
theorem lw_p18 : lw_okq (⟨"HeronTalkModel", "worksOut", "(I)I"⟩, 34) := ⟨⟨by decide +kernel, by decide +kernel⟩, List.mem_of_getElem? (i := 822) (by decide +kernel), List.mem_of_getElem? (i := 1033) (by decide +kernel), List.mem_of_getElem? (i := 1034) (by decide +kernel)⟩
theorem lw_p19 : lw_okq (⟨"HeronTalkModel", "draw", "()I"⟩, 34) := ⟨⟨by decide +kernel, by decide +kernel⟩, List.mem_of_getElem? (i := 822) (by decide +kernel), List.mem_of_getElem? (i := 1047) (by decide +kernel), List.mem_of_getElem? (i := 1048) (by decide +kernel)⟩
theorem lw_p20 : lw_okq (⟨"HeronTalkModel", "knownAll", "()I"⟩, 34) := ⟨⟨by decide +kernel, by decide +kernel⟩, List.mem_of_getElem? (i := 822) (by decide +kernel), List.mem_of_getElem? (i := 1053) (by decide +kernel), List.mem_of_getElem? (i := 1054) (by decide +kernel)⟩
theorem lw_p21 : lw_okq (⟨"HeronTalkModel", "isTalk", "(I)Z"⟩, 34) := ⟨⟨by decide +kernel, by decide +kernel⟩, List.mem_of_getElem? (i := 822) (by decide +kernel), List.mem_of_getElem? (i := 1073) (by decide +kernel), List.mem_of_getElem? (i := 1074) (by decide +kernel)⟩
theorem lw_p22 : lw_okq (⟨"HeronTalkModel", "givenBy", "(III)I"⟩, 34) := ⟨⟨by decide +kernel, by decide +kernel⟩, List.mem_of_getElem? (i := 822) (by decide +kernel), List.mem_of_getElem? (i := 1077) (by decide +kernel), List.mem_of_getElem? (i := 1078) (by decide +kernel)⟩
theorem lw_p23 : lw_okq (⟨"HeronTalkModel", "best", "(IIIZI)I"⟩, 34) := ⟨⟨by decide +kernel, by decide +kernel⟩, List.mem_of_getElem? (i := 822) (by decide +kernel), List.mem_of_getElem? (i := 1081) (by decide +kernel), List.mem_of_getElem? (i := 1082) (by decide +kernel)⟩
theorem lw_p24 : lw_okq (⟨"HeronTalkModel", "gotBy", "(III)I"⟩, 34) := ⟨⟨by decide +kernel, by decide +kernel⟩, List.mem_of_getElem? (i := 822) (by decide +kernel), List.mem_of_getElem? (i := 1089) (by decide +kernel), List.mem_of_getElem? (i := 1090) (by decide +kernel)⟩
theorem lw_p25 : lw_okq (⟨"HeronTalkModel", "wouldGo", "(III)Z"⟩, 34) := ⟨⟨by decide +kernel, by decide +kernel⟩, List.mem_of_getElem? (i := 822) (by decide +kernel), List.mem_of_getElem? (i := 1093) (by decide +kernel), List.mem_of_getElem? (i := 1094) (by decide +kernel)⟩
theorem lw_p26 : lw_okq (⟨"HeronTalkModel", "worthBy", "(III)I"⟩, 34) := ⟨⟨by decide +kernel, by decide +kernel⟩, List.mem_of_getElem? (i := 822) (by decide +kernel), List.mem_of_getElem? (i := 1097) (by decide +kernel), List.mem_of_getElem? (i := 1098) (by decide +kernel)⟩
theorem lw_p27 : lw_okq (⟨"HeronTalkModel", "goesOn", "(I)Z"⟩, 34) := ⟨⟨by decide +kernel, by decide +kernel⟩, List.mem_of_getElem? (i := 822) (by decide +kernel), List.mem_of_getElem? (i := 1117) (by decide +kernel), List.mem_of_getElem? (i := 1118) (by decide +kernel)⟩
theorem lw_p28 : lw_okq (⟨"HeronTalkModel", "goes", "(III)Z"⟩, 34) := ⟨⟨by decide +kernel, by decide +kernel⟩, List.mem_of_getElem? (i := 822) (by decide +kernel), List.mem_of_getElem? (i := 1121) (by decide +kernel), List.mem_of_getElem? (i := 1122) (by decide +kernel)⟩
theorem lw_p29 : lw_okq (⟨"HeronTalkModel", "aRound", "()I"⟩, 34) := ⟨⟨by decide +kernel, by decide +kernel⟩, List.mem_of_getElem? (i := 822) (by decide +kernel), List.mem_of_getElem? (i := 1133) (by decide +kernel), List.mem_of_getElem? (i := 1134) (by decide +kernel)⟩
theorem lw_p30 : lw_okq (⟨"HeronTalkModel", "keepsAhead", "(I)V"⟩, 34) := ⟨⟨by decide +kernel, by decide +kernel⟩, List.mem_of_getElem? (i := 822) (by decide +kernel), List.mem_of_getElem? (i := 1149) (by decide +kernel), List.mem_of_getElem? (i := 1150) (by decide +kernel)⟩
theorem lw_p31 : lw_okq (⟨"HeronTalkModel", "comesToKnow", "(IIII)Z"⟩, 34) := ⟨⟨by decide +kernel, by decide +kernel⟩, List.mem_of_getElem? (i := 822) (by decide +kernel), List.mem_of_getElem? (i := 1153) (by decide +kernel), List.mem_of_getElem? (i := 1154) (by decide +kernel)⟩
def lw_privs_2 : List (MethodName × Nat) := [(⟨"HeronTalkModel", "priceOf", "(II)I"⟩, 34), (⟨"HeronTalkModel", "counts", "(I)I"⟩, 34), (⟨"HeronTalkModel", "worksOut", "(I)I"⟩, 34), (⟨"HeronTalkModel", "draw", "()I"⟩, 34), (⟨"HeronTalkModel", "knownAll", "()I"⟩, 34), (⟨"HeronTalkModel", "isTalk", "(I)Z"⟩, 34), (⟨"HeronTalkModel", "givenBy", "(III)I"⟩, 34), (⟨"HeronTalkModel", "best", "(IIIZI)I"⟩, 34), (⟨"HeronTalkModel", "gotBy", "(III)I"⟩, 34), (⟨"HeronTalkModel", "wouldGo", "(III)Z"⟩, 34), (⟨"HeronTalkModel", "worthBy", "(III)I"⟩, 34), (⟨"HeronTalkModel", "goesOn", "(I)Z"⟩, 34), (⟨"HeronTalkModel", "goes", "(III)Z"⟩, 34), (⟨"HeronTalkModel", "aRound", "()I"⟩, 34), (⟨"HeronTalkModel", "keepsAhead", "(I)V"⟩, 34), (⟨"HeronTalkModel", "comesToKnow", "(IIII)Z"⟩, 34)]
theorem lw_r2 : ∀ q ∈ lw_privs_2, lw_okq q := List.forall_mem_cons.mpr ⟨lw_p16, List.forall_mem_cons.mpr ⟨lw_p17, List.forall_mem_cons.mpr ⟨lw_p18, List.forall_mem_cons.mpr ⟨lw_p19, List.forall_mem_cons.mpr ⟨lw_p20, List.forall_mem_cons.mpr ⟨lw_p21, List.forall_mem_cons.mpr ⟨lw_p22, List.forall_mem_cons.mpr ⟨lw_p23, List.forall_mem_cons.mpr ⟨lw_p24, List.forall_mem_cons.mpr ⟨lw_p25, List.forall_mem_cons.mpr ⟨lw_p26, List.forall_mem_cons.mpr ⟨lw_p27, List.forall_mem_cons.mpr ⟨lw_p28, List.forall_mem_cons.mpr ⟨lw_p29, List.forall_mem_cons.mpr ⟨lw_p30, List.forall_mem_cons.mpr ⟨lw_p31, fun _ h => absurd h List.not_mem_nil⟩⟩⟩⟩⟩⟩⟩⟩⟩⟩⟩⟩⟩⟩⟩⟩
theorem lw_p32 : lw_okq (⟨"HeronTalkModel", "putsBack", "(I)V"⟩, 34) := ⟨⟨by decide +kernel, by decide +kernel⟩, List.mem_of_getElem? (i := 822) (by decide +kernel), List.mem_of_getElem? (i := 1157) (by decide +kernel), List.mem_of_getElem? (i := 1158) (by decide +kernel)⟩
theorem lw_p33 : lw_okq (⟨"HeronTalkModel", "lookOf", "(I)I"⟩, 34) := ⟨⟨by decide +kernel, by decide +kernel⟩, List.mem_of_getElem? (i := 822) (by decide +kernel), List.mem_of_getElem? (i := 1165) (by decide +kernel), List.mem_of_getElem? (i := 1166) (by decide +kernel)⟩
theorem lw_p34 : lw_okq (⟨"HeronTalkModel", "pricesOf", "(I)I"⟩, 34) := ⟨⟨by decide +kernel, by decide +kernel⟩, List.mem_of_getElem? (i := 822) (by decide +kernel), List.mem_of_getElem? (i := 1177) (by decide +kernel), List.mem_of_getElem? (i := 1178) (by decide +kernel)⟩
theorem lw_p35 : lw_okq (⟨"HeronTalkModel", "go", "()V"⟩, 34) := ⟨⟨by decide +kernel, by decide +kernel⟩, List.mem_of_getElem? (i := 822) (by decide +kernel), List.mem_of_getElem? (i := 1197) (by decide +kernel), List.mem_of_getElem? (i := 1198) (by decide +kernel)⟩
theorem lw_p36 : lw_okq (⟨"HeronTalkModel", "isLetter", "(I)Z"⟩, 34) := ⟨⟨by decide +kernel, by decide +kernel⟩, List.mem_of_getElem? (i := 822) (by decide +kernel), List.mem_of_getElem? (i := 1201) (by decide +kernel), List.mem_of_getElem? (i := 1202) (by decide +kernel)⟩
theorem lw_p37 : lw_okq (⟨"HeronTalkModel", "isFigure", "(I)Z"⟩, 34) := ⟨⟨by decide +kernel, by decide +kernel⟩, List.mem_of_getElem? (i := 822) (by decide +kernel), List.mem_of_getElem? (i := 1205) (by decide +kernel), List.mem_of_getElem? (i := 1206) (by decide +kernel)⟩
theorem lw_p38 : lw_okq (⟨"HeronTalkModel", "takesKey", "()Z"⟩, 34) := ⟨⟨by decide +kernel, by decide +kernel⟩, List.mem_of_getElem? (i := 822) (by decide +kernel), List.mem_of_getElem? (i := 1209) (by decide +kernel), List.mem_of_getElem? (i := 1210) (by decide +kernel)⟩
theorem lw_p39 : lw_okq (⟨"HeronTalkModel", "takesE", "()Z"⟩, 34) := ⟨⟨by decide +kernel, by decide +kernel⟩, List.mem_of_getElem? (i := 822) (by decide +kernel), List.mem_of_getElem? (i := 1213) (by decide +kernel), List.mem_of_getElem? (i := 1214) (by decide +kernel)⟩
theorem lw_p40 : lw_okq (⟨"HeronTalkModel", "takesPart", "()Z"⟩, 34) := ⟨⟨by decide +kernel, by decide +kernel⟩, List.mem_of_getElem? (i := 822) (by decide +kernel), List.mem_of_getElem? (i := 1217) (by decide +kernel), List.mem_of_getElem? (i := 1218) (by decide +kernel)⟩
theorem lw_p41 : lw_okq (⟨"HeronTalkModel", "nameOf", "(I)I"⟩, 34) := ⟨⟨by decide +kernel, by decide +kernel⟩, List.mem_of_getElem? (i := 822) (by decide +kernel), List.mem_of_getElem? (i := 1221) (by decide +kernel), List.mem_of_getElem? (i := 1222) (by decide +kernel)⟩
theorem lw_p42 : lw_okq (⟨"HeronTalkModel", "settle", "(I)V"⟩, 34) := ⟨⟨by decide +kernel, by decide +kernel⟩, List.mem_of_getElem? (i := 822) (by decide +kernel), List.mem_of_getElem? (i := 1225) (by decide +kernel), List.mem_of_getElem? (i := 1226) (by decide +kernel)⟩
theorem lw_p43 : lw_okq (⟨"HeronTalkModel", "notsOpen", "()I"⟩, 34) := ⟨⟨by decide +kernel, by decide +kernel⟩, List.mem_of_getElem? (i := 822) (by decide +kernel), List.mem_of_getElem? (i := 1232) (by decide +kernel), List.mem_of_getElem? (i := 1233) (by decide +kernel)⟩
theorem lw_p44 : lw_okq (⟨"HeronTalkModel", "signHere", "()I"⟩, 34) := ⟨⟨by decide +kernel, by decide +kernel⟩, List.mem_of_getElem? (i := 822) (by decide +kernel), List.mem_of_getElem? (i := 1236) (by decide +kernel), List.mem_of_getElem? (i := 1237) (by decide +kernel)⟩
def lw_privs_3 : List (MethodName × Nat) := [(⟨"HeronTalkModel", "putsBack", "(I)V"⟩, 34), (⟨"HeronTalkModel", "lookOf", "(I)I"⟩, 34), (⟨"HeronTalkModel", "pricesOf", "(I)I"⟩, 34), (⟨"HeronTalkModel", "go", "()V"⟩, 34), (⟨"HeronTalkModel", "isLetter", "(I)Z"⟩, 34), (⟨"HeronTalkModel", "isFigure", "(I)Z"⟩, 34), (⟨"HeronTalkModel", "takesKey", "()Z"⟩, 34), (⟨"HeronTalkModel", "takesE", "()Z"⟩, 34), (⟨"HeronTalkModel", "takesPart", "()Z"⟩, 34), (⟨"HeronTalkModel", "nameOf", "(I)I"⟩, 34), (⟨"HeronTalkModel", "settle", "(I)V"⟩, 34), (⟨"HeronTalkModel", "notsOpen", "()I"⟩, 34), (⟨"HeronTalkModel", "signHere", "()I"⟩, 34)]
theorem lw_r3 : ∀ q ∈ lw_privs_3, lw_okq q := List.forall_mem_cons.mpr ⟨lw_p32, List.forall_mem_cons.mpr ⟨lw_p33, List.forall_mem_cons.mpr ⟨lw_p34, List.forall_mem_cons.mpr ⟨lw_p35, List.forall_mem_cons.mpr ⟨lw_p36, List.forall_mem_cons.mpr ⟨lw_p37, List.forall_mem_cons.mpr ⟨lw_p38, List.forall_mem_cons.mpr ⟨lw_p39, List.forall_mem_cons.mpr ⟨lw_p40, List.forall_mem_cons.mpr ⟨lw_p41, List.forall_mem_cons.mpr ⟨lw_p42, List.forall_mem_cons.mpr ⟨lw_p43, List.forall_mem_cons.mpr ⟨lw_p44, fun _ h => absurd h List.not_mem_nil⟩⟩⟩⟩⟩⟩⟩⟩⟩⟩⟩⟩⟩
def lw_privs : List (MethodName × Nat) := lw_privs_1 ++ (lw_privs_2 ++ (lw_privs_3))
def lw_tbl : List Cond := k2_sels lw_privs ++ tables_1
theorem lw_privs_ok : ∀ q ∈ lw_privs, lw_okq q := by
  show ∀ q ∈ lw_privs_1 ++ (lw_privs_2 ++ (lw_privs_3)), lw_okq q
  exact List.forall_mem_append.mpr ⟨lw_r1, List.forall_mem_append.mpr ⟨lw_r2, lw_r3⟩⟩
end
section
def RX0 : String := "HeronTalk$Reader"
def TX0 : u_T := fun k => match k with
  | 0 => ("HeronTalk$Reader", "tape", "LHeronTalk$Tape;", true)
  | 1 => ("HeronTalk$Reader", "code", "[I", true)
  | 2 => ("HeronTalk$Reader", "codes", "I", false)
  | 3 => ("HeronTalk$Reader", "pile", "[I", true)
  | 4 => ("HeronTalk$Reader", "piled", "I", false)
  | 5 => ("HeronTalk$Reader", "key", "I", false)
  | 6 => ("HeronTalk$Reader", "leaves", "I", false)
  | 7 => ("HeronTalk$Reader", "brackets", "I", false)
  | 8 => ("HeronTalk$Reader", "nots", "I", false)
  | _ => ("HeronTalk$Reader", "wantsPiece", "Z", false)
def tyX0 : Nat → FieldType := fun k => match k with
  | 0 => .object "HeronTalk$Tape"
  | 1 => .array .int
  | 2 => .int
  | 3 => .array .int
  | 4 => .int
  | 5 => .int
  | 6 => .int
  | 7 => .int
  | 8 => .int
  | _ => .boolean
theorem nmX0 : ∀ a, a < 10 → ∀ b, b < 10 → a ≠ b → (TX0 a).2.1 ≠ (TX0 b).2.1 := by decide +kernel
theorem tyX0_ok : ∀ k, k < 10 → parseFieldDescriptor (TX0 k).2.2.1 = some (tyX0 k) := by decide +kernel
abbrev cX0_init : ByteArray := prog_2_method_1_code
def yX0_init : MethodName := ⟨RX0, "<init>", "()V"⟩
abbrev cX0_findFault : ByteArray := prog_2_method_2_code
def yX0_findFault : MethodName := ⟨RX0, "findFault", "()I"⟩
abbrev cX0_makeText : ByteArray := prog_2_method_3_code
def yX0_makeText : MethodName := ⟨RX0, "makeText", "()LHeronTalk$Text;"⟩
abbrev cX0_keyAt : ByteArray := prog_2_method_4_code
def yX0_keyAt : MethodName := ⟨RX0, "keyAt", "(II)I"⟩
abbrev cX0_nameOf : ByteArray := prog_2_method_5_code
def yX0_nameOf : MethodName := ⟨RX0, "nameOf", "(I)I"⟩
abbrev cX0_takePiece : ByteArray := prog_2_method_6_code
def yX0_takePiece : MethodName := ⟨RX0, "takePiece", "(I)I"⟩
abbrev cX0_takeSign : ByteArray := prog_2_method_7_code
def yX0_takeSign : MethodName := ⟨RX0, "takeSign", "(I)I"⟩
abbrev cX0_rankOf : ByteArray := prog_2_method_8_code
def yX0_rankOf : MethodName := ⟨RX0, "rankOf", "(I)I"⟩
abbrev cX0_topRank : ByteArray := prog_2_method_9_code
def yX0_topRank : MethodName := ⟨RX0, "topRank", "()I"⟩
abbrev cX0_pileUp : ByteArray := prog_2_method_10_code
def yX0_pileUp : MethodName := ⟨RX0, "pileUp", "(I)V"⟩
abbrev cX0_put : ByteArray := prog_2_method_11_code
def yX0_put : MethodName := ⟨RX0, "put", "(I)V"⟩
abbrev cX0_putLeaf : ByteArray := prog_2_method_12_code
def yX0_putLeaf : MethodName := ⟨RX0, "putLeaf", "(I)V"⟩
abbrev cX0_release : ByteArray := prog_2_method_13_code
def yX0_release : MethodName := ⟨RX0, "release", "(I)V"⟩
abbrev cX0_endPiece : ByteArray := prog_2_method_14_code
def yX0_endPiece : MethodName := ⟨RX0, "endPiece", "()V"⟩
def RX1 : String := "HeronTalk$Sheet"
def TX1 : u_T := fun k => match k with
  | 0 => ("HeronTalk$Sheet", "sort", "I", false)
  | 1 => ("HeronTalk$Sheet", "size", "I", false)
  | _ => ("HeronTalk$Sheet", "places", "[I", true)
def tyX1 : Nat → FieldType := fun k => match k with
  | 0 => .int
  | 1 => .int
  | _ => .array .int
theorem nmX1 : ∀ a, a < 3 → ∀ b, b < 3 → a ≠ b → (TX1 a).2.1 ≠ (TX1 b).2.1 := by decide +kernel
theorem tyX1_ok : ∀ k, k < 3 → parseFieldDescriptor (TX1 k).2.2.1 = some (tyX1 k) := by decide +kernel
abbrev cX1_init : ByteArray := prog_3_method_1_code
def yX1_init : MethodName := ⟨RX1, "<init>", "()V"⟩
abbrev cX1_lieAnew : ByteArray := prog_3_method_2_code
def yX1_lieAnew : MethodName := ⟨RX1, "lieAnew", "(II)V"⟩
abbrev cX1_becomes : ByteArray := prog_3_method_3_code
def yX1_becomes : MethodName := ⟨RX1, "becomes", "(LHeronTalk$Sheet;)V"⟩
abbrev cX1_hasNoPlace : ByteArray := prog_3_method_4_code
def yX1_hasNoPlace : MethodName := ⟨RX1, "hasNoPlace", "(I)Z"⟩
abbrev cX1_hasNoRow : ByteArray := prog_3_method_5_code
def yX1_hasNoRow : MethodName := ⟨RX1, "hasNoRow", "(II)Z"⟩
def RX2 : String := "HeronTalk$Slot"
def TX2 : u_T := fun k => match k with
  | 0 => ("HeronTalk$Slot", "holds", "I", false)
  | 1 => ("HeronTalk$Slot", "kind", "I", false)
  | 2 => ("HeronTalk$Slot", "asker", "I", false)
  | 3 => ("HeronTalk$Slot", "asked", "I", false)
  | 4 => ("HeronTalk$Slot", "number", "I", false)
  | _ => ("HeronTalk$Slot", "sheet", "LHeronTalk$Sheet;", true)
def tyX2 : Nat → FieldType := fun k => match k with
  | 0 => .int
  | 1 => .int
  | 2 => .int
  | 3 => .int
  | 4 => .int
  | _ => .object "HeronTalk$Sheet"
theorem nmX2 : ∀ a, a < 6 → ∀ b, b < 6 → a ≠ b → (TX2 a).2.1 ≠ (TX2 b).2.1 := by decide +kernel
theorem tyX2_ok : ∀ k, k < 6 → parseFieldDescriptor (TX2 k).2.2.1 = some (tyX2 k) := by decide +kernel
abbrev cX2_init : ByteArray := prog_4_method_1_code
def yX2_init : MethodName := ⟨RX2, "<init>", "()V"⟩
abbrev cX2_holdTalk : ByteArray := prog_4_method_2_code
def yX2_holdTalk : MethodName := ⟨RX2, "holdTalk", "(III)V"⟩
def RX3 : String := "HeronTalk$Tape"
def TX3 : u_T := fun k => match k with
  | 0 => ("HeronTalk$Tape", "bytes", "[B", true)
  | _ => ("HeronTalk$Tape", "length", "I", false)
def tyX3 : Nat → FieldType := fun k => match k with
  | 0 => .array .byte
  | _ => .int
theorem nmX3 : ∀ a, a < 2 → ∀ b, b < 2 → a ≠ b → (TX3 a).2.1 ≠ (TX3 b).2.1 := by decide +kernel
theorem tyX3_ok : ∀ k, k < 2 → parseFieldDescriptor (TX3 k).2.2.1 = some (tyX3 k) := by decide +kernel
abbrev cX3_init : ByteArray := prog_5_method_1_code
def yX3_init : MethodName := ⟨RX3, "<init>", "()V"⟩
abbrev cX3_add : ByteArray := prog_5_method_2_code
def yX3_add : MethodName := ⟨RX3, "add", "(I)V"⟩
abbrev cX3_at : ByteArray := prog_5_method_3_code
def yX3_at : MethodName := ⟨RX3, "at", "(I)I"⟩
abbrev cX3_hasLetter : ByteArray := prog_5_method_4_code
def yX3_hasLetter : MethodName := ⟨RX3, "hasLetter", "(I)Z"⟩
abbrev cX3_hasDigit : ByteArray := prog_5_method_5_code
def yX3_hasDigit : MethodName := ⟨RX3, "hasDigit", "(I)Z"⟩
abbrev cX3_behindBlanks : ByteArray := prog_5_method_6_code
def yX3_behindBlanks : MethodName := ⟨RX3, "behindBlanks", "(I)I"⟩
abbrev cX3_behindWord : ByteArray := prog_5_method_7_code
def yX3_behindWord : MethodName := ⟨RX3, "behindWord", "(I)I"⟩
abbrev cX3_hasWord : ByteArray := prog_5_method_8_code
def yX3_hasWord : MethodName := ⟨RX3, "hasWord", "(Ljava/lang/String;II)Z"⟩
abbrev cX3_numberAt : ByteArray := prog_5_method_9_code
def yX3_numberAt : MethodName := ⟨RX3, "numberAt", "(II)I"⟩
def RX4 : String := "HeronTalk$Text"
def TX4 : u_T := fun k => match k with
  | 0 => ("HeronTalk$Text", "key", "I", true)
  | 1 => ("HeronTalk$Text", "leaves", "I", true)
  | 2 => ("HeronTalk$Text", "code", "[I", true)
  | _ => ("HeronTalk$Text", "pile", "[I", true)
def tyX4 : Nat → FieldType := fun k => match k with
  | 0 => .int
  | 1 => .int
  | 2 => .array .int
  | _ => .array .int
theorem nmX4 : ∀ a, a < 4 → ∀ b, b < 4 → a ≠ b → (TX4 a).2.1 ≠ (TX4 b).2.1 := by decide +kernel
theorem tyX4_ok : ∀ k, k < 4 → parseFieldDescriptor (TX4 k).2.2.1 = some (tyX4 k) := by decide +kernel
abbrev cX4_init : ByteArray := prog_6_method_1_code
def yX4_init : MethodName := ⟨RX4, "<init>", "(II[I)V"⟩
abbrev cX4_valueFor : ByteArray := prog_6_method_2_code
def yX4_valueFor : MethodName := ⟨RX4, "valueFor", "(III)I"⟩
def RX5 : String := "HeronTalk$Town"
def TX5 : u_T := fun k => match k with
  | 0 => ("HeronTalk$Town", "facts", "I", false)
  | 1 => ("HeronTalk$Town", "people", "I", false)
  | 2 => ("HeronTalk$Town", "rules", "I", false)
  | 3 => ("HeronTalk$Town", "talks", "I", false)
  | 4 => ("HeronTalk$Town", "texts", "I", false)
  | 5 => ("HeronTalk$Town", "hour", "I", false)
  | 6 => ("HeronTalk$Town", "said", "I", false)
  | 7 => ("HeronTalk$Town", "z", "I", false)
  | 8 => ("HeronTalk$Town", "worth", "[I", true)
  | 9 => ("HeronTalk$Town", "till", "[I", true)
  | 10 => ("HeronTalk$Town", "knows", "[I", true)
  | 11 => ("HeronTalk$Town", "needs", "[I", true)
  | 12 => ("HeronTalk$Town", "ruleNeeds", "[I", true)
  | 13 => ("HeronTalk$Town", "ruleGives", "[I", true)
  | 14 => ("HeronTalk$Town", "kinds", "[I", true)
  | 15 => ("HeronTalk$Town", "askers", "[I", true)
  | 16 => ("HeronTalk$Town", "asked", "[I", true)
  | _ => ("HeronTalk$Town", "laws", "[LHeronTalk$Text;", true)
def tyX5 : Nat → FieldType := fun k => match k with
  | 0 => .int
  | 1 => .int
  | 2 => .int
  | 3 => .int
  | 4 => .int
  | 5 => .int
  | 6 => .int
  | 7 => .int
  | 8 => .array .int
  | 9 => .array .int
  | 10 => .array .int
  | 11 => .array .int
  | 12 => .array .int
  | 13 => .array .int
  | 14 => .array .int
  | 15 => .array .int
  | 16 => .array .int
  | _ => .array (.object "HeronTalk$Text")
theorem nmX5 : ∀ a, a < 18 → ∀ b, b < 18 → a ≠ b → (TX5 a).2.1 ≠ (TX5 b).2.1 := by decide +kernel
theorem tyX5_ok : ∀ k, k < 18 → parseFieldDescriptor (TX5 k).2.2.1 = some (tyX5 k) := by decide +kernel
abbrev cX5_init : ByteArray := prog_7_method_1_code
def yX5_init : MethodName := ⟨RX5, "<init>", "()V"⟩
abbrev cX5_becomes : ByteArray := prog_7_method_2_code
def yX5_becomes : MethodName := ⟨RX5, "becomes", "(LHeronTalk$Town;)V"⟩
abbrev cX5_addFact : ByteArray := prog_7_method_3_code
def yX5_addFact : MethodName := ⟨RX5, "addFact", "(I)I"⟩
abbrev cX5_addPerson : ByteArray := prog_7_method_4_code
def yX5_addPerson : MethodName := ⟨RX5, "addPerson", "()I"⟩
abbrev cX5_addRule : ByteArray := prog_7_method_5_code
def yX5_addRule : MethodName := ⟨RX5, "addRule", "(III)I"⟩
abbrev cX5_addTalk : ByteArray := prog_7_method_6_code
def yX5_addTalk : MethodName := ⟨RX5, "addTalk", "(III)I"⟩
abbrev cX5_addText : ByteArray := prog_7_method_7_code
def yX5_addText : MethodName := ⟨RX5, "addText", "(LHeronTalk$Text;)I"⟩
abbrev cX5_allFacts : ByteArray := prog_7_method_8_code
def yX5_allFacts : MethodName := ⟨RX5, "allFacts", "()I"⟩
abbrev cX5_isFresh : ByteArray := prog_7_method_9_code
def yX5_isFresh : MethodName := ⟨RX5, "isFresh", "(I)Z"⟩
abbrev cX5_freshFacts : ByteArray := prog_7_method_10_code
def yX5_freshFacts : MethodName := ⟨RX5, "freshFacts", "()I"⟩
abbrev cX5_isKnown : ByteArray := prog_7_method_11_code
def yX5_isKnown : MethodName := ⟨RX5, "isKnown", "(II)Z"⟩
abbrev cX5_knowersOf : ByteArray := prog_7_method_12_code
def yX5_knowersOf : MethodName := ⟨RX5, "knowersOf", "(I)I"⟩
abbrev cX5_howManyKnow : ByteArray := prog_7_method_13_code
def yX5_howManyKnow : MethodName := ⟨RX5, "howManyKnow", "(I)I"⟩
abbrev cX5_knownTogether : ByteArray := prog_7_method_14_code
def yX5_knownTogether : MethodName := ⟨RX5, "knownTogether", "()I"⟩
abbrev cX5_newsOf : ByteArray := prog_7_method_15_code
def yX5_newsOf : MethodName := ⟨RX5, "newsOf", "(I)I"⟩
abbrev cX5_richesOf : ByteArray := prog_7_method_16_code
def yX5_richesOf : MethodName := ⟨RX5, "richesOf", "(I)I"⟩
abbrev cX5_richestOne : ByteArray := prog_7_method_17_code
def yX5_richestOne : MethodName := ⟨RX5, "richestOne", "()I"⟩
abbrev cX5_withWhatFollows : ByteArray := prog_7_method_18_code
def yX5_withWhatFollows : MethodName := ⟨RX5, "withWhatFollows", "(I)I"⟩
abbrev cX5_learn : ByteArray := prog_7_method_19_code
def yX5_learn : MethodName := ⟨RX5, "learn", "(II)V"⟩
abbrev cX5_drawOne : ByteArray := prog_7_method_20_code
def yX5_drawOne : MethodName := ⟨RX5, "drawOne", "()I"⟩
abbrev cX5_drawAll : ByteArray := prog_7_method_21_code
def yX5_drawAll : MethodName := ⟨RX5, "drawAll", "()V"⟩
abbrev cX5_lastTextOf : ByteArray := prog_7_method_22_code
def yX5_lastTextOf : MethodName := ⟨RX5, "lastTextOf", "(I)I"⟩
abbrev cX5_priceOf : ByteArray := prog_7_method_23_code
def yX5_priceOf : MethodName := ⟨RX5, "priceOf", "(II)I"⟩
abbrev cX5_lookFor : ByteArray := prog_7_method_24_code
def yX5_lookFor : MethodName := ⟨RX5, "lookFor", "(I)I"⟩
abbrev cX5_fineNow : ByteArray := prog_7_method_25_code
def yX5_fineNow : MethodName := ⟨RX5, "fineNow", "()I"⟩
abbrev cX5_pick : ByteArray := prog_7_method_26_code
def yX5_pick : MethodName := ⟨RX5, "pick", "(IIZI)I"⟩
abbrev cX5_givenOf : ByteArray := prog_7_method_27_code
def yX5_givenOf : MethodName := ⟨RX5, "givenOf", "(III)I"⟩
abbrev cX5_gotOf : ByteArray := prog_7_method_28_code
def yX5_gotOf : MethodName := ⟨RX5, "gotOf", "(IIII)I"⟩
abbrev cX5_worthOf : ByteArray := prog_7_method_29_code
def yX5_worthOf : MethodName := ⟨RX5, "worthOf", "(III)I"⟩
abbrev cX5_converse : ByteArray := prog_7_method_30_code
def yX5_converse : MethodName := ⟨RX5, "converse", "(III)Z"⟩
abbrev cX5_goRound : ByteArray := prog_7_method_31_code
def yX5_goRound : MethodName := ⟨RX5, "goRound", "()I"⟩
abbrev cX5_bestToKeep : ByteArray := prog_7_method_32_code
def yX5_bestToKeep : MethodName := ⟨RX5, "bestToKeep", "(I)I"⟩
abbrev cX5_pricesForOthers : ByteArray := prog_7_method_33_code
def yX5_pricesForOthers : MethodName := ⟨RX5, "pricesForOthers", "(I)I"⟩
abbrev cX5_takeWorths : ByteArray := prog_7_method_34_code
def yX5_takeWorths : MethodName := ⟨RX5, "takeWorths", "(LHeronTalk$Sheet;)I"⟩
abbrev cX5_firstOtherwise : ByteArray := prog_7_method_35_code
def yX5_firstOtherwise : MethodName := ⟨RX5, "firstOtherwise", "(LHeronTalk$Sheet;)I"⟩
def RX6 : String := "HeronTalk"
def TX6 : u_T := fun k => match k with
  | 0 => ("HeronTalk", "town", "LHeronTalk$Town;", true)
  | 1 => ("HeronTalk", "image", "LHeronTalk$Town;", true)
  | 2 => ("HeronTalk", "thought", "LHeronTalk$Town;", true)
  | 3 => ("HeronTalk", "hasImage", "Z", false)
  | 4 => ("HeronTalk", "tape", "LHeronTalk$Tape;", true)
  | 5 => ("HeronTalk", "reader", "LHeronTalk$Reader;", true)
  | 6 => ("HeronTalk", "sheets", "[LHeronTalk$Sheet;", true)
  | 7 => ("HeronTalk", "slots", "[LHeronTalk$Slot;", true)
  | 8 => ("HeronTalk", "waiting", "[I", true)
  | 9 => ("HeronTalk", "waits", "I", false)
  | _ => ("HeronTalk", "row", "[I", true)
def tyX6 : Nat → FieldType := fun k => match k with
  | 0 => .object "HeronTalk$Town"
  | 1 => .object "HeronTalk$Town"
  | 2 => .object "HeronTalk$Town"
  | 3 => .boolean
  | 4 => .object "HeronTalk$Tape"
  | 5 => .object "HeronTalk$Reader"
  | 6 => .array (.object "HeronTalk$Sheet")
  | 7 => .array (.object "HeronTalk$Slot")
  | 8 => .array .int
  | 9 => .int
  | _ => .array .int
theorem nmX6 : ∀ a, a < 11 → ∀ b, b < 11 → a ≠ b → (TX6 a).2.1 ≠ (TX6 b).2.1 := by decide +kernel
theorem tyX6_ok : ∀ k, k < 11 → parseFieldDescriptor (TX6 k).2.2.1 = some (tyX6 k) := by decide +kernel
abbrev cX6_init : ByteArray := prog_1_method_1_code
def yX6_init : MethodName := ⟨RX6, "<init>", "()V"⟩
abbrev cX6_fact : ByteArray := prog_1_method_2_code
def yX6_fact : MethodName := ⟨RX6, "fact", "(I)I"⟩
abbrev cX6_factTold : ByteArray := prog_1_method_3_code
def yX6_factTold : MethodName := ⟨RX6, "factTold", "(II)I"⟩
abbrev cX6_set : ByteArray := prog_1_method_4_code
def yX6_set : MethodName := ⟨RX6, "set", "(III)I"⟩
abbrev cX6_person : ByteArray := prog_1_method_5_code
def yX6_person : MethodName := ⟨RX6, "person", "()I"⟩
abbrev cX6_personTold : ByteArray := prog_1_method_6_code
def yX6_personTold : MethodName := ⟨RX6, "personTold", "(II)I"⟩
abbrev cX6_knows : ByteArray := prog_1_method_7_code
def yX6_knows : MethodName := ⟨RX6, "knows", "(III)I"⟩
abbrev cX6_follows : ByteArray := prog_1_method_8_code
def yX6_follows : MethodName := ⟨RX6, "follows", "(III)I"⟩
abbrev cX6_price : ByteArray := prog_1_method_9_code
def yX6_price : MethodName := ⟨RX6, "price", "(II)I"⟩
abbrev cX6_deal : ByteArray := prog_1_method_10_code
def yX6_deal : MethodName := ⟨RX6, "deal", "()I"⟩
abbrev cX6_seed : ByteArray := prog_1_method_11_code
def yX6_seed : MethodName := ⟨RX6, "seed", "(I)I"⟩
abbrev cX6_clock : ByteArray := prog_1_method_12_code
def yX6_clock : MethodName := ⟨RX6, "clock", "(I)I"⟩
abbrev cX6_talk : ByteArray := prog_1_method_13_code
def yX6_talk : MethodName := ⟨RX6, "talk", "(III)I"⟩
abbrev cX6_told : ByteArray := prog_1_method_14_code
def yX6_told : MethodName := ⟨RX6, "told", "(II)I"⟩
abbrev cX6_as : ByteArray := prog_1_method_15_code
def yX6_as : MethodName := ⟨RX6, "as", "(II)I"⟩
abbrev cX6_turns : ByteArray := prog_1_method_16_code
def yX6_turns : MethodName := ⟨RX6, "turns", "(II)I"⟩
abbrev cX6_say : ByteArray := prog_1_method_17_code
def yX6_say : MethodName := ⟨RX6, "say", "(I)I"⟩
abbrev cX6_round : ByteArray := prog_1_method_18_code
def yX6_round : MethodName := ⟨RX6, "round", "()I"⟩
abbrev cX6_market : ByteArray := prog_1_method_19_code
def yX6_market : MethodName := ⟨RX6, "market", "()I"⟩
abbrev cX6_richest : ByteArray := prog_1_method_20_code
def yX6_richest : MethodName := ⟨RX6, "richest", "()I"⟩
abbrev cX6_fewest : ByteArray := prog_1_method_21_code
def yX6_fewest : MethodName := ⟨RX6, "fewest", "(IIII)I"⟩
abbrev cX6_look : ByteArray := prog_1_method_22_code
def yX6_look : MethodName := ⟨RX6, "look", "(II)I"⟩
abbrev cX6_find : ByteArray := prog_1_method_23_code
def yX6_find : MethodName := ⟨RX6, "find", "(II)I"⟩
abbrev cX6_keepsBack : ByteArray := prog_1_method_24_code
def yX6_keepsBack : MethodName := ⟨RX6, "keepsBack", "(I)I"⟩
abbrev cX6_fine : ByteArray := prog_1_method_25_code
def yX6_fine : MethodName := ⟨RX6, "fine", "()I"⟩
abbrev cX6_feed : ByteArray := prog_1_method_26_code
def yX6_feed : MethodName := ⟨RX6, "feed", "(III)I"⟩
abbrev cX6_trim : ByteArray := prog_1_method_27_code
def yX6_trim : MethodName := ⟨RX6, "trim", "(I)I"⟩
abbrev cX6_text : ByteArray := prog_1_method_28_code
def yX6_text : MethodName := ⟨RX6, "text", "()I"⟩
abbrev cX6_textTold : ByteArray := prog_1_method_29_code
def yX6_textTold : MethodName := ⟨RX6, "textTold", "(II)I"⟩
abbrev cX6_why : ByteArray := prog_1_method_30_code
def yX6_why : MethodName := ⟨RX6, "why", "(I)I"⟩
abbrev cX6_sheet : ByteArray := prog_1_method_31_code
def yX6_sheet : MethodName := ⟨RX6, "sheet", "(III)I"⟩
abbrev cX6_mark : ByteArray := prog_1_method_32_code
def yX6_mark : MethodName := ⟨RX6, "mark", "(III)I"⟩
abbrev cX6_pour : ByteArray := prog_1_method_33_code
def yX6_pour : MethodName := ⟨RX6, "pour", "(I)I"⟩
abbrev cX6_reads : ByteArray := prog_1_method_34_code
def yX6_reads : MethodName := ⟨RX6, "reads", "(I)I"⟩
abbrev cX6_copy : ByteArray := prog_1_method_35_code
def yX6_copy : MethodName := ⟨RX6, "copy", "(IIIII)I"⟩
abbrev cX6_lay : ByteArray := prog_1_method_36_code
def yX6_lay : MethodName := ⟨RX6, "lay", "(III)I"⟩
abbrev cX6_ask : ByteArray := prog_1_method_37_code
def yX6_ask : MethodName := ⟨RX6, "ask", "(II)I"⟩
abbrev cX6_item : ByteArray := prog_1_method_38_code
def yX6_item : MethodName := ⟨RX6, "item", "(II)I"⟩
abbrev cX6_rest : ByteArray := prog_1_method_39_code
def yX6_rest : MethodName := ⟨RX6, "rest", "(II)I"⟩
abbrev cX6_tell : ByteArray := prog_1_method_40_code
def yX6_tell : MethodName := ⟨RX6, "tell", "(I)I"⟩
abbrev cX6_check : ByteArray := prog_1_method_41_code
def yX6_check : MethodName := ⟨RX6, "check", "(I)I"⟩
abbrev cX6_keep : ByteArray := prog_1_method_42_code
def yX6_keep : MethodName := ⟨RX6, "keep", "()I"⟩
abbrev cX6_back : ByteArray := prog_1_method_43_code
def yX6_back : MethodName := ⟨RX6, "back", "()I"⟩
abbrev cX6_count : ByteArray := prog_1_method_44_code
def yX6_count : MethodName := ⟨RX6, "count", "(I)I"⟩
abbrev cX6_isNoFact : ByteArray := prog_1_method_45_code
def yX6_isNoFact : MethodName := ⟨RX6, "isNoFact", "(I)Z"⟩
abbrev cX6_isNobody : ByteArray := prog_1_method_46_code
def yX6_isNobody : MethodName := ⟨RX6, "isNobody", "(I)Z"⟩
abbrev cX6_isNoTalk : ByteArray := prog_1_method_47_code
def yX6_isNoTalk : MethodName := ⟨RX6, "isNoTalk", "(I)Z"⟩
abbrev cX6_isNoKind : ByteArray := prog_1_method_48_code
def yX6_isNoKind : MethodName := ⟨RX6, "isNoKind", "(I)Z"⟩
abbrev cX6_isNoSheet : ByteArray := prog_1_method_49_code
def yX6_isNoSheet : MethodName := ⟨RX6, "isNoSheet", "(I)Z"⟩
abbrev cX6_isNoSlot : ByteArray := prog_1_method_50_code
def yX6_isNoSlot : MethodName := ⟨RX6, "isNoSlot", "(I)Z"⟩
abbrev cX6_isOutside : ByteArray := prog_1_method_51_code
def yX6_isOutside : MethodName := ⟨RX6, "isOutside", "(III)Z"⟩
abbrev cX6_orNone : ByteArray := prog_1_method_52_code
def yX6_orNone : MethodName := ⟨RX6, "orNone", "(I)I"⟩
abbrev cX6_held : ByteArray := prog_1_method_53_code
def yX6_held : MethodName := ⟨RX6, "held", "(III)I"⟩
abbrev cX6_isOfKind : ByteArray := prog_1_method_54_code
def yX6_isOfKind : MethodName := ⟨RX6, "isOfKind", "(II)Z"⟩
abbrev cX6_goes : ByteArray := prog_1_method_55_code
def yX6_goes : MethodName := ⟨RX6, "goes", "(III)Z"⟩
abbrev cX6_comesToKnow : ByteArray := prog_1_method_56_code
def yX6_comesToKnow : MethodName := ⟨RX6, "comesToKnow", "(LHeronTalk$Town;IIII[I)Z"⟩
def RX7 : String := "HeronTalkModel"
def TX7 : u_T := fun k => match k with
  | 0 => ("HeronTalkModel", "now", "[I", true)
  | 1 => ("HeronTalkModel", "image", "[I", true)
  | 2 => ("HeronTalkModel", "aside", "[I", true)
  | 3 => ("HeronTalkModel", "hasImage", "Z", false)
  | 4 => ("HeronTalkModel", "ahead", "[I", true)
  | 5 => ("HeronTalkModel", "asked", "[I", true)
  | 6 => ("HeronTalkModel", "tape", "[I", true)
  | 7 => ("HeronTalkModel", "taped", "I", false)
  | 8 => ("HeronTalkModel", "next", "I", false)
  | 9 => ("HeronTalkModel", "from", "I", false)
  | 10 => ("HeronTalkModel", "token", "I", false)
  | 11 => ("HeronTalkModel", "value", "I", false)
  | 12 => ("HeronTalkModel", "ended", "I", false)
  | 13 => ("HeronTalkModel", "key", "I", false)
  | 14 => ("HeronTalkModel", "keys", "[C", true)
  | 15 => ("HeronTalkModel", "keyAt", "[I", true)
  | 16 => ("HeronTalkModel", "code", "[I", true)
  | 17 => ("HeronTalkModel", "codes", "I", false)
  | 18 => ("HeronTalkModel", "atoms", "I", false)
  | 19 => ("HeronTalkModel", "waits", "[I", true)
  | 20 => ("HeronTalkModel", "held", "I", false)
  | 21 => ("HeronTalkModel", "tested", "[Z", true)
  | 22 => ("HeronTalkModel", "stack", "[I", true)
  | 23 => ("HeronTalkModel", "facts", "[I", true)
  | 24 => ("HeronTalkModel", "sorts", "[I", true)
  | 25 => ("HeronTalkModel", "sizes", "[I", true)
  | 26 => ("HeronTalkModel", "cells", "[I", true)
  | 27 => ("HeronTalkModel", "holds", "[I", true)
  | 28 => ("HeronTalkModel", "holdsA", "[I", true)
  | 29 => ("HeronTalkModel", "holdsB", "[I", true)
  | 30 => ("HeronTalkModel", "heldCells", "[I", true)
  | 31 => ("HeronTalkModel", "moved", "[I", true)
  | 32 => ("HeronTalkModel", "tells", "[I", true)
  | _ => ("HeronTalkModel", "waiting", "I", false)
def tyX7 : Nat → FieldType := fun k => match k with
  | 0 => .array .int
  | 1 => .array .int
  | 2 => .array .int
  | 3 => .boolean
  | 4 => .array .int
  | 5 => .array .int
  | 6 => .array .int
  | 7 => .int
  | 8 => .int
  | 9 => .int
  | 10 => .int
  | 11 => .int
  | 12 => .int
  | 13 => .int
  | 14 => .array .char
  | 15 => .array .int
  | 16 => .array .int
  | 17 => .int
  | 18 => .int
  | 19 => .array .int
  | 20 => .int
  | 21 => .array .boolean
  | 22 => .array .int
  | 23 => .array .int
  | 24 => .array .int
  | 25 => .array .int
  | 26 => .array .int
  | 27 => .array .int
  | 28 => .array .int
  | 29 => .array .int
  | 30 => .array .int
  | 31 => .array .int
  | 32 => .array .int
  | _ => .int
theorem nmX7 : ∀ a, a < 34 → ∀ b, b < 34 → a ≠ b → (TX7 a).2.1 ≠ (TX7 b).2.1 := by decide +kernel
theorem tyX7_ok : ∀ k, k < 34 → parseFieldDescriptor (TX7 k).2.2.1 = some (tyX7 k) := by decide +kernel
abbrev cX7_init : ByteArray := prog_9_method_1_code
def yX7_init : MethodName := ⟨RX7, "<init>", "()V"⟩
abbrev cX7_in : ByteArray := prog_9_method_2_code
def yX7_in : MethodName := ⟨RX7, "in", "(III)Z"⟩
abbrev cX7_within : ByteArray := prog_9_method_3_code
def yX7_within : MethodName := ⟨RX7, "within", "(III)I"⟩
abbrev cX7_copyAll : ByteArray := prog_9_method_4_code
def yX7_copyAll : MethodName := ⟨RX7, "copyAll", "([I[I)V"⟩
abbrev cX7_told0 : ByteArray := prog_9_method_5_code
def yX7_told0 : MethodName := ⟨RX7, "told0", "(I)I"⟩
abbrev cX7_isFact : ByteArray := prog_9_method_6_code
def yX7_isFact : MethodName := ⟨RX7, "isFact", "(I)Z"⟩
abbrev cX7_isPerson : ByteArray := prog_9_method_7_code
def yX7_isPerson : MethodName := ⟨RX7, "isPerson", "(I)Z"⟩
abbrev cX7_isTalk : ByteArray := prog_9_method_8_code
def yX7_isTalk : MethodName := ⟨RX7, "isTalk", "(I)Z"⟩
abbrev cX7_isSet : ByteArray := prog_9_method_9_code
def yX7_isSet : MethodName := ⟨RX7, "isSet", "(I)Z"⟩
abbrev cX7_bitsOf : ByteArray := prog_9_method_10_code
def yX7_bitsOf : MethodName := ⟨RX7, "bitsOf", "(I)I"⟩
abbrev cX7_becomes : ByteArray := prog_9_method_11_code
def yX7_becomes : MethodName := ⟨RX7, "becomes", "(II)I"⟩
abbrev cX7_worthOf : ByteArray := prog_9_method_12_code
def yX7_worthOf : MethodName := ⟨RX7, "worthOf", "(I)I"⟩
abbrev cX7_isFresh : ByteArray := prog_9_method_13_code
def yX7_isFresh : MethodName := ⟨RX7, "isFresh", "(I)Z"⟩
abbrev cX7_knownTo : ByteArray := prog_9_method_14_code
def yX7_knownTo : MethodName := ⟨RX7, "knownTo", "(I)I"⟩
abbrev cX7_neededBy : ByteArray := prog_9_method_15_code
def yX7_neededBy : MethodName := ⟨RX7, "neededBy", "(I)I"⟩
abbrev cX7_doesKnow : ByteArray := prog_9_method_16_code
def yX7_doesKnow : MethodName := ⟨RX7, "doesKnow", "(II)Z"⟩
abbrev cX7_learns : ByteArray := prog_9_method_17_code
def yX7_learns : MethodName := ⟨RX7, "learns", "(II)V"⟩
abbrev cX7_fact : ByteArray := prog_9_method_18_code
def yX7_fact : MethodName := ⟨RX7, "fact", "(I)I"⟩
abbrev cX7_knowers : ByteArray := prog_9_method_19_code
def yX7_knowers : MethodName := ⟨RX7, "knowers", "(I)I"⟩
abbrev cX7_factTold : ByteArray := prog_9_method_20_code
def yX7_factTold : MethodName := ⟨RX7, "factTold", "(II)I"⟩
abbrev cX7_set : ByteArray := prog_9_method_21_code
def yX7_set : MethodName := ⟨RX7, "set", "(III)I"⟩
abbrev cX7_person : ByteArray := prog_9_method_22_code
def yX7_person : MethodName := ⟨RX7, "person", "()I"⟩
abbrev cX7_newsOf : ByteArray := prog_9_method_23_code
def yX7_newsOf : MethodName := ⟨RX7, "newsOf", "(I)I"⟩
abbrev cX7_richesOf : ByteArray := prog_9_method_24_code
def yX7_richesOf : MethodName := ⟨RX7, "richesOf", "(I)I"⟩
abbrev cX7_personTold : ByteArray := prog_9_method_25_code
def yX7_personTold : MethodName := ⟨RX7, "personTold", "(II)I"⟩
abbrev cX7_knows : ByteArray := prog_9_method_26_code
def yX7_knows : MethodName := ⟨RX7, "knows", "(III)I"⟩
abbrev cX7_follows : ByteArray := prog_9_method_27_code
def yX7_follows : MethodName := ⟨RX7, "follows", "(III)I"⟩
abbrev cX7_priceOf : ByteArray := prog_9_method_28_code
def yX7_priceOf : MethodName := ⟨RX7, "priceOf", "(II)I"⟩
abbrev cX7_price : ByteArray := prog_9_method_29_code
def yX7_price : MethodName := ⟨RX7, "price", "(II)I"⟩
abbrev cX7_draw : ByteArray := prog_9_method_30_code
def yX7_draw : MethodName := ⟨RX7, "draw", "()I"⟩
abbrev cX7_knownAll : ByteArray := prog_9_method_31_code
def yX7_knownAll : MethodName := ⟨RX7, "knownAll", "()I"⟩
abbrev cX7_deal : ByteArray := prog_9_method_32_code
def yX7_deal : MethodName := ⟨RX7, "deal", "()I"⟩
abbrev cX7_seed : ByteArray := prog_9_method_33_code
def yX7_seed : MethodName := ⟨RX7, "seed", "(I)I"⟩
abbrev cX7_clock : ByteArray := prog_9_method_34_code
def yX7_clock : MethodName := ⟨RX7, "clock", "(I)I"⟩
abbrev cX7_talk : ByteArray := prog_9_method_35_code
def yX7_talk : MethodName := ⟨RX7, "talk", "(III)I"⟩
abbrev cX7_best : ByteArray := prog_9_method_36_code
def yX7_best : MethodName := ⟨RX7, "best", "(IIIZI)I"⟩
abbrev cX7_givenBy : ByteArray := prog_9_method_37_code
def yX7_givenBy : MethodName := ⟨RX7, "givenBy", "(III)I"⟩
abbrev cX7_gotBy : ByteArray := prog_9_method_38_code
def yX7_gotBy : MethodName := ⟨RX7, "gotBy", "(III)I"⟩
abbrev cX7_wouldGo : ByteArray := prog_9_method_39_code
def yX7_wouldGo : MethodName := ⟨RX7, "wouldGo", "(III)Z"⟩
abbrev cX7_worthBy : ByteArray := prog_9_method_40_code
def yX7_worthBy : MethodName := ⟨RX7, "worthBy", "(III)I"⟩
abbrev cX7_told : ByteArray := prog_9_method_41_code
def yX7_told : MethodName := ⟨RX7, "told", "(II)I"⟩
abbrev cX7_isUnder : ByteArray := prog_9_method_42_code
def yX7_isUnder : MethodName := ⟨RX7, "isUnder", "(II)Z"⟩
abbrev cX7_as : ByteArray := prog_9_method_43_code
def yX7_as : MethodName := ⟨RX7, "as", "(II)I"⟩
abbrev cX7_turns : ByteArray := prog_9_method_44_code
def yX7_turns : MethodName := ⟨RX7, "turns", "(II)I"⟩
abbrev cX7_asBit : ByteArray := prog_9_method_45_code
def yX7_asBit : MethodName := ⟨RX7, "asBit", "(I)I"⟩
abbrev cX7_goes : ByteArray := prog_9_method_46_code
def yX7_goes : MethodName := ⟨RX7, "goes", "(III)Z"⟩
abbrev cX7_goesOn : ByteArray := prog_9_method_47_code
def yX7_goesOn : MethodName := ⟨RX7, "goesOn", "(I)Z"⟩
abbrev cX7_say : ByteArray := prog_9_method_48_code
def yX7_say : MethodName := ⟨RX7, "say", "(I)I"⟩
abbrev cX7_aRound : ByteArray := prog_9_method_49_code
def yX7_aRound : MethodName := ⟨RX7, "aRound", "()I"⟩
abbrev cX7_round : ByteArray := prog_9_method_50_code
def yX7_round : MethodName := ⟨RX7, "round", "()I"⟩
abbrev cX7_market : ByteArray := prog_9_method_51_code
def yX7_market : MethodName := ⟨RX7, "market", "()I"⟩
abbrev cX7_richest : ByteArray := prog_9_method_52_code
def yX7_richest : MethodName := ⟨RX7, "richest", "()I"⟩
abbrev cX7_keepsAhead : ByteArray := prog_9_method_53_code
def yX7_keepsAhead : MethodName := ⟨RX7, "keepsAhead", "(I)V"⟩
abbrev cX7_putsBack : ByteArray := prog_9_method_54_code
def yX7_putsBack : MethodName := ⟨RX7, "putsBack", "(I)V"⟩
abbrev cX7_comesToKnow : ByteArray := prog_9_method_55_code
def yX7_comesToKnow : MethodName := ⟨RX7, "comesToKnow", "(IIII)Z"⟩
abbrev cX7_fewest : ByteArray := prog_9_method_56_code
def yX7_fewest : MethodName := ⟨RX7, "fewest", "(IIII)I"⟩
abbrev cX7_lookOf : ByteArray := prog_9_method_57_code
def yX7_lookOf : MethodName := ⟨RX7, "lookOf", "(I)I"⟩
abbrev cX7_look : ByteArray := prog_9_method_58_code
def yX7_look : MethodName := ⟨RX7, "look", "(II)I"⟩
abbrev cX7_find : ByteArray := prog_9_method_59_code
def yX7_find : MethodName := ⟨RX7, "find", "(II)I"⟩
abbrev cX7_pricesOf : ByteArray := prog_9_method_60_code
def yX7_pricesOf : MethodName := ⟨RX7, "pricesOf", "(I)I"⟩
abbrev cX7_keepsBack : ByteArray := prog_9_method_61_code
def yX7_keepsBack : MethodName := ⟨RX7, "keepsBack", "(I)I"⟩
abbrev cX7_fine : ByteArray := prog_9_method_62_code
def yX7_fine : MethodName := ⟨RX7, "fine", "()I"⟩
abbrev cX7_feed : ByteArray := prog_9_method_63_code
def yX7_feed : MethodName := ⟨RX7, "feed", "(III)I"⟩
abbrev cX7_trim : ByteArray := prog_9_method_64_code
def yX7_trim : MethodName := ⟨RX7, "trim", "(I)I"⟩
abbrev cX7_isLetter : ByteArray := prog_9_method_65_code
def yX7_isLetter : MethodName := ⟨RX7, "isLetter", "(I)Z"⟩
abbrev cX7_isFigure : ByteArray := prog_9_method_66_code
def yX7_isFigure : MethodName := ⟨RX7, "isFigure", "(I)Z"⟩
abbrev cX7_go : ByteArray := prog_9_method_67_code
def yX7_go : MethodName := ⟨RX7, "go", "()V"⟩
abbrev cX7_takesKey : ByteArray := prog_9_method_68_code
def yX7_takesKey : MethodName := ⟨RX7, "takesKey", "()Z"⟩
abbrev cX7_nameOf : ByteArray := prog_9_method_69_code
def yX7_nameOf : MethodName := ⟨RX7, "nameOf", "(I)I"⟩
abbrev cX7_rank : ByteArray := prog_9_method_70_code
def yX7_rank : MethodName := ⟨RX7, "rank", "(I)I"⟩
abbrev cX7_settle : ByteArray := prog_9_method_71_code
def yX7_settle : MethodName := ⟨RX7, "settle", "(I)V"⟩
abbrev cX7_signHere : ByteArray := prog_9_method_72_code
def yX7_signHere : MethodName := ⟨RX7, "signHere", "()I"⟩
abbrev cX7_takesPart : ByteArray := prog_9_method_73_code
def yX7_takesPart : MethodName := ⟨RX7, "takesPart", "()Z"⟩
abbrev cX7_takesE : ByteArray := prog_9_method_74_code
def yX7_takesE : MethodName := ⟨RX7, "takesE", "()Z"⟩
abbrev cX7_notsOpen : ByteArray := prog_9_method_75_code
def yX7_notsOpen : MethodName := ⟨RX7, "notsOpen", "()I"⟩
abbrev cX7_text : ByteArray := prog_9_method_76_code
def yX7_text : MethodName := ⟨RX7, "text", "()I"⟩
abbrev cX7_textTold : ByteArray := prog_9_method_77_code
def yX7_textTold : MethodName := ⟨RX7, "textTold", "(II)I"⟩
abbrev cX7_counts : ByteArray := prog_9_method_78_code
def yX7_counts : MethodName := ⟨RX7, "counts", "(I)I"⟩
abbrev cX7_why : ByteArray := prog_9_method_79_code
def yX7_why : MethodName := ⟨RX7, "why", "(I)I"⟩
abbrev cX7_two : ByteArray := prog_9_method_80_code
def yX7_two : MethodName := ⟨RX7, "two", "(III)I"⟩
abbrev cX7_worksOut : ByteArray := prog_9_method_81_code
def yX7_worksOut : MethodName := ⟨RX7, "worksOut", "(I)I"⟩
abbrev cX7_isSheet : ByteArray := prog_9_method_82_code
def yX7_isSheet : MethodName := ⟨RX7, "isSheet", "(I)Z"⟩
abbrev cX7_isSlot : ByteArray := prog_9_method_83_code
def yX7_isSlot : MethodName := ⟨RX7, "isSlot", "(I)Z"⟩
abbrev cX7_sheet : ByteArray := prog_9_method_84_code
def yX7_sheet : MethodName := ⟨RX7, "sheet", "(III)I"⟩
abbrev cX7_mark : ByteArray := prog_9_method_85_code
def yX7_mark : MethodName := ⟨RX7, "mark", "(III)I"⟩
abbrev cX7_pour : ByteArray := prog_9_method_86_code
def yX7_pour : MethodName := ⟨RX7, "pour", "(I)I"⟩
abbrev cX7_reads : ByteArray := prog_9_method_87_code
def yX7_reads : MethodName := ⟨RX7, "reads", "(I)I"⟩
abbrev cX7_copy : ByteArray := prog_9_method_88_code
def yX7_copy : MethodName := ⟨RX7, "copy", "(IIIII)I"⟩
abbrev cX7_lay : ByteArray := prog_9_method_89_code
def yX7_lay : MethodName := ⟨RX7, "lay", "(III)I"⟩
abbrev cX7_ask : ByteArray := prog_9_method_90_code
def yX7_ask : MethodName := ⟨RX7, "ask", "(II)I"⟩
abbrev cX7_item : ByteArray := prog_9_method_91_code
def yX7_item : MethodName := ⟨RX7, "item", "(II)I"⟩
abbrev cX7_rest : ByteArray := prog_9_method_92_code
def yX7_rest : MethodName := ⟨RX7, "rest", "(II)I"⟩
abbrev cX7_tell : ByteArray := prog_9_method_93_code
def yX7_tell : MethodName := ⟨RX7, "tell", "(I)I"⟩
abbrev cX7_check : ByteArray := prog_9_method_94_code
def yX7_check : MethodName := ⟨RX7, "check", "(I)I"⟩
abbrev cX7_keep : ByteArray := prog_9_method_95_code
def yX7_keep : MethodName := ⟨RX7, "keep", "()I"⟩
abbrev cX7_back : ByteArray := prog_9_method_96_code
def yX7_back : MethodName := ⟨RX7, "back", "()I"⟩
abbrev cX7_count : ByteArray := prog_9_method_97_code
def yX7_count : MethodName := ⟨RX7, "count", "(I)I"⟩
def RJ6 : String := "java/lang/Integer"
def TJ6 : u_T := fun k => match k with
  | _ => ("", "", "", false)
abbrev cJ6_bitCount_0f7a4 : ByteArray := prog_10_method_49_code
def yJ6_bitCount_0f7a4 : MethodName := ⟨RJ6, "bitCount", "(I)I"⟩
def RJ9 : String := "java/lang/Math"
def TJ9 : u_T := fun k => match k with
  | _ => ("", "", "", false)
abbrev cJ9_max_7cf53 : ByteArray := prog_11_method_65_code
def yJ9_max_7cf53 : MethodName := ⟨RJ9, "max", "(II)I"⟩
abbrev cJ9_min_7cf53 : ByteArray := prog_11_method_69_code
def yJ9_min_7cf53 : MethodName := ⟨RJ9, "min", "(II)I"⟩
def RJ0 : String := "java/lang/String"
def TJ0 : u_T := fun k => match k with
  | _ => ("", "", "", false)
abbrev cJ0_length_8abf5 : ByteArray := prog_12_method_54_code
def yJ0_length_8abf5 : MethodName := ⟨RJ0, "length", "()I"⟩
abbrev cJ0_charAt_5068e : ByteArray := prog_12_method_56_code
def yJ0_charAt_5068e : MethodName := ⟨RJ0, "charAt", "(I)C"⟩
abbrev cJ0_coder_7d493 : ByteArray := prog_12_method_152_code
def yJ0_coder_7d493 : MethodName := ⟨RJ0, "coder", "()B"⟩
abbrev cJ0_isLatin1_aae02 : ByteArray := prog_12_method_154_code
def yJ0_isLatin1_aae02 : MethodName := ⟨RJ0, "isLatin1", "()Z"⟩
abbrev cJ0_checkIndex_df160 : ByteArray := prog_12_method_155_code
def yJ0_checkIndex_df160 : MethodName := ⟨RJ0, "checkIndex", "(II)V"⟩
def RJ1 : String := "java/lang/StringLatin1"
def TJ1 : u_T := fun k => match k with
  | _ => ("", "", "", false)
abbrev cJ1_charAt_3b067 : ByteArray := prog_13_method_2_code
def yJ1_charAt_3b067 : MethodName := ⟨RJ1, "charAt", "([BI)C"⟩
def RJ2 : String := "java/lang/StringUTF16"
def TJ2 : u_T := fun k => match k with
  | _ => ("", "", "", false)
abbrev cJ2_getChar_3b067 : ByteArray := prog_14_method_5_code
def yJ2_getChar_3b067 : MethodName := ⟨RJ2, "getChar", "([BI)C"⟩
abbrev cJ2_length_9d52b : ByteArray := prog_14_method_6_code
def yJ2_length_9d52b : MethodName := ⟨RJ2, "length", "([B)I"⟩
abbrev cJ2_charAt_3b067 : ByteArray := prog_14_method_83_code
def yJ2_charAt_3b067 : MethodName := ⟨RJ2, "charAt", "([BI)C"⟩
abbrev cJ2_checkIndex_2214a : ByteArray := prog_14_method_91_code
def yJ2_checkIndex_2214a : MethodName := ⟨RJ2, "checkIndex", "(I[B)V"⟩
def RJ10 : String := "java/lang/System"
def TJ10 : u_T := fun k => match k with
  | _ => ("", "", "", false)
def RJ3 : String := "jdk/internal/util/Preconditions"
def TJ3 : u_T := fun k => match k with
  | _ => ("", "", "", false)
abbrev cJ3_checkIndex_8e157 : ByteArray := prog_16_method_11_code
def yJ3_checkIndex_8e157 : MethodName := ⟨RJ3, "checkIndex", "(IILjava/util/function/BiFunction;)I"⟩
def RL : String := "HeronTalkLaw"
abbrev cL_law : ByteArray := code
def yL_law : MethodName := ⟨RL, "law", "([I)Z"⟩
abbrev classes : List vw_C := [(RX0, TX0, 10), (RX1, TX1, 3), (RX2, TX2, 6), (RX3, TX3, 2), (RX4, TX4, 4), (RX5, TX5, 18), (RX6, TX6, 11), (RX7, TX7, 34)]
end
section
/-! the abstract heap: next address, slots made, kind and size of a cell, its ints, its references -/
abbrev hS : Type := Nat × Nat × (Nat → Nat × Nat) × (Nat → Nat → Int32) × (Nat → Nat → Option Nat)
/-- launch, first address, classes and slots, array classes, ABOVE's address, the texts' addresses -/
abbrev jE : Type := Launch × Nat × va_G × (Nat → ClassId) × Nat × (Nat → Nat) × (Nat → Nat)
def hs_fs (s : hS) (a : Nat) : Nat → List Value
  | 0 => [va_rf (s.2.2.2.2 a 0), va_rf (s.2.2.2.2 a 1), .int (s.2.2.2.1 a 2), va_rf (s.2.2.2.2 a 3), .int (s.2.2.2.1 a 4), .int (s.2.2.2.1 a 5), .int (s.2.2.2.1 a 6), .int (s.2.2.2.1 a 7), .int (s.2.2.2.1 a 8), .int (s.2.2.2.1 a 9)]
  | 1 => [.int (s.2.2.2.1 a 0), .int (s.2.2.2.1 a 1), va_rf (s.2.2.2.2 a 2)]
  | 2 => [.int (s.2.2.2.1 a 0), .int (s.2.2.2.1 a 1), .int (s.2.2.2.1 a 2), .int (s.2.2.2.1 a 3), .int (s.2.2.2.1 a 4), va_rf (s.2.2.2.2 a 5)]
  | 3 => [va_rf (s.2.2.2.2 a 0), .int (s.2.2.2.1 a 1)]
  | 4 => [.int (s.2.2.2.1 a 0), .int (s.2.2.2.1 a 1), va_rf (s.2.2.2.2 a 2), va_rf (s.2.2.2.2 a 3)]
  | 5 => [.int (s.2.2.2.1 a 0), .int (s.2.2.2.1 a 1), .int (s.2.2.2.1 a 2), .int (s.2.2.2.1 a 3), .int (s.2.2.2.1 a 4), .int (s.2.2.2.1 a 5), .int (s.2.2.2.1 a 6), .int (s.2.2.2.1 a 7), va_rf (s.2.2.2.2 a 8), va_rf (s.2.2.2.2 a 9), va_rf (s.2.2.2.2 a 10), va_rf (s.2.2.2.2 a 11), va_rf (s.2.2.2.2 a 12), va_rf (s.2.2.2.2 a 13), va_rf (s.2.2.2.2 a 14), va_rf (s.2.2.2.2 a 15), va_rf (s.2.2.2.2 a 16), va_rf (s.2.2.2.2 a 17)]
  | 6 => [va_rf (s.2.2.2.2 a 0), va_rf (s.2.2.2.2 a 1), va_rf (s.2.2.2.2 a 2), .int (s.2.2.2.1 a 3), va_rf (s.2.2.2.2 a 4), va_rf (s.2.2.2.2 a 5), va_rf (s.2.2.2.2 a 6), va_rf (s.2.2.2.2 a 7), va_rf (s.2.2.2.2 a 8), .int (s.2.2.2.1 a 9), va_rf (s.2.2.2.2 a 10)]
  | 7 => [va_rf (s.2.2.2.2 a 0), va_rf (s.2.2.2.2 a 1), va_rf (s.2.2.2.2 a 2), .int (s.2.2.2.1 a 3), va_rf (s.2.2.2.2 a 4), va_rf (s.2.2.2.2 a 5), va_rf (s.2.2.2.2 a 6), .int (s.2.2.2.1 a 7), .int (s.2.2.2.1 a 8), .int (s.2.2.2.1 a 9), .int (s.2.2.2.1 a 10), .int (s.2.2.2.1 a 11), .int (s.2.2.2.1 a 12), .int (s.2.2.2.1 a 13), va_rf (s.2.2.2.2 a 14), va_rf (s.2.2.2.2 a 15), va_rf (s.2.2.2.2 a 16), .int (s.2.2.2.1 a 17), .int (s.2.2.2.1 a 18), va_rf (s.2.2.2.2 a 19), .int (s.2.2.2.1 a 20), va_rf (s.2.2.2.2 a 21), va_rf (s.2.2.2.2 a 22), va_rf (s.2.2.2.2 a 23), va_rf (s.2.2.2.2 a 24), va_rf (s.2.2.2.2 a 25), va_rf (s.2.2.2.2 a 26), va_rf (s.2.2.2.2 a 27), va_rf (s.2.2.2.2 a 28), va_rf (s.2.2.2.2 a 29), va_rf (s.2.2.2.2 a 30), va_rf (s.2.2.2.2 a 31), va_rf (s.2.2.2.2 a 32), .int (s.2.2.2.1 a 33)]
  | _ => []
def hs_pic (E : jE) (s : hS) (a : Nat) : va_E :=
  if (s.2.2.1 a).1 < 8 then .inr ((s.2.2.1 a).1, hs_fs s a (s.2.2.1 a).1)
  else if (s.2.2.1 a).1 < 12 then .inl (E.2.2.2.1 (s.2.2.1 a).1, (s.2.2.1 a).2, .inl (s.2.2.2.1 a))
  else .inl (E.2.2.2.1 (s.2.2.1 a).1, (s.2.2.1 a).2, .inr (.inr (.inr (.inr (s.2.2.2.2 a)))))
def hs_ws (E : jE) (s : hS) : va_W := (List.range' E.2.1 (s.1 - E.2.1)).map (fun a => (a, hs_pic E s a))
def hs_A (E : jE) : Nat → Prop := fun q => E.2.1 ≤ q
def hs_tys (E : jE) : List (ClassId × FieldType) := [(E.2.2.2.1 8, .byte), (E.2.2.2.1 9, .char), (E.2.2.2.1 10, .int), (E.2.2.2.1 11, .boolean), (E.2.2.2.1 12, .object RX1), (E.2.2.2.1 13, .object RX2), (E.2.2.2.1 14, .object RX4)]
def hs_nest : List Cond := [.methodLinkNest "HeronTalk$Town" 119 ⟨"HeronTalk", "held", "(III)I"⟩ "HeronTalk", .methodLinkNest "HeronTalk$Town" 126 ⟨"HeronTalk", "isOfKind", "(II)Z"⟩ "HeronTalk", .methodLinkNest "HeronTalk$Town" 140 ⟨"HeronTalk", "goes", "(III)Z"⟩ "HeronTalk"]
def hs_above (j : Nat) : Int32 := if j = 0 then -1 else if j = 3 then 1 else if j = 4 then 2 else 0
def hs_byt : List (List Int32) := [[112, 114, 105, 99, 101], [108, 111, 111, 107], [102, 105, 110, 101]]
/-- of the tables alone -/
def hs_T (E : jE) (U : State) : Prop := va_K E.2.2.1 classes (hs_tys E) U ∧ (va_AO RX1 U ∧ va_AO RX2 U ∧ va_AO RX4 U) ∧ (va_Nw (.methodLinkNest "HeronTalk$Town" 119 ⟨"HeronTalk", "held", "(III)I"⟩ "HeronTalk") U ∧ va_Nw (.methodLinkNest "HeronTalk$Town" 126 ⟨"HeronTalk", "isOfKind", "(II)Z"⟩ "HeronTalk") U ∧ va_Nw (.methodLinkNest "HeronTalk$Town" 140 ⟨"HeronTalk", "goes", "(III)Z"⟩ "HeronTalk") U) ∧ vk_R RX0 81 "price" (E.2.2.2.2.2.1 0) U ∧ vk_R RX0 87 "look" (E.2.2.2.2.2.1 1) U ∧ vk_R RX0 89 "fine" (E.2.2.2.2.2.1 2) U
/-- of what nobody writes -/
def hs_Z (E : jE) (U : State) (H : Heap) : Prop := va_Z "HeronTalk" "ABOVE" "[I" (.ref E.2.2.2.2.1) (hs_A E) U H ∧ va_T .int E.2.2.2.2.1 6 (fun j => .int (hs_above j)) (hs_A E) U H ∧ va_Z "java/lang/String" "COMPACT_STRINGS" "Z" (.int 1) (hs_A E) U H ∧ va_Zq "jdk/internal/util/Preconditions" "SIOOBE_FORMATTER" "Ljava/util/function/BiFunction;" (hs_A E) U H ∧ vk_S 3 [5, 4, 4] hs_byt E.2.2.2.2.2.1 E.2.2.2.2.2.2 (hs_A E) U H
def hs_H (E : jE) (s : hS) (H : Heap) : Prop := E.2.1 ≤ s.1 ∧ H.size = s.1 ∧ va_P E.2.2.1 classes (hs_ws E s) H ∧ ∀ a, (s.2.2.1 a).1 < 15 → E.2.1 ≤ a ∧ a < s.1
def hs_W (E : jE) (s : hS) (U : State) : Prop := hs_T E U ∧ hs_Z E U U.heap ∧ hs_H E s U.heap
def hs_le (s t : hS) : Prop := s.1 ≤ t.1 ∧ s.2.1 ≤ t.2.1
theorem hs_le.rf (s : hS) : hs_le s s := ⟨Nat.le_refl _, Nat.le_refl _⟩
theorem hs_le.tr {s t u : hS} (h : hs_le s t) (h2 : hs_le t u) : hs_le s u := ⟨Nat.le_trans h.1 h2.1, Nat.le_trans h.2 h2.2⟩
theorem hs_T.warm {E : jE} {u U : State} (hW : u.WarmedH U.vm) (h : hs_T E u) : hs_T E U := by
  obtain ⟨h1, ⟨h2, h3, h4⟩, ⟨n0, n1, n2⟩, h5, h6, h7⟩ := h
  exact ⟨va_K.moved hW.alike h1, ⟨va_AO.moved hW.alike h2, va_AO.moved hW.alike h3, va_AO.moved hW.alike h4⟩, ⟨n0.warmM hW, n1.warmM hW, n2.warmM hW⟩, h5.warm hW, h6.warm hW, h7.warm hW⟩
theorem hs_Z.moved {E : jE} {u U : State} {H : Heap} (hvm : u.vm.Alike U.vm) (h : hs_Z E u H) : hs_Z E U H := ⟨h.1.moved hvm, h.2.1.moved hvm, h.2.2.1.moved hvm, h.2.2.2.1.moved hvm, h.2.2.2.2.moved hvm⟩
theorem hs_Z.kept {E : jE} {U : State} {H H1 : Heap} (h : hs_Z E U H) (hq : ∀ a : Nat, a < H.size → ¬ hs_A E a → H1[a]? = H[a]?) : hs_Z E U H1 := ⟨h.1.kept hq, h.2.1.kept hq, h.2.2.1.kept hq, h.2.2.2.1.kept hq, h.2.2.2.2.kept hq⟩
theorem hs_ws_at {E : jE} {s : hS} {a : Nat} (h1 : E.2.1 ≤ a) (h2 : a < s.1) : (hs_ws E s)[a - E.2.1]? = some (a, hs_pic E s a) := by
  unfold hs_ws
  rw [List.getElem?_map, List.getElem?_range' (by omega)]
  simp
  constructor <;> (try congr 1) <;> omega
theorem hs_ws_mem {E : jE} {s : hS} {k : Nat} {q : Nat × va_E} (h : (hs_ws E s)[k]? = some q) : q.1 = E.2.1 + k ∧ E.2.1 + k < s.1 ∧ q.2 = hs_pic E s q.1 := by
  unfold hs_ws at h
  rw [List.getElem?_map] at h
  by_cases hk : k < s.1 - E.2.1
  · rw [List.getElem?_range' hk] at h
    simp at h
    subst h
    exact ⟨rfl, by omega, rfl⟩
  · rw [List.getElem?_eq_none (by simp; omega)] at h
    cases h
theorem hs_D (E : jE) (s : hS) : va_D (hs_A E) (hs_ws E s) := by
  refine ⟨fun i j p q hi hj e => ?_, fun k q hk => ?_⟩
  · have h1 := (hs_ws_mem hi).1
    have h2 := (hs_ws_mem hj).1
    omega
  · have h1 := (hs_ws_mem hk).1
    show E.2.1 ≤ q.1
    omega
theorem hs_ws_set {E : jE} {s s' : hS} {a : Nat} {e : va_E} (h1 : E.2.1 ≤ a) (h2 : a < s.1) (hn : s'.1 = s.1) (he : hs_pic E s' a = e) (ho : ∀ b, b ≠ a → hs_pic E s' b = hs_pic E s b) : (hs_ws E s).set (a - E.2.1) (a, e) = hs_ws E s' := by
  apply List.ext_getElem?
  intro k
  by_cases hk : k = a - E.2.1
  · subst hk
    rw [hs_ws_at h1 (by rw [hn]; exact h2), he]
    rw [List.getElem?_set_self]
    unfold hs_ws
    simp
    omega
  · rw [List.getElem?_set_ne (Ne.symm hk)]
    unfold hs_ws
    rw [List.getElem?_map, List.getElem?_map, hn]
    by_cases hl : k < s.1 - E.2.1
    · rw [List.getElem?_range' hl]
      simp
      rw [ho]
      omega
    · rw [List.getElem?_eq_none (by simp; omega)]
      rfl
theorem hs_ws_push {E : jE} {s s' : hS} {e : va_E} (h1 : E.2.1 ≤ s.1) (hn : s'.1 = s.1 + 1) (he : hs_pic E s' s.1 = e) (ho : ∀ b, b < s.1 → hs_pic E s' b = hs_pic E s b) : hs_ws E s ++ [(s.1, e)] = hs_ws E s' := by
  unfold hs_ws
  rw [hn, show s.1 + 1 - E.2.1 = (s.1 - E.2.1) + 1 by omega, List.range'_concat, List.map_append]
  have e1 : E.2.1 + 1 * (s.1 - E.2.1) = s.1 := by omega
  rw [e1]
  congr 1
  · apply List.map_congr_left
    intro b hb
    rw [ho]
    have := List.mem_range'_1.mp hb
    omega
  · simp [he]
theorem hs_in {E : jE} {s : hS} {H : Heap} (h : hs_H E s H) {a c : Nat} (hc : (s.2.2.1 a).1 = c) (h15 : c < 15) : (hs_ws E s)[a - E.2.1]? = some (a, hs_pic E s a) := by
  obtain ⟨h1, h2⟩ := h.2.2.2 a (by rw [hc]; exact h15)
  exact hs_ws_at h1 h2
end
section
/-- a method: its class, its bytes, its locals, what it returns, its name, frames and words below it -/
abbrev jM : Type := String × ByteArray × Nat × Option FieldType × String × Nat × Nat
def tbG : List Cond := lw_tbl.filter goodWord
theorem tbG_in {w : Cond} (h : w ∈ lw_tbl) (hg : goodWord w = true) : w ∈ tbG := List.mem_filter.mpr ⟨h, hg⟩
theorem tbG_good : GoodIn tbG tbG := fun w hw => ⟨hw, good_of_word (List.mem_filter.mp hw).2⟩
def jCx (E : jE) (M : jM) (p : Program) (R : Room) (s0 : State) (m : MethodId) (args : Array Value) (meth : Method) (c : Code) : Prop :=
  p.tables.exec = Jvm.exec ∧ c.code = M.2.1 ∧ meth.sig.returnType = M.2.2.2.1 ∧ s0.vm.findClass M.1 = some m.cls ∧ (∀ w ∈ tbG, w.before args s0 = true) ∧ meth.locks = false ∧ c.maxLocals = M.2.2.1 ∧ (M.2.2.2.2.2.1 ≤ R.frames ∧ M.2.2.2.2.2.2 ≤ R.locals) ∧ meth.name = M.2.2.2.2.1 ∧ hs_T E s0 ∧ hs_Z E s0 s0.heap ∧ E.2.1 ≤ s0.heap.size
def jQ (E : jE) (v : Option Value) (t : hS) : Array Value → State → Outcome → State → Prop := fun _ st o u => o = .returned v ∧ hs_W E t u ∧ va_F (hs_A E) st u
def J {α : Type} (E : jE) (M : jM) (cv : α → Option Value) (pc : Nat) (ls : List (Nat × Value)) (st : List Value) (s : hS) (r : α × hS) : Prop :=
  hs_le s r.2 ∧ ∀ (p : Program) (e : Env) (R : Room) (s0 : State) (m : MethodId) (args : Array Value) (below : List Frame) (meth : Method) (c : Code) (H : Heap) (locs : List Loc) (cells slots : Nat) (lsA : Array Slot),
    jCx E M p R s0 m args meth c → hs_H E s H → va_S (hs_A E) s0.heap H locs → cells + (r.2.1 - s.1) ≤ R.cells → slots + (r.2.2.1 - s.2.1) ≤ R.slots → lv_has lsA M.2.2.1 ls →
    W p E.1 e R s0 m args below meth c H locs cells slots (MQ below (jQ E (cv r.1) r.2) args s0 (cells + (r.2.1 - s.1)) (slots + (r.2.2.1 - s.2.1)) (hs_A E)) (F0 m pc lsA st)
def Jo {α : Type} (E : jE) (M : jM) (cv : α → Option Value) (pc : Nat) (ls : List (Nat × Value)) (st : List Value) (s : hS) (o : Option (α × hS)) : Prop := ∀ r, o = some r → J E M cv pc ls st s r
def dI (cc : ByteArray) (pc q : Nat) (i : Instr) (n : Nat) : Prop := decode cc pc = .ok (i, n) ∧ pc + n = q
def cvI (v : Int32) : Option Value := some (.int v)
def cvV (_ : Unit) : Option Value := none
def cvR (a : Nat) : Option Value := some (.ref a)
section JR
variable {α : Type} {E : jE} {M : jM} {cv : α → Option Value} {pc q : Nat} {ls ls' : List (Nat × Value)} {st : List Value} {s : hS} {o : Option (α × hS)}
theorem J.pure {pc' : Nat} {ls' : List (Nat × Value)} {st' : List Value} {r : α × hS} (h : ∀ (p : Program) (e : Env) (R : Room) (s0 : State) (m : MethodId) (args : Array Value) (below : List Frame) (meth : Method) (c : Code) (H : Heap) (locs : List Loc) (cells slots : Nat) (lsA : Array Slot) (Q : State → Prop),
    jCx E M p R s0 m args meth c → va_S (hs_A E) s0.heap H locs → lv_has lsA M.2.2.1 ls → cells ≤ R.cells → slots ≤ R.slots → (∀ lsB, lv_has lsB M.2.2.1 ls' → W p E.1 e R s0 m args below meth c H locs cells slots Q (F0 m pc' lsB st')) → W p E.1 e R s0 m args below meth c H locs cells slots Q (F0 m pc lsA st))
    (k : J E M cv pc' ls' st' s r) : J E M cv pc ls st s r :=
  ⟨k.1, fun p e R s0 m args below meth c H locs cells slots lsA C hH hS h1 h2 hl => h p e R s0 m args below meth c H locs cells slots lsA _ C hS hl (by omega) (by omega) fun lsB hlB => k.2 p e R s0 m args below meth c H locs cells slots lsB C hH hS h1 h2 hlB⟩
theorem Jo.pure {pc' : Nat} {ls' : List (Nat × Value)} {st' : List Value} (h : ∀ (p : Program) (e : Env) (R : Room) (s0 : State) (m : MethodId) (args : Array Value) (below : List Frame) (meth : Method) (c : Code) (H : Heap) (locs : List Loc) (cells slots : Nat) (lsA : Array Slot) (Q : State → Prop),
    jCx E M p R s0 m args meth c → va_S (hs_A E) s0.heap H locs → lv_has lsA M.2.2.1 ls → cells ≤ R.cells → slots ≤ R.slots → (∀ lsB, lv_has lsB M.2.2.1 ls' → W p E.1 e R s0 m args below meth c H locs cells slots Q (F0 m pc' lsB st')) → W p E.1 e R s0 m args below meth c H locs cells slots Q (F0 m pc lsA st))
    (k : Jo E M cv pc' ls' st' s o) : Jo E M cv pc ls st s o := fun r hr => J.pure h (k r hr)
theorem Jo_none : Jo E M cv pc ls st s (none : Option (α × hS)) := fun r h => by cases h
theorem Jo_sub (ks : List Nat) (hl : lv_pick ls ks = ls') (k : Jo E M cv pc ls' st s o) : Jo E M cv pc ls st s o := fun r hr => J.pure (fun _ _ _ _ _ _ _ _ _ _ _ _ _ lsA _ _ _ hl0 _ _ kk => kk lsA (lv_sub hl0 ks hl)) (k r hr)
theorem Jo_iconst {n : Int} {v : Int32} (hd : dI M.2.1 pc q (.iconst n) 1) (hv : Int32.ofInt n = v) (k : Jo E M cv q ls (.int v :: st) s o) : Jo E M cv pc ls st s o := by
  obtain ⟨hd, rfl⟩ := hd
  exact Jo.pure (fun _ _ _ _ _ _ _ _ _ _ _ _ _ lsA _ C _ hl0 _ _ kk => lv_iconst C.1 C.2.1 hd hv (kk lsA hl0)) k
theorem Jo_bipush {n : Int} {v : Int32} (hd : dI M.2.1 pc q (.bipush n) 2) (hv : (Int8.ofInt n).toInt32 = v) (k : Jo E M cv q ls (.int v :: st) s o) : Jo E M cv pc ls st s o := by
  obtain ⟨hd, rfl⟩ := hd
  exact Jo.pure (fun _ _ _ _ _ _ _ _ _ _ _ _ _ lsA _ C _ hl0 _ _ kk => lv_bipush C.1 C.2.1 hd hv (kk lsA hl0)) k
theorem Jo_sipush {n : Int} {v : Int32} (hd : dI M.2.1 pc q (.sipush n) 3) (hv : (Int16.ofInt n).toInt32 = v) (k : Jo E M cv q ls (.int v :: st) s o) : Jo E M cv pc ls st s o := by
  obtain ⟨hd, rfl⟩ := hd
  exact Jo.pure (fun _ _ _ _ _ _ _ _ _ _ _ _ _ lsA _ C _ hl0 _ _ kk => lv_sipush C.1 C.2.1 hd hv (kk lsA hl0)) k
theorem Jo_ldc {i : Nat} {v : Int32} (hd : dI M.2.1 pc q (.ldc i) 2) (hw : Cond.constant M.1 i v ∈ tbG) (k : Jo E M cv q ls (.int v :: st) s o) : Jo E M cv pc ls st s o := by
  obtain ⟨hd, rfl⟩ := hd
  exact Jo.pure (fun _ _ _ _ _ _ _ _ _ _ _ _ _ lsA _ C _ hl0 _ _ kk => lv_ldc C.1 C.2.1 C.2.2.2.1 (C.2.2.2.2.1 _ hw) hd (kk lsA hl0)) k
theorem Jo_ldcw {i : Nat} {v : Int32} (hd : dI M.2.1 pc q (.ldc_w i) 3) (hw : Cond.constant M.1 i v ∈ tbG) (k : Jo E M cv q ls (.int v :: st) s o) : Jo E M cv pc ls st s o := by
  obtain ⟨hd, rfl⟩ := hd
  exact Jo.pure (fun _ _ _ _ _ _ _ _ _ _ _ _ _ lsA _ C _ hl0 _ _ kk => lv_ldcw C.1 C.2.1 C.2.2.2.1 (C.2.2.2.2.1 _ hw) hd (kk lsA hl0)) k
theorem Jo_iloadn {j : Fin 4} {i : Nat} {x : Int32} (k0 : Nat) (hd : dI M.2.1 pc q (.iload_n j) 1) (hi : (j : Nat) = i) (hk : ls[k0]? = some (i, .int x)) (k : Jo E M cv q ls (.int x :: st) s o) : Jo E M cv pc ls st s o := by
  obtain ⟨hd, rfl⟩ := hd
  exact Jo.pure (fun _ _ _ _ _ _ _ _ _ _ _ _ _ lsA _ C _ hl0 _ _ kk => lv_iload_n C.1 C.2.1 hd hi (lv_at hl0 k0 hk) (kk lsA hl0)) k
theorem Jo_iload {i : Nat} {x : Int32} (k0 : Nat) (hd : dI M.2.1 pc q (.iload i) 2) (hk : ls[k0]? = some (i, .int x)) (k : Jo E M cv q ls (.int x :: st) s o) : Jo E M cv pc ls st s o := by
  obtain ⟨hd, rfl⟩ := hd
  exact Jo.pure (fun _ _ _ _ _ _ _ _ _ _ _ _ _ lsA _ C _ hl0 _ _ kk => lv_iload C.1 C.2.1 hd (lv_at hl0 k0 hk) (kk lsA hl0)) k
theorem Jo_aloadn {j : Fin 4} {i a : Nat} (k0 : Nat) (hd : dI M.2.1 pc q (.aload_n j) 1) (hi : (j : Nat) = i) (hk : ls[k0]? = some (i, .ref a)) (k : Jo E M cv q ls (.ref a :: st) s o) : Jo E M cv pc ls st s o := by
  obtain ⟨hd, rfl⟩ := hd
  exact Jo.pure (fun _ _ _ _ _ _ _ _ _ _ _ _ _ lsA _ C _ hl0 _ _ kk => lv_aload_n C.1 C.2.1 hd hi (lv_at hl0 k0 hk) (kk lsA hl0)) k
theorem Jo_aload {i a : Nat} (k0 : Nat) (hd : dI M.2.1 pc q (.aload i) 2) (hk : ls[k0]? = some (i, .ref a)) (k : Jo E M cv q ls (.ref a :: st) s o) : Jo E M cv pc ls st s o := by
  obtain ⟨hd, rfl⟩ := hd
  exact Jo.pure (fun _ _ _ _ _ _ _ _ _ _ _ _ _ lsA _ C _ hl0 _ _ kk => lv_aload C.1 C.2.1 hd (lv_at hl0 k0 hk) (kk lsA hl0)) k
theorem Jo_istoren {j : Fin 4} {i : Nat} {x : Int32} (hd : dI M.2.1 pc q (.istore_n j) 1) (hi : (j : Nat) = i) (hn : i < M.2.2.1) (hl : (i, Value.int x) :: ls.filter (fun q => !(q.1 == i) && !(q.1 + 1 == i && q.2.category == 2)) = ls') (k : Jo E M cv q ls' st s o) : Jo E M cv pc ls (.int x :: st) s o := by
  obtain ⟨hd, rfl⟩ := hd
  exact Jo.pure (fun _ _ _ _ _ _ _ _ _ _ _ _ _ lsA _ C _ hl0 _ _ kk => lv_istore_n C.1 C.2.1 hd hi hl0 hn hl kk) k
theorem Jo_istore {i : Nat} {x : Int32} (hd : dI M.2.1 pc q (.istore i) 2) (hn : i < M.2.2.1) (hl : (i, Value.int x) :: ls.filter (fun q => !(q.1 == i) && !(q.1 + 1 == i && q.2.category == 2)) = ls') (k : Jo E M cv q ls' st s o) : Jo E M cv pc ls (.int x :: st) s o := by
  obtain ⟨hd, rfl⟩ := hd
  exact Jo.pure (fun _ _ _ _ _ _ _ _ _ _ _ _ _ lsA _ C _ hl0 _ _ kk => lv_istore C.1 C.2.1 hd hl0 hn hl kk) k
theorem Jo_astoren {j : Fin 4} {i a : Nat} (hd : dI M.2.1 pc q (.astore_n j) 1) (hi : (j : Nat) = i) (hn : i < M.2.2.1) (hl : (i, Value.ref a) :: ls.filter (fun q => !(q.1 == i) && !(q.1 + 1 == i && q.2.category == 2)) = ls') (k : Jo E M cv q ls' st s o) : Jo E M cv pc ls (.ref a :: st) s o := by
  obtain ⟨hd, rfl⟩ := hd
  exact Jo.pure (fun _ _ _ _ _ _ _ _ _ _ _ _ _ lsA _ C _ hl0 _ _ kk => lv_astore_n C.1 C.2.1 hd hi hl0 hn hl kk) k
theorem Jo_astore {i a : Nat} (hd : dI M.2.1 pc q (.astore i) 2) (hn : i < M.2.2.1) (hl : (i, Value.ref a) :: ls.filter (fun q => !(q.1 == i) && !(q.1 + 1 == i && q.2.category == 2)) = ls') (k : Jo E M cv q ls' st s o) : Jo E M cv pc ls (.ref a :: st) s o := by
  obtain ⟨hd, rfl⟩ := hd
  exact Jo.pure (fun _ _ _ _ _ _ _ _ _ _ _ _ _ lsA _ C _ hl0 _ _ kk => lv_astore C.1 C.2.1 hd hl0 hn hl kk) k
theorem Jo_iinc {i : Nat} {n : Int} {x v : Int32} (k0 : Nat) (hd : dI M.2.1 pc q (.iinc i n) 3) (hk : ls[k0]? = some (i, .int x)) (hv : x + Int32.ofInt n = v) (hn : i < M.2.2.1) (hl : (i, Value.int v) :: ls.filter (fun q => !(q.1 == i) && !(q.1 + 1 == i && q.2.category == 2)) = ls') (k : Jo E M cv q ls' st s o) : Jo E M cv pc ls st s o := by
  obtain ⟨hd, rfl⟩ := hd
  exact Jo.pure (fun _ _ _ _ _ _ _ _ _ _ _ _ _ lsA _ C _ hl0 _ _ kk => lv_iinc C.1 C.2.1 hd hl0 hk hv hn hl kk) k
theorem Jo_iadd {x y : Int32} (hd : dI M.2.1 pc q .iadd 1) (k : Jo E M cv q ls (.int (x + y) :: st) s o) : Jo E M cv pc ls (.int y :: .int x :: st) s o := by
  obtain ⟨hd, rfl⟩ := hd
  exact Jo.pure (fun _ _ _ _ _ _ _ _ _ _ _ _ _ lsA _ C _ hl0 _ _ kk => lv_iadd C.1 C.2.1 hd (kk lsA hl0)) k
theorem Jo_isub {x y : Int32} (hd : dI M.2.1 pc q .isub 1) (k : Jo E M cv q ls (.int (x - y) :: st) s o) : Jo E M cv pc ls (.int y :: .int x :: st) s o := by
  obtain ⟨hd, rfl⟩ := hd
  exact Jo.pure (fun _ _ _ _ _ _ _ _ _ _ _ _ _ lsA _ C _ hl0 _ _ kk => lv_isub C.1 C.2.1 hd (kk lsA hl0)) k
theorem Jo_imul {x y : Int32} (hd : dI M.2.1 pc q .imul 1) (k : Jo E M cv q ls (.int (x * y) :: st) s o) : Jo E M cv pc ls (.int y :: .int x :: st) s o := by
  obtain ⟨hd, rfl⟩ := hd
  exact Jo.pure (fun _ _ _ _ _ _ _ _ _ _ _ _ _ lsA _ C _ hl0 _ _ kk => lv_imul C.1 C.2.1 hd (kk lsA hl0)) k
theorem Jo_iand {x y : Int32} (hd : dI M.2.1 pc q .iand 1) (k : Jo E M cv q ls (.int (x &&& y) :: st) s o) : Jo E M cv pc ls (.int y :: .int x :: st) s o := by
  obtain ⟨hd, rfl⟩ := hd
  exact Jo.pure (fun _ _ _ _ _ _ _ _ _ _ _ _ _ lsA _ C _ hl0 _ _ kk => lv_iand C.1 C.2.1 hd (kk lsA hl0)) k
theorem Jo_ior {x y : Int32} (hd : dI M.2.1 pc q .ior 1) (k : Jo E M cv q ls (.int (x ||| y) :: st) s o) : Jo E M cv pc ls (.int y :: .int x :: st) s o := by
  obtain ⟨hd, rfl⟩ := hd
  exact Jo.pure (fun _ _ _ _ _ _ _ _ _ _ _ _ _ lsA _ C _ hl0 _ _ kk => lv_ior C.1 C.2.1 hd (kk lsA hl0)) k
theorem Jo_ixor {x y : Int32} (hd : dI M.2.1 pc q .ixor 1) (k : Jo E M cv q ls (.int (x ^^^ y) :: st) s o) : Jo E M cv pc ls (.int y :: .int x :: st) s o := by
  obtain ⟨hd, rfl⟩ := hd
  exact Jo.pure (fun _ _ _ _ _ _ _ _ _ _ _ _ _ lsA _ C _ hl0 _ _ kk => lv_ixor C.1 C.2.1 hd (kk lsA hl0)) k
theorem Jo_ishl {x y : Int32} (hd : dI M.2.1 pc q .ishl 1) (k : Jo E M cv q ls (.int (x <<< (y &&& 31)) :: st) s o) : Jo E M cv pc ls (.int y :: .int x :: st) s o := by
  obtain ⟨hd, rfl⟩ := hd
  exact Jo.pure (fun _ _ _ _ _ _ _ _ _ _ _ _ _ lsA _ C _ hl0 _ _ kk => lv_ishl C.1 C.2.1 hd (kk lsA hl0)) k
theorem Jo_ishr {x y : Int32} (hd : dI M.2.1 pc q .ishr 1) (k : Jo E M cv q ls (.int (x >>> (y &&& 31)) :: st) s o) : Jo E M cv pc ls (.int y :: .int x :: st) s o := by
  obtain ⟨hd, rfl⟩ := hd
  exact Jo.pure (fun _ _ _ _ _ _ _ _ _ _ _ _ _ lsA _ C _ hl0 _ _ kk => lv_ishr C.1 C.2.1 hd (kk lsA hl0)) k
theorem Jo_idiv {x y : Int32} (hd : dI M.2.1 pc q .idiv 1) (k : Jo E M cv q ls (.int (x / y) :: st) s o) : Jo E M cv pc ls (.int y :: .int x :: st) s (if y = 0 then none else o) := by
  by_cases hy : y = 0
  · rw [if_pos hy]; exact Jo_none
  · rw [if_neg hy]
    obtain ⟨hd, rfl⟩ := hd
    exact Jo.pure (fun _ _ _ _ _ _ _ _ _ _ _ _ _ lsA _ C _ hl0 _ _ kk => lv_idiv C.1 C.2.1 hd hy (kk lsA hl0)) k
theorem Jo_irem {x y : Int32} (hd : dI M.2.1 pc q .irem 1) (k : Jo E M cv q ls (.int (x - x / y * y) :: st) s o) : Jo E M cv pc ls (.int y :: .int x :: st) s (if y = 0 then none else o) := by
  by_cases hy : y = 0
  · rw [if_pos hy]; exact Jo_none
  · rw [if_neg hy]
    obtain ⟨hd, rfl⟩ := hd
    exact Jo.pure (fun _ _ _ _ _ _ _ _ _ _ _ _ _ lsA _ C _ hl0 _ _ kk => lv_irem C.1 C.2.1 hd hy (kk lsA hl0)) k
theorem Jo_ineg {x : Int32} (hd : dI M.2.1 pc q .ineg 1) (k : Jo E M cv q ls (.int (-x) :: st) s o) : Jo E M cv pc ls (.int x :: st) s o := by
  obtain ⟨hd, rfl⟩ := hd
  exact Jo.pure (fun _ _ _ _ _ _ _ _ _ _ _ _ _ lsA _ C _ hl0 _ _ kk => lv_ineg C.1 C.2.1 hd (kk lsA hl0)) k
theorem Jo_iushr {x y : Int32} (hd : dI M.2.1 pc q .iushr 1) (k : Jo E M cv q ls (.int (x.toUInt32 >>> (y.toUInt32 &&& Int32.toUInt32 31)).toInt32 :: st) s o) : Jo E M cv pc ls (.int y :: .int x :: st) s o := by
  obtain ⟨hd, rfl⟩ := hd
  exact Jo.pure (fun _ _ _ _ _ _ _ _ _ _ _ _ _ lsA _ C _ hl0 _ _ kk => lv_iushr C.1 C.2.1 hd rfl (kk lsA hl0)) k
theorem Jo_i2b {x : Int32} (hd : dI M.2.1 pc q .i2b 1) (k : Jo E M cv q ls (.int x.toInt8.toInt32 :: st) s o) : Jo E M cv pc ls (.int x :: st) s o := by
  obtain ⟨hd, rfl⟩ := hd
  exact Jo.pure (fun _ _ _ _ _ _ _ _ _ _ _ _ _ lsA _ C _ hl0 _ _ kk => lv_i2b C.1 C.2.1 hd rfl (kk lsA hl0)) k
theorem Jo_i2s {x : Int32} (hd : dI M.2.1 pc q .i2s 1) (k : Jo E M cv q ls (.int x.toInt16.toInt32 :: st) s o) : Jo E M cv pc ls (.int x :: st) s o := by
  obtain ⟨hd, rfl⟩ := hd
  exact Jo.pure (fun _ _ _ _ _ _ _ _ _ _ _ _ _ lsA _ C _ hl0 _ _ kk => lv_i2s C.1 C.2.1 hd rfl (kk lsA hl0)) k
theorem Jo_i2c {x : Int32} (hd : dI M.2.1 pc q .i2c 1) (k : Jo E M cv q ls (.int (x.toUInt32 % 65536).toInt32 :: st) s o) : Jo E M cv pc ls (.int x :: st) s o := by
  obtain ⟨hd, rfl⟩ := hd
  exact Jo.pure (fun _ _ _ _ _ _ _ _ _ _ _ _ _ lsA _ C _ hl0 _ _ kk => lv_i2c C.1 C.2.1 hd rfl (kk lsA hl0)) k
theorem Jo_dup {v : Value} (hd : dI M.2.1 pc q .dup 1) (hv : v.category = 1) (k : Jo E M cv q ls (v :: v :: st) s o) : Jo E M cv pc ls (v :: st) s o := by
  obtain ⟨hd, rfl⟩ := hd
  exact Jo.pure (fun _ _ _ _ _ _ _ _ _ _ _ _ _ lsA _ C _ hl0 _ _ kk => lv_dup C.1 C.2.1 hd hv (kk lsA hl0)) k
theorem Jo_dup2 {v w : Value} (hd : dI M.2.1 pc q .dup2 1) (hv : v.category = 1) (hw : w.category = 1) (k : Jo E M cv q ls (v :: w :: v :: w :: st) s o) : Jo E M cv pc ls (v :: w :: st) s o := by
  obtain ⟨hd, rfl⟩ := hd
  exact Jo.pure (fun _ _ _ _ _ _ _ _ _ _ _ _ _ lsA _ C _ hl0 _ _ kk => lv_dup2_11 C.1 C.2.1 hd hv hw (kk lsA hl0)) k
theorem Jo_pop {v : Value} (hd : dI M.2.1 pc q .pop 1) (hv : v.category = 1) (k : Jo E M cv q ls st s o) : Jo E M cv pc ls (v :: st) s o := by
  obtain ⟨hd, rfl⟩ := hd
  exact Jo.pure (fun _ _ _ _ _ _ _ _ _ _ _ _ _ lsA _ C _ hl0 _ _ kk => lv_pop C.1 C.2.1 hd hv (kk lsA hl0)) k
theorem Jo_goto {off : Int} (tgt : Nat) (hd : decode M.2.1 pc = .ok (.goto off, 3)) (ht : (pc : Int) + off = (tgt : Int)) (k : Jo E M cv tgt ls st s o) : Jo E M cv pc ls st s o :=
  Jo.pure (fun _ _ _ _ _ _ _ _ _ _ _ _ _ lsA _ C _ hl0 _ _ kk => lv_goto C.1 C.2.1 hd ht (kk lsA hl0)) k
/-- a branch: two ways on, by a condition -/
theorem Jo.branch {c : Prop} [Decidable c] {st1 st2 : List Value} {q1 q2 : Nat} {o1 o2 : Option (α × hS)} (h : ∀ (p : Program) (e : Env) (R : Room) (s0 : State) (m : MethodId) (args : Array Value) (below : List Frame) (meth : Method) (cd : Code) (H : Heap) (locs : List Loc) (cells slots : Nat) (lsA : Array Slot) (Q : State → Prop),
    jCx E M p R s0 m args meth cd → (c → W p E.1 e R s0 m args below meth cd H locs cells slots Q (F0 m q1 lsA st1)) → (¬ c → W p E.1 e R s0 m args below meth cd H locs cells slots Q (F0 m q2 lsA st2)) → W p E.1 e R s0 m args below meth cd H locs cells slots Q (F0 m pc lsA st))
    (k1 : Jo E M cv q1 ls st1 s o1) (k2 : Jo E M cv q2 ls st2 s o2) : Jo E M cv pc ls st s (if c then o1 else o2) := by
  intro r hr
  by_cases hc : c
  · rw [if_pos hc] at hr
    have k := k1 r hr
    exact ⟨k.1, fun p e R s0 m args below meth cd H locs cells slots lsA C hH hS h1 h2 hl => h p e R s0 m args below meth cd H locs cells slots lsA _ C (fun _ => k.2 p e R s0 m args below meth cd H locs cells slots lsA C hH hS h1 h2 hl) (fun hn => absurd hc hn)⟩
  · rw [if_neg hc] at hr
    have k := k2 r hr
    exact ⟨k.1, fun p e R s0 m args below meth cd H locs cells slots lsA C hH hS h1 h2 hl => h p e R s0 m args below meth cd H locs cells slots lsA _ C (fun hn => absurd hn hc) (fun _ => k.2 p e R s0 m args below meth cd H locs cells slots lsA C hH hS h1 h2 hl)⟩
theorem ne_flip {x y : Int32} {A : Prop} (h : x = y → A) : ¬ ¬ x = y → A := fun hn => h (Decidable.not_not.mp hn)
theorem Jo_if_eq {x : Int32} {off : Int} {o1 o2 : Option (α × hS)} (tgt : Nat) (hd : decode M.2.1 pc = .ok (.ifCond .eq off, 3)) (ht : (pc : Int) + off = (tgt : Int)) (hq : pc + 3 = q) (k1 : Jo E M cv tgt ls st s o1) (k2 : Jo E M cv q ls st s o2) : Jo E M cv pc ls (.int x :: st) s (if x = 0 then o1 else o2) := by
  subst hq
  exact Jo.branch (fun _ _ _ _ _ _ _ _ _ _ _ _ _ _ _ C kt kf => lv_if_eq C.1 C.2.1 hd ht kt kf) k1 k2
theorem Jo_icmp_eq {x y : Int32} {off : Int} {o1 o2 : Option (α × hS)} (tgt : Nat) (hd : decode M.2.1 pc = .ok (.if_icmp .eq off, 3)) (ht : (pc : Int) + off = (tgt : Int)) (hq : pc + 3 = q) (k1 : Jo E M cv tgt ls st s o1) (k2 : Jo E M cv q ls st s o2) : Jo E M cv pc ls (.int y :: .int x :: st) s (if x = y then o1 else o2) := by
  subst hq
  exact Jo.branch (fun _ _ _ _ _ _ _ _ _ _ _ _ _ _ _ C kt kf => lv_icmp_eq C.1 C.2.1 hd ht kt kf) k1 k2
theorem Jo_if_ne {x : Int32} {off : Int} {o1 o2 : Option (α × hS)} (tgt : Nat) (hd : decode M.2.1 pc = .ok (.ifCond .ne off, 3)) (ht : (pc : Int) + off = (tgt : Int)) (hq : pc + 3 = q) (k1 : Jo E M cv q ls st s o1) (k2 : Jo E M cv tgt ls st s o2) : Jo E M cv pc ls (.int x :: st) s (if x = 0 then o1 else o2) := by
  subst hq
  exact Jo.branch (fun _ _ _ _ _ _ _ _ _ _ _ _ _ _ _ C kt kf => lv_if_ne C.1 C.2.1 hd ht kf kt) k1 k2
theorem Jo_icmp_ne {x y : Int32} {off : Int} {o1 o2 : Option (α × hS)} (tgt : Nat) (hd : decode M.2.1 pc = .ok (.if_icmp .ne off, 3)) (ht : (pc : Int) + off = (tgt : Int)) (hq : pc + 3 = q) (k1 : Jo E M cv q ls st s o1) (k2 : Jo E M cv tgt ls st s o2) : Jo E M cv pc ls (.int y :: .int x :: st) s (if x = y then o1 else o2) := by
  subst hq
  exact Jo.branch (fun _ _ _ _ _ _ _ _ _ _ _ _ _ _ _ C kt kf => lv_icmp_ne C.1 C.2.1 hd ht kf kt) k1 k2
theorem Jo_if_lt {x : Int32} {off : Int} {o1 o2 : Option (α × hS)} (tgt : Nat) (hd : decode M.2.1 pc = .ok (.ifCond .lt off, 3)) (ht : (pc : Int) + off = (tgt : Int)) (hq : pc + 3 = q) (k1 : Jo E M cv tgt ls st s o1) (k2 : Jo E M cv q ls st s o2) : Jo E M cv pc ls (.int x :: st) s (if x < 0 then o1 else o2) := by
  subst hq
  exact Jo.branch (fun _ _ _ _ _ _ _ _ _ _ _ _ _ _ _ C kt kf => lv_if_lt C.1 C.2.1 hd ht kt kf) k1 k2
theorem Jo_icmp_lt {x y : Int32} {off : Int} {o1 o2 : Option (α × hS)} (tgt : Nat) (hd : decode M.2.1 pc = .ok (.if_icmp .lt off, 3)) (ht : (pc : Int) + off = (tgt : Int)) (hq : pc + 3 = q) (k1 : Jo E M cv tgt ls st s o1) (k2 : Jo E M cv q ls st s o2) : Jo E M cv pc ls (.int y :: .int x :: st) s (if x < y then o1 else o2) := by
  subst hq
  exact Jo.branch (fun _ _ _ _ _ _ _ _ _ _ _ _ _ _ _ C kt kf => lv_icmp_lt C.1 C.2.1 hd ht kt kf) k1 k2
theorem Jo_if_ge {x : Int32} {off : Int} {o1 o2 : Option (α × hS)} (tgt : Nat) (hd : decode M.2.1 pc = .ok (.ifCond .ge off, 3)) (ht : (pc : Int) + off = (tgt : Int)) (hq : pc + 3 = q) (k1 : Jo E M cv tgt ls st s o1) (k2 : Jo E M cv q ls st s o2) : Jo E M cv pc ls (.int x :: st) s (if 0 ≤ x then o1 else o2) := by
  subst hq
  exact Jo.branch (fun _ _ _ _ _ _ _ _ _ _ _ _ _ _ _ C kt kf => lv_if_ge C.1 C.2.1 hd ht kt kf) k1 k2
theorem Jo_icmp_ge {x y : Int32} {off : Int} {o1 o2 : Option (α × hS)} (tgt : Nat) (hd : decode M.2.1 pc = .ok (.if_icmp .ge off, 3)) (ht : (pc : Int) + off = (tgt : Int)) (hq : pc + 3 = q) (k1 : Jo E M cv tgt ls st s o1) (k2 : Jo E M cv q ls st s o2) : Jo E M cv pc ls (.int y :: .int x :: st) s (if y ≤ x then o1 else o2) := by
  subst hq
  exact Jo.branch (fun _ _ _ _ _ _ _ _ _ _ _ _ _ _ _ C kt kf => lv_icmp_ge C.1 C.2.1 hd ht kt kf) k1 k2
theorem Jo_if_gt {x : Int32} {off : Int} {o1 o2 : Option (α × hS)} (tgt : Nat) (hd : decode M.2.1 pc = .ok (.ifCond .gt off, 3)) (ht : (pc : Int) + off = (tgt : Int)) (hq : pc + 3 = q) (k1 : Jo E M cv tgt ls st s o1) (k2 : Jo E M cv q ls st s o2) : Jo E M cv pc ls (.int x :: st) s (if 0 < x then o1 else o2) := by
  subst hq
  exact Jo.branch (fun _ _ _ _ _ _ _ _ _ _ _ _ _ _ _ C kt kf => lv_if_gt C.1 C.2.1 hd ht kt kf) k1 k2
theorem Jo_icmp_gt {x y : Int32} {off : Int} {o1 o2 : Option (α × hS)} (tgt : Nat) (hd : decode M.2.1 pc = .ok (.if_icmp .gt off, 3)) (ht : (pc : Int) + off = (tgt : Int)) (hq : pc + 3 = q) (k1 : Jo E M cv tgt ls st s o1) (k2 : Jo E M cv q ls st s o2) : Jo E M cv pc ls (.int y :: .int x :: st) s (if y < x then o1 else o2) := by
  subst hq
  exact Jo.branch (fun _ _ _ _ _ _ _ _ _ _ _ _ _ _ _ C kt kf => lv_icmp_gt C.1 C.2.1 hd ht kt kf) k1 k2
theorem Jo_if_le {x : Int32} {off : Int} {o1 o2 : Option (α × hS)} (tgt : Nat) (hd : decode M.2.1 pc = .ok (.ifCond .le off, 3)) (ht : (pc : Int) + off = (tgt : Int)) (hq : pc + 3 = q) (k1 : Jo E M cv tgt ls st s o1) (k2 : Jo E M cv q ls st s o2) : Jo E M cv pc ls (.int x :: st) s (if x ≤ 0 then o1 else o2) := by
  subst hq
  exact Jo.branch (fun _ _ _ _ _ _ _ _ _ _ _ _ _ _ _ C kt kf => lv_if_le C.1 C.2.1 hd ht kt kf) k1 k2
theorem Jo_icmp_le {x y : Int32} {off : Int} {o1 o2 : Option (α × hS)} (tgt : Nat) (hd : decode M.2.1 pc = .ok (.if_icmp .le off, 3)) (ht : (pc : Int) + off = (tgt : Int)) (hq : pc + 3 = q) (k1 : Jo E M cv tgt ls st s o1) (k2 : Jo E M cv q ls st s o2) : Jo E M cv pc ls (.int y :: .int x :: st) s (if x ≤ y then o1 else o2) := by
  subst hq
  exact Jo.branch (fun _ _ _ _ _ _ _ _ _ _ _ _ _ _ _ C kt kf => lv_icmp_le C.1 C.2.1 hd ht kt kf) k1 k2
end JR
end
section
def gI (s : hS) (a c k : Nat) : Option Int32 := if (s.2.2.1 a).1 = c then some (s.2.2.2.1 a k) else none
def gR (s : hS) (a c k : Nat) : Option Nat := if (s.2.2.1 a).1 = c then s.2.2.2.2 a k else none
def uI (s : hS) (a k : Nat) (v : Int32) : hS := (s.1, s.2.1, s.2.2.1, fun b j => if b = a ∧ j = k then v else s.2.2.2.1 b j, s.2.2.2.2)
def uR (s : hS) (a k : Nat) (v : Option Nat) : hS := (s.1, s.2.1, s.2.2.1, s.2.2.2.1, fun b j => if b = a ∧ j = k then v else s.2.2.2.2 b j)
def pI (s : hS) (a c k : Nat) (v : Int32) : Option hS := if (s.2.2.1 a).1 = c then some (uI s a k v) else none
def pZ (s : hS) (a c k : Nat) (v : Int32) : Option hS := if (s.2.2.1 a).1 = c ∧ (v = 0 ∨ v = 1) then some (uI s a k v) else none
def pR (s : hS) (a c k b : Nat) : Option hS := if (s.2.2.1 a).1 = c then some (uR s a k (some b)) else none
def aI (s : hS) (a t : Nat) (i : Int32) : Option Int32 := if (s.2.2.1 a).1 = t ∧ ¬ (i < 0 ∨ (s.2.2.1 a).2 ≤ i.toNatClampNeg) then some (s.2.2.2.1 a i.toNatClampNeg) else none
def aR (s : hS) (a t : Nat) (i : Int32) : Option Nat := if (s.2.2.1 a).1 = t ∧ ¬ (i < 0 ∨ (s.2.2.1 a).2 ≤ i.toNatClampNeg) then s.2.2.2.2 a i.toNatClampNeg else none
def aL (s : hS) (a t : Nat) : Option Int32 := if (s.2.2.1 a).1 = t then some (Int32.ofNat (s.2.2.1 a).2) else none
def sI (s : hS) (a t : Nat) (i x : Int32) : Option hS := if (s.2.2.1 a).1 = t ∧ ¬ (i < 0 ∨ (s.2.2.1 a).2 ≤ i.toNatClampNeg) then some (uI s a i.toNatClampNeg x) else none
def sR (s : hS) (a t : Nat) (i : Int32) (b c : Nat) : Option hS := if (s.2.2.1 a).1 = t ∧ (s.2.2.1 b).1 = c ∧ ¬ (i < 0 ∨ (s.2.2.1 a).2 ≤ i.toNatClampNeg) then some (uR s a i.toNatClampNeg (some b)) else none
def nO (s : hS) (c N : Nat) : hS := (s.1 + 1, s.2.1 + N, fun b => if b = s.1 then (c, N) else s.2.2.1 b, fun b j => if b = s.1 then 0 else s.2.2.2.1 b j, fun b j => if b = s.1 then none else s.2.2.2.2 b j)
def nA (s : hS) (t : Nat) (n : Int32) : Option hS := if ¬ n < 0 ∧ n.toNatClampNeg ≤ 100000 then some (nO s t n.toNatClampNeg) else none
def cV {α : Type} (s : hS) (a c : Nat) (o : Option α) : Option α := if (s.2.2.1 a).1 = c then o else none
theorem hs_fs_congr {s t : hS} {b : Nat} (h1 : t.2.2.2.1 b = s.2.2.2.1 b) (h2 : t.2.2.2.2 b = s.2.2.2.2 b) (c : Nat) : hs_fs t b c = hs_fs s b c := by
  unfold hs_fs
  rw [h1, h2]
theorem hs_pic_congr {E : jE} {s t : hS} {b : Nat} (h0 : t.2.2.1 b = s.2.2.1 b) (h1 : t.2.2.2.1 b = s.2.2.2.1 b) (h2 : t.2.2.2.2 b = s.2.2.2.2 b) : hs_pic E t b = hs_pic E s b := by
  unfold hs_pic
  rw [h0, hs_fs_congr h1 h2, h1, h2]
theorem uI_I {s : hS} {a k b : Nat} {v : Int32} (h : b ≠ a) : (uI s a k v).2.2.2.1 b = s.2.2.2.1 b := by
  funext j
  simp [uI, h]
theorem uR_R {s : hS} {a k b : Nat} {v : Option Nat} (h : b ≠ a) : (uR s a k v).2.2.2.2 b = s.2.2.2.2 b := by
  funext j
  simp [uR, h]
theorem uI_self (s : hS) (a k : Nat) (v : Int32) : (uI s a k v).2.2.2.1 a = upd (s.2.2.2.1 a) k v := by
  funext j
  simp [uI, upd]
theorem uR_self (s : hS) (a k : Nat) (v : Option Nat) : (uR s a k v).2.2.2.2 a = va_up (s.2.2.2.2 a) k v := by
  funext j
  simp [uR, va_up]
theorem hs_H.at {E : jE} {s : hS} {H : Heap} (h : hs_H E s H) {a c : Nat} (hc : (s.2.2.1 a).1 = c) (h15 : c < 15) : va_at E.2.2.1 classes (a, hs_pic E s a) H := h.2.2.1 _ _ (hs_in h hc h15)
/-- one cell is written -/
theorem hs_H.put {E : jE} {s t : hS} {H H1 : Heap} {a : Nat} (h : hs_H E s H) (hn : t.1 = s.1) (hk : ∀ b, (t.2.2.1 b).1 = (s.2.2.1 b).1) (ho : ∀ b, b ≠ a → hs_pic E t b = hs_pic E s b) (z : H1.size = H.size) (oq : ∀ q : Nat, q ≠ a → H1[q]? = H[q]?) (ha : va_at E.2.2.1 classes (a, hs_pic E t a) H1) : hs_H E t H1 := by
  refine ⟨by rw [hn]; exact h.1, by rw [z, hn]; exact h.2.1, ?_, fun b hb => by rw [hn]; exact h.2.2.2 b (by rw [← hk b]; exact hb)⟩
  intro k q hq
  obtain ⟨e1, e2, e3⟩ := hs_ws_mem hq
  obtain ⟨b, e⟩ := q
  dsimp only at e1 e2 e3
  subst e3
  by_cases hb : b = a
  · subst hb
    exact ha
  · rw [ho b hb]
    have h3 := h.2.2.1 (b - E.2.1) _ (hs_ws_at (E := E) (s := s) (a := b) (by omega) (by omega))
    exact h3.kept (oq b hb)
/-- one cell is made -/
theorem hs_H.push {E : jE} {s : hS} {H H1 : Heap} {c N : Nat} (h : hs_H E s H) (z : H1.size = H.size + 1) (oq : ∀ q : Nat, q < H.size → H1[q]? = H[q]?) (ha : va_at E.2.2.1 classes (s.1, hs_pic E (nO s c N) s.1) H1) : hs_H E (nO s c N) H1 := by
  have hs := h.1
  have hz := h.2.1
  refine ⟨by show E.2.1 ≤ s.1 + 1; omega, by show H1.size = s.1 + 1; omega, ?_, fun b hb => ?_⟩
  · intro k q hq
    obtain ⟨e1, e2, e3⟩ := hs_ws_mem hq
    obtain ⟨b, e⟩ := q
    dsimp only at e1 e2 e3
    subst e3
    by_cases hb : b = s.1
    · subst hb
      exact ha
    · have e2' : E.2.1 + k < s.1 + 1 := e2
      have hp : hs_pic E (nO s c N) b = hs_pic E s b := hs_pic_congr (by simp [nO, hb]) (by funext j; simp [nO, hb]) (by funext j; simp [nO, hb])
      rw [hp]
      have h3 := h.2.2.1 (b - E.2.1) _ (hs_ws_at (E := E) (s := s) (a := b) (by omega) (by omega))
      exact h3.kept (oq b (by omega))
  · by_cases hb2 : b = s.1
    · subst hb2
      exact ⟨hs, by show s.1 < s.1 + 1; omega⟩
    · have h4 : (s.2.2.1 b).1 < 15 := by simpa [nO, hb2] using hb
      have h5 := h.2.2.2 b h4
      exact ⟨h5.1, by show b < s.1 + 1; omega⟩
/-- what a field's tables say -/
def fF (c k : Nat) (C : String) (T : u_T) (N : Nat) (ty : Nat → FieldType) : Prop := classes[c]? = some (C, T, N) ∧ k < N ∧ (∀ w ∈ u_ws C T N, w ∈ tbG) ∧ (∀ k, k < N → parseFieldDescriptor (T k).2.2.1 = some (ty k)) ∧ (∀ a, a < N → ∀ b, b < N → a ≠ b → (T a).2.1 ≠ (T b).2.1) ∧ c < 8
def fI (c k : Nat) : Prop := (∀ (s : hS) (a : Nat), (hs_fs s a c)[k]? = some (.int (s.2.2.2.1 a k))) ∧ ∀ (s : hS) (a : Nat) (v : Int32), hs_fs (uI s a k v) a c = (hs_fs s a c).set k (.int v)
def fR (c k : Nat) : Prop := (∀ (s : hS) (a : Nat), (hs_fs s a c)[k]? = some (va_rf (s.2.2.2.2 a k))) ∧ ∀ (s : hS) (a : Nat) (v : Option Nat), hs_fs (uR s a k v) a c = (hs_fs s a c).set k (va_rf v)
theorem hs_picO {E : jE} {s : hS} {a c : Nat} (h : (s.2.2.1 a).1 = c) (hc : c < 8) : hs_pic E s a = .inr (c, hs_fs s a c) := by
  unfold hs_pic
  rw [h, if_pos hc]
theorem hs_picI {E : jE} {s : hS} {a c : Nat} (h : (s.2.2.1 a).1 = c) (h8 : ¬ c < 8) (hc : c < 12) : hs_pic E s a = .inl (E.2.2.2.1 c, (s.2.2.1 a).2, .inl (s.2.2.2.1 a)) := by
  unfold hs_pic
  rw [h, if_neg h8, if_pos hc]
theorem hs_picR {E : jE} {s : hS} {a c : Nat} (h : (s.2.2.1 a).1 = c) (hc : ¬ c < 12) : hs_pic E s a = .inl (E.2.2.2.1 c, (s.2.2.1 a).2, .inr (.inr (.inr (.inr (s.2.2.2.2 a))))) := by
  unfold hs_pic
  rw [h, if_neg (by omega), if_neg hc]
section JH
variable {α : Type} {E : jE} {M : jM} {cv : α → Option Value} {pc q : Nat} {ls ls' : List (Nat × Value)} {st : List Value} {s : hS} {o : Option (α × hS)}
/-- a read of the heap -/
theorem Jo.read {st' : List Value} (h : ∀ (p : Program) (e : Env) (R : Room) (s0 : State) (m : MethodId) (args : Array Value) (below : List Frame) (meth : Method) (c : Code) (H : Heap) (locs : List Loc) (cells slots : Nat) (lsA : Array Slot) (Q : State → Prop),
    jCx E M p R s0 m args meth c → hs_H E s H → va_S (hs_A E) s0.heap H locs → W p E.1 e R s0 m args below meth c H locs cells slots Q (F0 m q lsA st') → W p E.1 e R s0 m args below meth c H locs cells slots Q (F0 m pc lsA st))
    (k : Jo E M cv q ls st' s o) : Jo E M cv pc ls st s o := fun r hr =>
  ⟨(k r hr).1, fun p e R s0 m args below meth c H locs cells slots lsA C hH hS h1 h2 hl => h p e R s0 m args below meth c H locs cells slots lsA _ C hH hS ((k r hr).2 p e R s0 m args below meth c H locs cells slots lsA C hH hS h1 h2 hl)⟩
/-- a write -/
theorem Jo.write {s' : hS} {st' : List Value} (hn : s'.1 = s.1) (hw : s'.2.1 = s.2.1) (h : ∀ (p : Program) (e : Env) (R : Room) (s0 : State) (m : MethodId) (args : Array Value) (below : List Frame) (meth : Method) (c : Code) (H : Heap) (locs : List Loc) (cells slots : Nat) (lsA : Array Slot) (Q : State → Prop),
    jCx E M p R s0 m args meth c → hs_H E s H → va_S (hs_A E) s0.heap H locs → lsA.size = M.2.2.1 → (∀ (H1 : Heap) (locs1 : List Loc), hs_H E s' H1 → va_S (hs_A E) s0.heap H1 locs1 → W p E.1 e R s0 m args below meth c H1 locs1 cells slots Q (F0 m q lsA st')) → W p E.1 e R s0 m args below meth c H locs cells slots Q (F0 m pc lsA st))
    (k : Jo E M cv q ls st' s' o) : Jo E M cv pc ls st s o := by
  intro r hr
  have hk := k r hr
  refine ⟨⟨by rw [← hn]; exact hk.1.1, by rw [← hw]; exact hk.1.2⟩, fun p e R s0 m args below meth c H locs cells slots lsA C hH hS h1 h2 hl => ?_⟩
  refine h p e R s0 m args below meth c H locs cells slots lsA _ C hH hS hl.1 fun H1 locs1 hH1 hS1 => ?_
  have h3 := hk.2 p e R s0 m args below meth c H1 locs1 cells slots lsA C hH1 hS1 (by rw [hn]; exact h1) (by rw [hw]; exact h2) hl
  rw [hn, hw] at h3
  exact h3
theorem Jo_getI {c k idx a : Nat} {C : String} {T : u_T} {N : Nat} {ty : Nat → FieldType} {g : Int32 → Option (α × hS)} (hf : fF c k C T N ty) (hfi : fI c k) (hd : dI M.2.1 pc q (.getfield idx) 3) (hl : Cond.fieldLink M.1 idx (T k).1 (T k).2.1 (T k).2.2.1 ∈ tbG)
    (kk : ∀ x, Jo E M cv q ls (.int x :: st) s (g x)) : Jo E M cv pc ls (.ref a :: st) s ((gI s a c k).bind g) := by
  by_cases hc : (s.2.2.1 a).1 = c
  · obtain ⟨hd, rfl⟩ := hd
    rw [show gI s a c k = some (s.2.2.2.1 a k) by simp [gI, hc]]
    refine Jo.read (fun p e R s0 m args below meth cd H locs cells slots lsA Q C hH hS k9 => ?_) (kk _)
    exact va_get (v := .int (s.2.2.2.1 a k)) C.1 C.2.1 C.2.2.2.2.1 hf.2.2.1 C.2.2.2.1 C.2.2.2.2.2.2.2.2.2.1.1 hH.2.2.1 (a - E.2.1) (by rw [hs_in hH hc (by have := hf.2.2.2.2.2; omega), hs_picO hc hf.2.2.2.2.2]) hf.1 k hf.2.1 (C.2.2.2.2.1 _ hl) (fun _ h => h) (hfi.1 s a) hd k9
  · rw [show gI s a c k = none by simp [gI, hc]]
    exact Jo_none
theorem Jo_getR {c k idx a : Nat} {C : String} {T : u_T} {N : Nat} {ty : Nat → FieldType} {g : Nat → Option (α × hS)} (hf : fF c k C T N ty) (hfi : fR c k) (hd : dI M.2.1 pc q (.getfield idx) 3) (hl : Cond.fieldLink M.1 idx (T k).1 (T k).2.1 (T k).2.2.1 ∈ tbG)
    (kk : ∀ x, Jo E M cv q ls (.ref x :: st) s (g x)) : Jo E M cv pc ls (.ref a :: st) s ((gR s a c k).bind g) := by
  by_cases hc : (s.2.2.1 a).1 = c
  · obtain ⟨hd, rfl⟩ := hd
    rw [show gR s a c k = s.2.2.2.2 a k by simp [gR, hc]]
    cases hx : s.2.2.2.2 a k with
    | none => exact Jo_none
    | some b =>
      refine Jo.read (fun p e R s0 m args below meth cd H locs cells slots lsA Q C hH hS k9 => ?_) (kk b)
      exact va_get (v := .ref b) C.1 C.2.1 C.2.2.2.2.1 hf.2.2.1 C.2.2.2.1 C.2.2.2.2.2.2.2.2.2.1.1 hH.2.2.1 (a - E.2.1) (by rw [hs_in hH hc (by have := hf.2.2.2.2.2; omega), hs_picO hc hf.2.2.2.2.2]) hf.1 k hf.2.1 (C.2.2.2.2.1 _ hl) (fun _ h => h) (by rw [hfi.1 s a, hx]; rfl) hd k9
  · rw [show gR s a c k = none by simp [gR, hc]]
    exact Jo_none
/-- a field's store, over the machine -/
theorem put_core {p : Program} {e : Env} {R : Room} {s0 : State} {m : MethodId} {args : Array Value} {below : List Frame} {meth : Method} {cd : Code} {H : Heap} {locs : List Loc} {cells slots : Nat} {lsA : Array Slot} {Q : State → Prop} {c k idx a : Nat} {C : String} {T : u_T} {N : Nat} {ty : Nat → FieldType} {v : Value} {s' : hS}
    (hf : fF c k C T N ty) (hfin : (T k).2.2.2 = false ∨ ((T k).2.2.2 = true ∧ M.2.2.2.2.1 = "<init>" ∧ (T k).1 = M.1)) (hd : decode M.2.1 pc = .ok (.putfield idx, 3)) (hl : Cond.fieldLink M.1 idx (T k).1 (T k).2.1 (T k).2.2.1 ∈ tbG) (hn : narrow (ty k) v = v) (hfit : fits (ty k) v = true)
    (C0 : jCx E M p R s0 m args meth cd) (hH : hs_H E s H) (hS : va_S (hs_A E) s0.heap H locs) (hc : (s.2.2.1 a).1 = c) (hlen : k < (hs_fs s a c).length)
    (e0 : s'.1 = s.1) (e1 : s'.2.2.1 = s.2.2.1) (e2 : ∀ b, b ≠ a → hs_pic E s' b = hs_pic E s b) (e3 : hs_fs s' a c = (hs_fs s a c).set k v)
    (kk : ∀ (H1 : Heap) (locs1 : List Loc), hs_H E s' H1 → va_S (hs_A E) s0.heap H1 locs1 → W p E.1 e R s0 m args below meth cd H1 locs1 cells slots Q (F0 m (pc + 3) lsA st)) : W p E.1 e R s0 m args below meth cd H locs cells slots Q (F0 m pc lsA (v :: .ref a :: st)) := by
  obtain ⟨hcl, hkN, hin, hty, hnm, h8⟩ := hf
  have hts := C0.2.2.2.2.1
  have hown := C0.2.2.2.1
  have hK : va_K E.2.2.1 classes (hs_tys E) s0 := C0.2.2.2.2.2.2.2.2.2.1.1
  have hlink := hts _ hl
  have hap := va_apart (own := M.1) hts hin ty hty hnm hK hcl
  have hat := hH.at hc (by omega : c < 15)
  rw [hs_picO hc h8] at hat
  obtain ⟨r, h1, cell, q1, q2, q3, q4⟩ := hat
  have hr : r = (C, T, N) := Option.some.inj (h1.symm.trans hcl)
  subst hr
  obtain ⟨hSl, hfc, kC, hkC, hkind⟩ := hK.1 c _ hcl
  obtain ⟨cf, kf, fi, f, hi, hsl⟩ := hSl k hkN
  have hst := (u_facts hfc hkC (u_lays hts hin hkN) hi).1
  have hlay := hts _ (hin _ (u_in_lay hkN))
  have hin3 := hH.2.2.2 a (by rw [hc]; omega)
  have key : ∀ H1 : Heap, H1[a]? = some (cell.setSlot (E.2.2.1.2 c k) v) → H1.size = H.size → (∀ q, q ≠ a → H1[q]? = H[q]?) → W p E.1 e R s0 m args below meth cd H1 (locs ++ [⟨a, f.slot⟩]) cells slots Q (F0 m (pc + 3) lsA st) := by
    intro H1 g1 g2 g3
    refine kk H1 _ (hH.put e0 (fun b => by rw [e1]) e2 g2 g3 ?_) (hS.put g2 g3 hin3.1)
    rw [hs_picO (by rw [e1]; exact hc) h8, e3]
    exact ⟨_, hcl, t_OB.to (V := updV (vp_V (hs_fs s a c)) k v) ⟨_, g1, q2, q3, t_set q4 hap hkN v⟩ (fun j _ => vp_updV_set hlen v j)⟩
  rcases hfin with hfin | ⟨hfin, hini, hdecl⟩
  · unfold u_lay at hlay
    rw [if_neg (by rw [hfin]; decide)] at hlay
    have h6 := u_store hfc hkC hkind hlay hi (hty k hkN) hn hfit
    refine W.putK C0.1 C0.2.1 (f := f) ⟨hown, hlink, ⟨_, _, _, hi⟩, hst⟩ (by rw [q2]; exact h6) q1 q3 (by rw [hsl]; exact k2_hasslot (q4 k hkN)) rfl rfl hd fun H' g1 g2 g3 => ?_
    rw [hsl] at g1
    exact key H' g1 g2 g3
  · unfold u_lay at hlay
    rw [if_pos hfin] at hlay
    have hcf : m.cls = cf := by
      obtain ⟨_, _, c', _, _, _, -, -, hf', -, -, -, hown2, -⟩ := Cond.laysFinal_spec hlay
      have e1 : c' = cf := by have := hi.symm.trans hf'; simp at this; exact this.1.symm
      rw [hdecl] at hown2
      rw [← e1]; exact Option.some.inj (hown.symm.trans hown2)
    have h6 := u_fits hfc hkC hkind (Or.inr hlay) hi (hty k hkN) hn hfit
    refine W.putFinK C0.1 C0.2.1 hown hlink hi hst hcf (by rw [C0.2.2.2.2.2.2.2.2.1]; exact hini) (by rw [q2]; exact h6) q1 q3 (by rw [hsl]; exact k2_hasslot (q4 k hkN)) rfl rfl hd fun H' g1 g2 g3 => ?_
    rw [hsl] at g1
    exact key H' g1 g2 g3
end JH
end
section
section JP
variable {α : Type} {E : jE} {M : jM} {cv : α → Option Value} {pc q : Nat} {ls ls' : List (Nat × Value)} {st : List Value} {s : hS} {o : Option (α × hS)}
theorem Jo_putI {c k idx a : Nat} {C : String} {T : u_T} {N : Nat} {ty : Nat → FieldType} {v : Int32} {g : hS → Option (α × hS)} (hf : fF c k C T N ty) (hfi : fI c k) (hfin : (T k).2.2.2 = false ∨ ((T k).2.2.2 = true ∧ M.2.2.2.2.1 = "<init>" ∧ (T k).1 = M.1)) (hty : ty k = .int) (hd : dI M.2.1 pc q (.putfield idx) 3) (hl : Cond.fieldLink M.1 idx (T k).1 (T k).2.1 (T k).2.2.1 ∈ tbG)
    (kk : ∀ s', Jo E M cv q ls st s' (g s')) : Jo E M cv pc ls (.int v :: .ref a :: st) s ((pI s a c k v).bind g) := by
  by_cases hc : (s.2.2.1 a).1 = c
  · obtain ⟨hd, rfl⟩ := hd
    rw [show pI s a c k v = some (uI s a k v) by simp [pI, hc]]
    refine Jo.write (s' := uI s a k v) rfl rfl (fun p e R s0 m args below meth cd H locs cells slots lsA Q C hH hS _ k9 => ?_) (kk _)
    exact put_core (s' := uI s a k v) hf hfin hd hl (by rw [hty]; rfl) (by rw [hty]; rfl) C hH hS hc (List.getElem?_eq_some_iff.mp (hfi.1 s a)).1 rfl rfl (fun b hb => hs_pic_congr rfl (uI_I hb) rfl) (hfi.2 s a v) k9
  · rw [show pI s a c k v = none by simp [pI, hc]]
    exact Jo_none
theorem Jo_putZ {c k idx a : Nat} {C : String} {T : u_T} {N : Nat} {ty : Nat → FieldType} {v : Int32} {g : hS → Option (α × hS)} (hf : fF c k C T N ty) (hfi : fI c k) (hfin : (T k).2.2.2 = false ∨ ((T k).2.2.2 = true ∧ M.2.2.2.2.1 = "<init>" ∧ (T k).1 = M.1)) (hty : ty k = .boolean) (hd : dI M.2.1 pc q (.putfield idx) 3) (hl : Cond.fieldLink M.1 idx (T k).1 (T k).2.1 (T k).2.2.1 ∈ tbG)
    (kk : ∀ s', Jo E M cv q ls st s' (g s')) : Jo E M cv pc ls (.int v :: .ref a :: st) s ((pZ s a c k v).bind g) := by
  by_cases hc : (s.2.2.1 a).1 = c ∧ (v = 0 ∨ v = 1)
  · obtain ⟨hd, rfl⟩ := hd
    rw [show pZ s a c k v = some (uI s a k v) by simp [pZ, hc]]
    refine Jo.write (s' := uI s a k v) rfl rfl (fun p e R s0 m args below meth cd H locs cells slots lsA Q C hH hS _ k9 => ?_) (kk _)
    exact put_core (s' := uI s a k v) hf hfin hd hl (by rw [hty]; rcases hc.2 with rfl | rfl <;> rfl) (by rw [hty]; rcases hc.2 with rfl | rfl <;> rfl) C hH hS hc.1 (List.getElem?_eq_some_iff.mp (hfi.1 s a)).1 rfl rfl (fun b hb => hs_pic_congr rfl (uI_I hb) rfl) (hfi.2 s a v) k9
  · rw [show pZ s a c k v = none by simp [pZ, hc]]
    exact Jo_none
theorem Jo_putR {c k idx a b : Nat} {C : String} {T : u_T} {N : Nat} {ty : Nat → FieldType} {g : hS → Option (α × hS)} (hf : fF c k C T N ty) (hfi : fR c k) (hfin : (T k).2.2.2 = false ∨ ((T k).2.2.2 = true ∧ M.2.2.2.2.1 = "<init>" ∧ (T k).1 = M.1)) (hty : narrow (ty k) (.ref b) = .ref b ∧ fits (ty k) (.ref b) = true) (hd : dI M.2.1 pc q (.putfield idx) 3) (hl : Cond.fieldLink M.1 idx (T k).1 (T k).2.1 (T k).2.2.1 ∈ tbG)
    (kk : ∀ s', Jo E M cv q ls st s' (g s')) : Jo E M cv pc ls (.ref b :: .ref a :: st) s ((pR s a c k b).bind g) := by
  by_cases hc : (s.2.2.1 a).1 = c
  · obtain ⟨hd, rfl⟩ := hd
    rw [show pR s a c k b = some (uR s a k (some b)) by simp [pR, hc]]
    refine Jo.write (s' := uR s a k (some b)) rfl rfl (fun p e R s0 m args below meth cd H locs cells slots lsA Q C hH hS _ k9 => ?_) (kk _)
    exact put_core (s' := uR s a k (some b)) hf hfin hd hl hty.1 hty.2 C hH hS hc (List.getElem?_eq_some_iff.mp (hfi.1 s a)).1 rfl rfl (fun b' hb => hs_pic_congr rfl rfl (uR_R hb)) (hfi.2 s a (some b)) k9
  · rw [show pR s a c k b = none by simp [pR, hc]]
    exact Jo_none
/-- kinds of int arrays: their number, their place among the types -/
theorem aI_some {s : hS} {a t : Nat} {i : Int32} (h : (s.2.2.1 a).1 = t ∧ ¬ (i < 0 ∨ (s.2.2.1 a).2 ≤ i.toNatClampNeg)) : aI s a t i = some (s.2.2.2.1 a i.toNatClampNeg) := by rw [aI, if_pos h]
theorem aI_none {s : hS} {a t : Nat} {i : Int32} (h : ¬ ((s.2.2.1 a).1 = t ∧ ¬ (i < 0 ∨ (s.2.2.1 a).2 ≤ i.toNatClampNeg))) : aI s a t i = none := by rw [aI, if_neg h]
theorem sI_some {s : hS} {a t : Nat} {i x : Int32} (h : (s.2.2.1 a).1 = t ∧ ¬ (i < 0 ∨ (s.2.2.1 a).2 ≤ i.toNatClampNeg)) : sI s a t i x = some (uI s a i.toNatClampNeg x) := by rw [sI, if_pos h]
theorem sI_none {s : hS} {a t : Nat} {i x : Int32} (h : ¬ ((s.2.2.1 a).1 = t ∧ ¬ (i < 0 ∨ (s.2.2.1 a).2 ≤ i.toNatClampNeg))) : sI s a t i x = none := by rw [sI, if_neg h]
theorem Jo_iaload {a : Nat} {i : Int32} {g : Int32 → Option (α × hS)} (hd : dI M.2.1 pc q .iaload 1) (kk : ∀ x, Jo E M cv q ls (.int x :: st) s (g x)) : Jo E M cv pc ls (.int i :: .ref a :: st) s ((aI s a 10 i).bind g) := by
  by_cases hc : (s.2.2.1 a).1 = 10 ∧ ¬ (i < 0 ∨ (s.2.2.1 a).2 ≤ i.toNatClampNeg)
  · obtain ⟨hd, rfl⟩ := hd
    rw [aI_some hc]
    exact Jo.read (fun p e R s0 m args below meth cd H locs cells slots lsA Q C hH hS k9 => va_iald C.1 C.2.1 C.2.2.2.2.2.2.2.2.2.1.1 hH.2.2.1 (a - E.2.1) 2 (by rw [hs_in hH hc.1 (by omega), hs_picI hc.1 (by omega) (by omega)]) rfl hc.2 hd k9) (kk _)
  · rw [aI_none hc]; exact Jo_none
theorem Jo_baload {a : Nat} {i : Int32} {g : Int32 → Option (α × hS)} (hd : dI M.2.1 pc q .baload 1) (kk : ∀ x, Jo E M cv q ls (.int x :: st) s (g x)) : Jo E M cv pc ls (.int i :: .ref a :: st) s ((aI s a 8 i).bind g) := by
  by_cases hc : (s.2.2.1 a).1 = 8 ∧ ¬ (i < 0 ∨ (s.2.2.1 a).2 ≤ i.toNatClampNeg)
  · obtain ⟨hd, rfl⟩ := hd
    rw [aI_some hc]
    exact Jo.read (fun p e R s0 m args below meth cd H locs cells slots lsA Q C hH hS k9 => va_bald C.1 C.2.1 C.2.2.2.2.2.2.2.2.2.1.1 hH.2.2.1 (a - E.2.1) 0 (by rw [hs_in hH hc.1 (by omega), hs_picI hc.1 (by omega) (by omega)]) rfl hc.2 hd k9) (kk _)
  · rw [aI_none hc]; exact Jo_none
theorem Jo_zaload {a : Nat} {i : Int32} {g : Int32 → Option (α × hS)} (hd : dI M.2.1 pc q .baload 1) (kk : ∀ x, Jo E M cv q ls (.int x :: st) s (g x)) : Jo E M cv pc ls (.int i :: .ref a :: st) s ((aI s a 11 i).bind g) := by
  by_cases hc : (s.2.2.1 a).1 = 11 ∧ ¬ (i < 0 ∨ (s.2.2.1 a).2 ≤ i.toNatClampNeg)
  · obtain ⟨hd, rfl⟩ := hd
    rw [aI_some hc]
    exact Jo.read (fun p e R s0 m args below meth cd H locs cells slots lsA Q C hH hS k9 => va_zald C.1 C.2.1 C.2.2.2.2.2.2.2.2.2.1.1 hH.2.2.1 (a - E.2.1) 3 (by rw [hs_in hH hc.1 (by omega), hs_picI hc.1 (by omega) (by omega)]) rfl hc.2 hd k9) (kk _)
  · rw [aI_none hc]; exact Jo_none
theorem Jo_caload {a : Nat} {i : Int32} {g : Int32 → Option (α × hS)} (hd : dI M.2.1 pc q .caload 1) (kk : ∀ x, Jo E M cv q ls (.int x :: st) s (g x)) : Jo E M cv pc ls (.int i :: .ref a :: st) s ((aI s a 9 i).bind g) := by
  by_cases hc : (s.2.2.1 a).1 = 9 ∧ ¬ (i < 0 ∨ (s.2.2.1 a).2 ≤ i.toNatClampNeg)
  · obtain ⟨hd, rfl⟩ := hd
    rw [aI_some hc]
    exact Jo.read (fun p e R s0 m args below meth cd H locs cells slots lsA Q C hH hS k9 => va_cald C.1 C.2.1 C.2.2.2.2.2.2.2.2.2.1.1 hH.2.2.1 (a - E.2.1) 1 (by rw [hs_in hH hc.1 (by omega), hs_picI hc.1 (by omega) (by omega)]) rfl hc.2 hd k9) (kk _)
  · rw [aI_none hc]; exact Jo_none
theorem Jo_aaload {a t t0 : Nat} {C0 : String} {i : Int32} {g : Nat → Option (α × hS)} (ht : (∀ E, (hs_tys E)[t0]? = some (E.2.2.2.1 t, .object C0)) ∧ ¬ t < 12 ∧ t < 15) (hd : dI M.2.1 pc q .aaload 1) (kk : ∀ x, Jo E M cv q ls (.ref x :: st) s (g x)) : Jo E M cv pc ls (.int i :: .ref a :: st) s ((aR s a t i).bind g) := by
  by_cases hc : (s.2.2.1 a).1 = t ∧ ¬ (i < 0 ∨ (s.2.2.1 a).2 ≤ i.toNatClampNeg)
  · obtain ⟨hd, rfl⟩ := hd
    rw [aR, if_pos hc]
    cases hx : s.2.2.2.2 a i.toNatClampNeg with
    | none => exact Jo_none
    | some b =>
      refine Jo.read (fun p e R s0 m args below meth cd H locs cells slots lsA Q C hH hS k9 => ?_) (kk b)
      refine va_aldq C.1 C.2.1 C.2.2.2.2.2.2.2.2.2.1.1 hH.2.2.1 (a - E.2.1) t0 (by rw [hs_in hH hc.1 ht.2.2, hs_picR hc.1 ht.2.1]) (ht.1 E) hc.2 hd ?_
      rw [hx]
      exact k9
  · rw [aR, if_neg hc]; exact Jo_none
theorem Jo_alen {a t t0 : Nat} {ty : FieldType} {g : Int32 → Option (α × hS)} (ht : (∀ E, (hs_tys E)[t0]? = some (E.2.2.2.1 t, ty)) ∧ ¬ t < 8 ∧ t < 15) (hd : dI M.2.1 pc q .arraylength 1) (kk : ∀ x, Jo E M cv q ls (.int x :: st) s (g x)) : Jo E M cv pc ls (.ref a :: st) s ((aL s a t).bind g) := by
  by_cases hc : (s.2.2.1 a).1 = t
  · obtain ⟨hd, rfl⟩ := hd
    rw [aL, if_pos hc]
    refine Jo.read (fun p e R s0 m args below meth cd H locs cells slots lsA Q C hH hS k9 => ?_) (kk _)
    by_cases h12 : t < 12
    · exact va_alen C.1 C.2.1 C.2.2.2.2.2.2.2.2.2.1.1 hH.2.2.1 (a - E.2.1) t0 (by rw [hs_in hH hc ht.2.2, hs_picI hc ht.2.1 h12]) (ht.1 E) rfl hd k9
    · exact va_alen C.1 C.2.1 C.2.2.2.2.2.2.2.2.2.1.1 hH.2.2.1 (a - E.2.1) t0 (by rw [hs_in hH hc ht.2.2, hs_picR hc h12]) (ht.1 E) rfl hd k9
  · rw [aL, if_neg hc]; exact Jo_none
theorem hs_H.putI {H H1 : Heap} {a t j : Nat} {x : Int32} (hH : hs_H E s H) (hc : (s.2.2.1 a).1 = t) (h8 : ¬ t < 8) (h12 : t < 12) (e1 : H1[a]? = some (vp_cell (E.2.2.2.1 t) ((s.2.2.1 a).2, .inl (upd (s.2.2.2.1 a) j x)))) (e2 : H1.size = H.size) (e3 : ∀ q, q ≠ a → H1[q]? = H[q]?) : hs_H E (uI s a j x) H1 := by
  refine hH.put rfl (fun _ => rfl) (fun b hb => hs_pic_congr rfl (uI_I hb) rfl) e2 e3 ?_
  have : hs_pic E (uI s a j x) a = .inl (E.2.2.2.1 t, (s.2.2.1 a).2, .inl (upd (s.2.2.2.1 a) j x)) := by
    rw [hs_picI (s := uI s a j x) hc h8 h12, uI_self]
    rfl
  rw [this]
  exact e1
theorem Jo_iastore {a : Nat} {i x : Int32} {g : hS → Option (α × hS)} (hd : dI M.2.1 pc q .iastore 1) (kk : ∀ s', Jo E M cv q ls st s' (g s')) : Jo E M cv pc ls (.int x :: .int i :: .ref a :: st) s ((sI s a 10 i x).bind g) := by
  by_cases hc : (s.2.2.1 a).1 = 10 ∧ ¬ (i < 0 ∨ (s.2.2.1 a).2 ≤ i.toNatClampNeg)
  · obtain ⟨hd, rfl⟩ := hd
    rw [sI_some hc]
    refine Jo.write (s' := uI s a i.toNatClampNeg x) rfl rfl (fun p e R s0 m args below meth cd H locs cells slots lsA Q C hH hS _ k9 => ?_) (kk _)
    have hat := hH.at hc.1 (by omega)
    rw [hs_picI hc.1 (by omega) (by omega)] at hat
    refine W.iast C.1 C.2.1 hat ((C.2.2.2.2.2.2.2.2.2.1.1.2 2 _ rfl).1 _ (fun j => .int (s.2.2.2.1 a j))) (fun q => by cases q) (by show ¬ (i < 0 ∨ (arrV _ _ _).slots.size ≤ _); rw [arrV_size]; exact hc.2) rfl rfl hd fun H1 e1 z oq => ?_
    refine k9 H1 _ (hH.putI hc.1 (by omega) (by omega) ?_ z oq) (hS.put z oq (hH.2.2.2 a (by omega)).1)
    rw [e1]
    rw [vp_cell_i, vp_cell_i, arrV_store]
    congr 2
    funext q
    by_cases hq : q = i.toNatClampNeg
    · subst hq; simp [updV, upd]
    · simp [updV, upd, hq]
  · rw [sI_none hc]; exact Jo_none
theorem Jo_bastore {a : Nat} {i x : Int32} {g : hS → Option (α × hS)} (hd : dI M.2.1 pc q .bastore 1) (kk : ∀ s', Jo E M cv q ls st s' (g s')) : Jo E M cv pc ls (.int x :: .int i :: .ref a :: st) s ((sI s a 8 i (vp_nar .byte x)).bind g) := by
  by_cases hc : (s.2.2.1 a).1 = 8 ∧ ¬ (i < 0 ∨ (s.2.2.1 a).2 ≤ i.toNatClampNeg)
  · obtain ⟨hd, rfl⟩ := hd
    rw [sI_some hc]
    refine Jo.write (s' := uI s a i.toNatClampNeg (vp_nar .byte x)) rfl rfl (fun p e R s0 m args below meth cd H locs cells slots lsA Q C hH hS _ k9 => ?_) (kk _)
    have hat := hH.at hc.1 (by omega)
    rw [hs_picI hc.1 (by omega) (by omega)] at hat
    refine W.bast C.1 C.2.1 hat ((C.2.2.2.2.2.2.2.2.2.1.1.2 0 _ rfl).1 _ (fun j => .int (s.2.2.2.1 a j))) (fun q => by cases q) (by show ¬ (i < 0 ∨ (arrV _ _ _).slots.size ≤ _); rw [arrV_size]; exact hc.2) rfl rfl hd fun H1 e1 z oq => ?_
    refine k9 H1 _ (hH.putI hc.1 (by omega) (by omega) ?_ z oq) (hS.put z oq (hH.2.2.2 a (by omega)).1)
    rw [e1]
    rw [vp_cell_i, vp_cell_i, arrV_store]
    congr 2
    funext q
    by_cases hq : q = i.toNatClampNeg
    · subst hq; simp [updV, upd, vp_nar, narrow]
    · simp [updV, upd, hq]
  · rw [sI_none hc]; exact Jo_none
theorem Jo_zastore {a : Nat} {i x : Int32} {g : hS → Option (α × hS)} (hd : dI M.2.1 pc q .bastore 1) (kk : ∀ s', Jo E M cv q ls st s' (g s')) : Jo E M cv pc ls (.int x :: .int i :: .ref a :: st) s ((sI s a 11 i (vp_nar .boolean x)).bind g) := by
  by_cases hc : (s.2.2.1 a).1 = 11 ∧ ¬ (i < 0 ∨ (s.2.2.1 a).2 ≤ i.toNatClampNeg)
  · obtain ⟨hd, rfl⟩ := hd
    rw [sI_some hc]
    refine Jo.write (s' := uI s a i.toNatClampNeg (vp_nar .boolean x)) rfl rfl (fun p e R s0 m args below meth cd H locs cells slots lsA Q C hH hS _ k9 => ?_) (kk _)
    have hat := hH.at hc.1 (by omega)
    rw [hs_picI hc.1 (by omega) (by omega)] at hat
    refine W.zast C.1 C.2.1 hat ((C.2.2.2.2.2.2.2.2.2.1.1.2 3 _ rfl).1 _ (fun j => .int (s.2.2.2.1 a j))) (fun q => by cases q) (by show ¬ (i < 0 ∨ (arrV _ _ _).slots.size ≤ _); rw [arrV_size]; exact hc.2) rfl rfl hd fun H1 e1 z oq => ?_
    refine k9 H1 _ (hH.putI hc.1 (by omega) (by omega) ?_ z oq) (hS.put z oq (hH.2.2.2 a (by omega)).1)
    rw [e1]
    rw [vp_cell_i, vp_cell_i, arrV_store]
    congr 2
    funext q
    by_cases hq : q = i.toNatClampNeg
    · subst hq; simp [updV, upd, vp_nar, narrow]
    · simp [updV, upd, hq]
  · rw [sI_none hc]; exact Jo_none
theorem Jo_castore {a : Nat} {i x : Int32} {g : hS → Option (α × hS)} (hd : dI M.2.1 pc q .castore 1) (kk : ∀ s', Jo E M cv q ls st s' (g s')) : Jo E M cv pc ls (.int x :: .int i :: .ref a :: st) s ((sI s a 9 i (vp_nar .char x)).bind g) := by
  by_cases hc : (s.2.2.1 a).1 = 9 ∧ ¬ (i < 0 ∨ (s.2.2.1 a).2 ≤ i.toNatClampNeg)
  · obtain ⟨hd, rfl⟩ := hd
    rw [sI_some hc]
    refine Jo.write (s' := uI s a i.toNatClampNeg (vp_nar .char x)) rfl rfl (fun p e R s0 m args below meth cd H locs cells slots lsA Q C hH hS _ k9 => ?_) (kk _)
    have hat := hH.at hc.1 (by omega)
    rw [hs_picI hc.1 (by omega) (by omega)] at hat
    refine W.cast C.1 C.2.1 hat ((C.2.2.2.2.2.2.2.2.2.1.1.2 1 _ rfl).1 _ (fun j => .int (s.2.2.2.1 a j))) (fun q => by cases q) (by show ¬ (i < 0 ∨ (arrV _ _ _).slots.size ≤ _); rw [arrV_size]; exact hc.2) rfl rfl hd fun H1 e1 z oq => ?_
    refine k9 H1 _ (hH.putI hc.1 (by omega) (by omega) ?_ z oq) (hS.put z oq (hH.2.2.2 a (by omega)).1)
    rw [e1]
    rw [vp_cell_i, vp_cell_i, arrV_store]
    congr 2
    funext q
    by_cases hq : q = i.toNatClampNeg
    · subst hq; simp [updV, upd, vp_nar, narrow]
    · simp [updV, upd, hq]
  · rw [sI_none hc]; exact Jo_none
theorem Jo_aastore {a b t t0 c0 : Nat} {r0 : vw_C} {i : Int32} {g : hS → Option (α × hS)} (ht : (∀ E, (hs_tys E)[t0]? = some (E.2.2.2.1 t, .object r0.1)) ∧ ¬ t < 12 ∧ t < 15 ∧ classes[c0]? = some r0 ∧ c0 < 8) (hd : dI M.2.1 pc q .aastore 1) (kk : ∀ s', Jo E M cv q ls st s' (g s')) : Jo E M cv pc ls (.ref b :: .int i :: .ref a :: st) s ((sR s a t i b c0).bind g) := by
  by_cases hc : (s.2.2.1 a).1 = t ∧ (s.2.2.1 b).1 = c0 ∧ ¬ (i < 0 ∨ (s.2.2.1 a).2 ≤ i.toNatClampNeg)
  · obtain ⟨hd, rfl⟩ := hd
    rw [sR, if_pos hc]
    refine Jo.write (s' := uR s a i.toNatClampNeg (some b)) rfl rfl (fun p e R s0 m args below meth cd H locs cells slots lsA Q C hH hS _ k9 => ?_) (kk _)
    have hK := C.2.2.2.2.2.2.2.2.2.1.1
    have hat := hH.at hc.1 ht.2.2.1
    rw [hs_picR hc.1 ht.2.1] at hat
    have hlt : i.toNatClampNeg < (s.2.2.1 a).2 := Nat.not_le.mp fun q => hc.2.2 (Or.inr q)
    have h0 : ¬ i < 0 := fun q => hc.2.2 (Or.inl q)
    have hbt := hH.at hc.2.1 (by have := ht.2.2.2.2; omega)
    rw [hs_picO hc.2.1 ht.2.2.2.2] at hbt
    obtain ⟨r', hr', cellV, g1, g2, g3, -⟩ := hbt
    have hcls := (hK.1 c0 r0 ht.2.2.2.1).2
    obtain ⟨kA, comp, k1, k2, k3, -⟩ := (hK.2 t0 _ (ht.1 E)).2
    have hcomp : comp = E.2.2.1.1 c0 := Option.some.inj (k3.symm.trans hcls.1)
    subst hcomp
    have hcls' := hcls
    obtain ⟨kC, hkC, -⟩ := hcls.2
    refine W.aast C.1 C.2.1 hat (fun q h => by cases h) (fun h => by cases h) k1 k2 rfl hkC ⟨h0, by show _ < (arrV _ _ _).slots.size; rw [arrV_size]; exact hlt⟩ g1 (fun q h => by rw [g3] at h; cases h) (by rw [g2]; exact hkC) (by rw [g2]; exact va_assign hcls') rfl rfl hd fun H1 e1 z oq => ?_
    refine k9 H1 _ (hH.put rfl (fun _ => rfl) (fun b' hb => hs_pic_congr rfl rfl (uR_R hb)) z oq ?_) (hS.put z oq (hH.2.2.2 a (by omega)).1)
    have hp : hs_pic E (uR s a i.toNatClampNeg (some b)) a = .inl (E.2.2.2.1 t, (s.2.2.1 a).2, .inr (.inr (.inr (.inr (va_up (s.2.2.2.2 a) i.toNatClampNeg (some b)))))) := by
      rw [hs_picR (s := uR s a i.toNatClampNeg (some b)) hc.1 ht.2.1, uR_self]
      rfl
    rw [hp]
    show H1[a]? = some (vp_cell _ _)
    rw [e1]
    rw [vp_cell_q, vp_cell_q, arrV_store]
    congr 2
    funext q
    by_cases hq : q = i.toNatClampNeg
    · subst hq; simp [updV, va_up, va_rf]
    · simp [updV, va_up, hq]
  · rw [sR, if_neg hc]; exact Jo_none
end JP
end
section
section JN
variable {α : Type} {E : jE} {M : jM} {cv : α → Option Value} {pc q : Nat} {ls ls' : List (Nat × Value)} {st : List Value} {s : hS} {o : Option (α × hS)}
/-- a cell is made -/
theorem Jo.make {c N : Nat} {st' : List Value} (h : ∀ (p : Program) (e : Env) (R : Room) (s0 : State) (m : MethodId) (args : Array Value) (below : List Frame) (meth : Method) (cd : Code) (H : Heap) (locs : List Loc) (cells slots : Nat) (lsA : Array Slot) (Q : State → Prop),
    jCx E M p R s0 m args meth cd → hs_H E s H → va_S (hs_A E) s0.heap H locs → cells + 1 ≤ R.cells → slots + N ≤ R.slots → (∀ (H1 : Heap), hs_H E (nO s c N) H1 → va_S (hs_A E) s0.heap H1 locs → W p E.1 e R s0 m args below meth cd H1 locs (cells + 1) (slots + N) Q (F0 m q lsA st')) → W p E.1 e R s0 m args below meth cd H locs cells slots Q (F0 m pc lsA st))
    (k : Jo E M cv q ls st' (nO s c N) o) : Jo E M cv pc ls st s o := by
  intro r hr
  have hk := k r hr
  have g1 : s.1 + 1 ≤ r.2.1 := hk.1.1
  have g2 : s.2.1 + N ≤ r.2.2.1 := hk.1.2
  refine ⟨⟨by omega, by omega⟩, fun p e R s0 m args below meth cd H locs cells slots lsA C hH hS h1 h2 hl => ?_⟩
  refine h p e R s0 m args below meth cd H locs cells slots lsA _ C hH hS (by omega) (by omega) fun H1 hH1 hS1 => ?_
  have e1 : cells + 1 + (r.2.1 - (nO s c N).1) = cells + (r.2.1 - s.1) := by show cells + 1 + (r.2.1 - (s.1 + 1)) = _; omega
  have e2 : slots + N + (r.2.2.1 - (nO s c N).2.1) = slots + (r.2.2.1 - s.2.1) := by show slots + N + (r.2.2.1 - (s.2.1 + N)) = _; omega
  have h3 := hk.2 p e R s0 m args below meth cd H1 locs (cells + 1) (slots + N) lsA C hH1 hS1 (by rw [e1]; exact h1) (by rw [e2]; exact h2) hl
  rw [e1, e2] at h3
  exact h3
theorem va_S.push {A : Nat → Prop} {H0 H H1 : Heap} {locs : List Loc} (h : va_S A H0 H locs) (z : H1.size = H.size + 1) (oq : ∀ q : Nat, q < H.size → H1[q]? = H[q]?) : va_S A H0 H1 locs := ⟨Nat.le_trans h.1 (by omega), fun x h1 h2 => (oq x (Nat.lt_of_lt_of_le h1 h.1)).trans (h.2.1 x h1 h2), h.2.2⟩
theorem nO_I (s : hS) (c N : Nat) : (nO s c N).2.2.2.1 s.1 = fun _ => 0 := by funext j; simp [nO]
theorem nO_R (s : hS) (c N : Nat) : (nO s c N).2.2.2.2 s.1 = fun _ => none := by funext j; simp [nO]
theorem nO_K (s : hS) (c N : Nat) : (nO s c N).2.2.1 s.1 = (c, N) := by simp [nO]
theorem Jo_new {c idx : Nat} {C : String} {T : u_T} {N : Nat} {ty : Nat → FieldType} (hf : classes[c]? = some (C, T, N) ∧ (∀ w ∈ u_ws C T N, w ∈ tbG) ∧ (∀ k, k < N → parseFieldDescriptor (T k).2.2.1 = some (ty k)) ∧ c < 8) (hw : Cond.classLink M.1 idx C ∈ tbG ∧ Cond.instantiable C N ∈ tbG ∧ Cond.initialized C ∈ tbG) (h0 : ∀ (s : hS) (a : Nat), s.2.2.2.1 a = (fun _ => 0) → s.2.2.2.2 a = (fun _ => none) → ∀ j, j < N → defaultValue (ty j) = vp_V (hs_fs s a c) j) (hd : dI M.2.1 pc q (.new idx) 3)
    (kk : Jo E M cv q ls (.ref s.1 :: st) (nO s c N) o) : Jo E M cv pc ls st s o := by
  obtain ⟨hd, rfl⟩ := hd
  refine Jo.make (fun p e R s0 m args below meth cd H locs cells slots lsA Q C0 hH hS h1 h2 k9 => ?_) kk
  have hts := C0.2.2.2.2.1
  have hKn := C0.2.2.2.2.2.2.2.2.2.1.1.1 c _ hf.1
  have hz : H.size = s.1 := hH.2.1
  refine W.newcK C0.1 C0.2.1 C0.2.2.2.1 (hts _ hw.1) (hts _ hw.2.1) (hts _ hw.2.2) rfl hd h1 h2 hKn.2.1 hz fun H1 kC hkC e1 z1 o1 => ?_
  refine k9 H1 (hH.push (by omega) (fun q hq => o1 q (by omega)) ?_) (hS.push (by omega) (fun q hq => o1 q (by omega)))
  rw [hs_picO (s := nO s c N) (by rw [nO_K]) hf.2.2.2]
  exact ⟨_, hf.1, (u_born ty hts hf.2.1 hKn hkC e1 hf.2.2.1).to (h0 _ _ (nO_I s c N) (nO_R s c N))⟩
theorem Jo_newarr {t t0 : Nat} {ty : FieldType} {at0 : ArrayType} {n : Int32} {g : hS → Option (α × hS)} (ht : (∀ E, (hs_tys E)[t0]? = some (E.2.2.2.1 t, ty)) ∧ ¬ t < 8 ∧ t < 12) (hty : newarray.typeOf at0 = ty ∧ ty ≠ .long ∧ componentBytes ty ≤ 4 ∧ defaultValue ty = .int 0 ∧ (∀ C, ty ≠ .object C)) (hw : Cond.arrayClass ty ∈ tbG) (hd : dI M.2.1 pc q (.newarray at0) 2)
    (kk : ∀ s', Jo E M cv q ls (.ref s.1 :: st) s' (g s')) : Jo E M cv pc ls (.int n :: st) s ((nA s t n).bind g) := by
  by_cases hc : ¬ n < 0 ∧ n.toNatClampNeg ≤ 100000
  · obtain ⟨hd, rfl⟩ := hd
    rw [nA, if_pos hc]
    refine Jo.make (c := t) (N := n.toNatClampNeg) (fun p e R s0 m args below meth cd H locs cells slots lsA Q C0 hH hS h1 h2 k9 => ?_) (kk _)
    have hts := C0.2.2.2.2.1
    have hz : H.size = s.1 := hH.2.1
    have hK := C0.2.2.2.2.2.2.2.2.2.1.1
    obtain ⟨hty1, -, hty3, hty4, hty5⟩ := hty
    subst hty1
    refine va_newaK C0.1 C0.2.1 (hts _ hw) rfl hd rfl hc.1 rfl ?_ h1 h2 hz fun H1 cA e1 z1 o1 hAr hNm => ?_
    · exact Nat.le_trans (Nat.mul_le_mul hc.2 hty3) (Nat.le_of_ble_eq_true rfl)
    · refine k9 H1 (hH.push (by omega) (fun q hq => o1 q (by omega)) ?_) (hS.push (by omega) (fun q hq => o1 q (by omega)))
      rw [hs_picI (s := nO s t n.toNatClampNeg) (by rw [nO_K]) ht.2.1 ht.2.2]
      have hRA := (hK.2 t0 _ (ht.1 E)).2
      have hcA : E.2.2.2.1 t = cA := by
        have h5 : s0.vm.findClass ("[" ++ (newarray.typeOf at0).toString) = some (E.2.2.2.1 t) := by
          cases at0 <;> exact hRA
        exact Option.some.inj (h5.symm.trans hNm)
      show H1[s.1]? = some (vp_cell _ _)
      rw [vp_cell_i, nO_I, hcA, nO_K, e1, hty4]
  · rw [nA, if_neg hc]; exact Jo_none
theorem Jo_anewarr {t t0 idx : Nat} {C : String} {n : Int32} {g : hS → Option (α × hS)} (ht : (∀ E, (hs_tys E)[t0]? = some (E.2.2.2.1 t, .object C)) ∧ ¬ t < 12 ∧ t < 15) (hw : Cond.classLink M.1 idx C ∈ tbG) (hao : ∀ E U, hs_T E U → va_AO C U) (hd : dI M.2.1 pc q (.anewarray idx) 3)
    (kk : ∀ s', Jo E M cv q ls (.ref s.1 :: st) s' (g s')) : Jo E M cv pc ls (.int n :: st) s ((nA s t n).bind g) := by
  by_cases hc : ¬ n < 0 ∧ n.toNatClampNeg ≤ 100000
  · obtain ⟨hd, rfl⟩ := hd
    rw [nA, if_pos hc]
    refine Jo.make (c := t) (N := n.toNatClampNeg) (fun p e R s0 m args below meth cd H locs cells slots lsA Q C0 hH hS h1 h2 k9 => ?_) (kk _)
    have hts := C0.2.2.2.2.1
    have hz : H.size = s.1 := hH.2.1
    have hK := C0.2.2.2.2.2.2.2.2.2.1.1
    refine W.anew C0.1 C0.2.1 C0.2.2.2.1 (hts _ hw) (va_AO.use (hao E s0 C0.2.2.2.2.2.2.2.2.2.1)) rfl hd rfl hc.1 (Nat.le_trans (Nat.mul_le_mul hc.2 (Nat.le_refl 4)) (Nat.le_of_ble_eq_true rfl)) h1 h2 fun cA kA comp f1 f2 f3 f4 => ?_
    generalize hH1 : H.push ({ cls := cA, slots := Array.replicate n.toNatClampNeg .null, vm := .none } : Cell) = H1
    have z1 : H1.size = H.size + 1 := by rw [← hH1, Array.size_push]
    have e1 : H1[H.size]? = some (arrV cA n.toNatClampNeg (fun _ => .null)) := by rw [← hH1, Array.getElem?_push_size, ← arrV_new]
    have o1 : ∀ q : Nat, q < H.size → H1[q]? = H[q]? := fun q hq => by rw [← hH1, Array.getElem?_push, if_neg (Nat.ne_of_lt hq)]
    have k10 := k9 H1 (hH.push z1 o1 ?_) (hS.push z1 o1)
    · rw [← hz] at k10
      exact k10
    · rw [hs_picR (s := nO s t n.toNatClampNeg) (by rw [nO_K]) ht.2.1]
      obtain ⟨kA', comp', -, -, -, hn4⟩ := (hK.2 t0 _ (ht.1 E)).2
      have hcA : E.2.2.2.1 t = cA := Option.some.inj (hn4.symm.trans f1)
      show H1[s.1]? = some (vp_cell _ _)
      rw [vp_cell_q, nO_R, hcA, nO_K, ← hz, e1]
      rfl
  · rw [nA, if_neg hc]; exact Jo_none
theorem Jo_objInit {a idx : Nat} (hd : dI M.2.1 pc q (.invokespecial idx) 3) (hw : Cond.methodLink M.1 idx objectInit ∈ tbG ∧ Cond.instanceMethod objectInit ∈ tbG ∧ Cond.code objectInit ⟨#[0xb1]⟩ 1 none ∈ tbG) (hr : 1 ≤ M.2.2.2.2.2.1 ∧ (st.map fun v => v.category).sum + 12 ≤ M.2.2.2.2.2.2) (kk : Jo E M cv q ls st s o) : Jo E M cv pc ls (.ref a :: st) s o := by
  obtain ⟨hd, rfl⟩ := hd
  refine Jo.pure (fun p e R s0 m args below meth cd H locs cells slots lsA Q C _ hl0 _ _ k9 => ?_) kk
  have h8 := C.2.2.2.2.2.2.2.1
  have h9 : 2 * 0 + (st.map fun v => v.category).sum + 12 ≤ R.locals := by
    have g1 := hr.2
    have g2 := h8.2
    omega
  exact W.objInit C.1 C.2.1 C.2.2.2.1 (C.2.2.2.2.1 _ hw.1) (C.2.2.2.2.1 _ hw.2.1) (C.2.2.2.2.1 _ hw.2.2) rfl (by rw [C.2.2.2.2.2.2.1]; exact hl0.1) rfl hd (Nat.le_trans hr.1 h8.1) h9 (k9 lsA hl0)
/-- the end of a method -/
theorem J.ret {v : Option Value} {p : Program} {R : Room} {s0 : State} {m : MethodId} {args : Array Value} {meth : Method} {c : Code} {H : Heap} {locs : List Loc} (C : jCx E M p R s0 m args meth c) (hH : hs_H E s H) (hS : va_S (hs_A E) s0.heap H locs) : ∀ t : State, t.heap = H → s0.WarmedH t.vm → jQ E v s args s0 (.returned v) t := by
  intro t ht hW
  refine ⟨rfl, ⟨C.2.2.2.2.2.2.2.2.2.1.warm hW, ?_, by rw [ht]; exact hH⟩, hS.F ht⟩
  rw [ht]
  exact (C.2.2.2.2.2.2.2.2.2.2.1.moved hW.alike).kept (fun a h1 h2 => hS.2.1 a h1 h2)
theorem Jo_iret {v : Int32} (hr : M.2.2.2.1 = some .int) (hd : dI M.2.1 pc q .ireturn 1) : Jo E M cvI pc ls [.int v] s (some (v, s)) := by
  intro r hr0
  cases hr0
  refine ⟨hs_le.rf s, fun p e R s0 m args below meth c H locs cells slots lsA C hH hS h1 h2 hl => ?_⟩
  simp only [Nat.sub_self, Nat.add_zero]
  exact W.iret C.1 C.2.1 (by rw [C.2.2.1]; exact hr) (J.ret C hH hS) hS.2.2 hd.1 C.2.2.2.2.2.1
theorem Jo_zret {v : Int32} (hr : M.2.2.2.1 = some .boolean) (hd : dI M.2.1 pc q .ireturn 1) : Jo E M cvI pc ls [.int v] s (if v = 0 ∨ v = 1 then some (v, s) else none) := by
  intro r hr0
  by_cases hv : v = 0 ∨ v = 1
  · rw [if_pos hv] at hr0
    cases hr0
    refine ⟨hs_le.rf s, fun p e R s0 m args below meth c H locs cells slots lsA C hH hS h1 h2 hl => ?_⟩
    simp only [Nat.sub_self, Nat.add_zero]
    exact W.zret (ty := .boolean) C.1 C.2.1 (by rw [C.2.2.1]; exact hr) (by rcases hv with rfl | rfl <;> rfl) (J.ret C hH hS) hS.2.2 hd.1 C.2.2.2.2.2.1
  · rw [if_neg hv] at hr0; cases hr0
theorem Jo_zret0 (hr : M.2.2.2.1 = some .boolean) (hd : dI M.2.1 pc q .ireturn 1) : Jo E M cvI pc ls [.int 0] s (some (0, s)) := Jo_zret (v := 0) hr hd
theorem Jo_zret1 (hr : M.2.2.2.1 = some .boolean) (hd : dI M.2.1 pc q .ireturn 1) : Jo E M cvI pc ls [.int 1] s (some (1, s)) := Jo_zret (v := 1) hr hd
theorem Jo_vret (hr : M.2.2.2.1 = none) (hd : dI M.2.1 pc q .return_ 1) : Jo E M cvV pc ls [] s (some ((), s)) := by
  intro r hr0
  cases hr0
  refine ⟨hs_le.rf s, fun p e R s0 m args below meth c H locs cells slots lsA C hH hS h1 h2 hl => ?_⟩
  simp only [Nat.sub_self, Nat.add_zero]
  exact W.vret C.1 C.2.1 (by rw [C.2.2.1]; exact hr) (J.ret C hH hS) hS.2.2 hd.1 C.2.2.2.2.2.1
theorem Jo_aret {a : Nat} {n : String} (hr : M.2.2.2.1 = some (.object n)) (hd : dI M.2.1 pc q .areturn 1) : Jo E M cvR pc ls [.ref a] s (some (a, s)) := by
  intro r hr0
  cases hr0
  refine ⟨hs_le.rf s, fun p e R s0 m args below meth c H locs cells slots lsA C hH hS h1 h2 hl => ?_⟩
  simp only [Nat.sub_self, Nat.add_zero]
  exact W.aret C.1 C.2.1 (by rw [C.2.2.1]; exact hr) (Or.inl ⟨n, rfl⟩) (Or.inr ⟨a, rfl⟩) (J.ret C hH hS) hS.2.2 hd.1 C.2.2.2.2.2.1
end JN
/-- a method's contract -/
def jK {α : Type} (E : jE) (y : MethodName) (M : jM) (cv : α → Option Value) (av : List Value) (s : hS) (o : Option (α × hS)) : Prop := ∀ r, o = some r → hs_le s r.2 ∧ Met E.1 y (Cond.code y M.2.1 M.2.2.1 M.2.2.2.1 :: tbG) { frames := M.2.2.2.2.2.1, cells := r.2.1 - s.1, slots := r.2.2.1 - s.2.1, locals := M.2.2.2.2.2.2 } (va_Pc av (hs_W E s)) (jQ E (cv r.1) r.2) (r.2.1 - s.1) (r.2.2.1 - s.2.1) (hs_A E)
theorem jK_of {α : Type} {E : jE} {y : MethodName} {M : jM} {cv : α → Option Value} {av : List Value} {s : hS} {o : Option (α × hS)} (hy : plainName y.cls = true ∧ y.cls = M.1 ∧ y.name = M.2.2.2.2.1) (hn : (lg_sl av).length ≤ M.2.2.1) (h : Jo E M cv 0 (lv_args 0 av) [] s o) : jK E y M cv av s o := by
  intro r hr
  have k := h r hr
  refine ⟨k.1, ?_⟩
  refine Met.ofW (cc := M.2.1) (maxL := M.2.2.1) (ret := M.2.2.2.1) hy.1 rfl ?_
  intro p e s0 m args below meth c s₁ B hml hv
  obtain ⟨rfl, hT, hZ, hH⟩ := hv
  have hts := atoms_spec (ws := Cond.code y M.2.1 M.2.2.1 M.2.2.2.1 :: tbG) B.pre
  have hown : s0.vm.findClass y.cls = some m.cls := findClass_of_methodNamed B.named
  have hl := lv_entry av (n := M.2.2.1) hn
  rw [lg_entry_eq]
  have hz : E.2.1 ≤ s0.heap.size := by rw [hH.2.1]; exact hH.1
  have h3 := k.2 p e (headSpec (Cond.code y M.2.1 M.2.2.1 M.2.2.2.1 :: tbG) { frames := M.2.2.2.2.2.1, cells := r.2.1 - s.1, slots := r.2.2.1 - s.2.1, locals := M.2.2.2.2.2.2 }).room s0 m av.toArray below meth c s0.heap [] 0 0 _ ⟨B.exec, B.bytes, B.returns, by rw [← hy.2.1]; exact hown, fun w hw => hts w (List.mem_cons_of_mem _ hw), B.notSynchronized, hml, ⟨Nat.le_refl _, Nat.le_refl _⟩, by rw [← hy.2.2]; exact (name_of_methodNamed B.named B.method).1, hT, hZ, hz⟩ hH va_S.rf (by show 0 + (r.2.1 - s.1) ≤ r.2.1 - s.1; omega) (by show 0 + (r.2.2.1 - s.2.1) ≤ r.2.2.1 - s.2.1; omega) hl
  rw [Nat.zero_add, Nat.zero_add] at h3
  exact h3
theorem hs_blind (E : jE) (s : hS) (av : List Value) : FrameBlind (va_Pc av (hs_W E s)) := by
  intro a U g mk h
  obtain ⟨h1, h2, h3, h4⟩ := h
  exact ⟨h1, h2.warm (U := U.calling g mk a) (State.WarmedH.refl U), h3.moved (U := U.calling g mk a) (Vm.Alike.refl U.vm), h4⟩
section JC
variable {α β : Type} {E : jE} {M My : jM} {cv : α → Option Value} {cvy : β → Option Value} {pc q : Nat} {ls ls' : List (Nat × Value)} {st rest : List Value} {s : hS} {oy : Option (β × hS)} {g : β × hS → Option (α × hS)} {y : MethodName}
theorem va_callJ {p : Program} {l : Launch} {e : Env} {R : Room} {s : State} {m : MethodId} {args : Array Value} {below : List Frame} {meth : Method} {c : Code} {H : Heap} {locs : List Loc} {cells slots : Nat} {Q : State → Prop} {pc : Nat} {ls : Array Slot} {rest st0 : List Value} {a : Array Value} {mc ms : Nat} {v : Option Value} {t : hS}
    (hr : va_Run p l e R s m args below meth c H locs cells slots mc ms (F0 m pc ls st0) rest (jQ E v t a) (hs_A E)) (hS : va_S (hs_A E) s.heap H locs)
    (kk : ∀ (H1 : Heap) (locs1 : List Loc), hs_H E t H1 → va_S (hs_A E) s.heap H1 locs1 → W p l e R s m args below meth c H1 locs1 (cells + mc) (slots + ms) Q (F0 m (pc + 3) ls (v.toList ++ rest))) : W p l e R s m args below meth c H locs cells slots Q (F0 m pc ls st0) := by
  intro T hT X
  obtain ⟨v', st₀, t', T', L, h0, X', hL, e1, e2, ⟨hv, hW, hz, hk⟩, stp⟩ := hr T hT X
  cases hv
  rw [h0] at hz hk
  obtain ⟨t2, a1, b1⟩ := kk T'.heap (locs ++ L) (by rw [e1]; exact hW.2.2)
    ⟨Nat.le_trans hS.1 (by rw [e1]; exact hz), fun q h1 h2 => by rw [e1, hk q (Nat.lt_of_lt_of_le h1 hS.1) h2]; exact hS.2.1 q h1 h2, fun q hq => by
      rcases List.mem_append.mp hq with h | h
      · exact hS.2.2 q h
      · exact hL q h⟩ T' rfl X'
  exact ⟨t2, stp t2 a1, b1⟩
/-- a callee's own words -/
def yF (y : MethodName) (My : jM) (n : Nat) : Prop := Cond.code y My.2.1 My.2.2.1 My.2.2.2.1 ∈ tbG ∧ Cond.initialized y.cls ∈ tbG ∧ (y.cls ≠ "java/lang/invoke/MethodHandle" ∧ y.cls ≠ "java/lang/invoke/VarHandle" ∧ (parseMethodDescriptor y.desc).map (fun d => d.parameters.length) = some n)
theorem yF.good {n : Nat} (h : yF y My n) : GoodIn tbG (Cond.code y My.2.1 My.2.2.1 My.2.2.2.1 :: tbG) := fun w hw => (List.mem_cons.mp hw).elim (fun e => by rw [e]; exact tbG_good _ h.1) (tbG_good w)
/-- any call: what the machine's row must give -/
theorem Jo.call {av : List Value} (hK : jK E y My cvy av s oy)
    (h : ∀ (p : Program) (e : Env) (R : Room) (s0 : State) (m : MethodId) (args : Array Value) (below : List Frame) (meth : Method) (c : Code) (H : Heap) (locs : List Loc) (cells slots : Nat) (lsA : Array Slot) (r1 : β × hS),
      jCx E M p R s0 m args meth c → hs_H E s H → va_S (hs_A E) s0.heap H locs → lsA.size = M.2.2.1 → cells + (r1.2.1 - s.1) ≤ R.cells → slots + (r1.2.2.1 - s.2.1) ≤ R.slots → Met E.1 y (Cond.code y My.2.1 My.2.2.1 My.2.2.2.1 :: tbG) { frames := My.2.2.2.2.2.1, cells := r1.2.1 - s.1, slots := r1.2.2.1 - s.2.1, locals := My.2.2.2.2.2.2 } (va_Pc av (hs_W E s)) (jQ E (cvy r1.1) r1.2) (r1.2.1 - s.1) (r1.2.2.1 - s.2.1) (hs_A E) →
      va_Run p E.1 e R s0 m args below meth c H locs cells slots (r1.2.1 - s.1) (r1.2.2.1 - s.2.1) (F0 m pc lsA st) rest (jQ E (cvy r1.1) r1.2 av.toArray) (hs_A E))
    (kk : ∀ r1 : β × hS, Jo E M cv (pc + 3) ls ((cvy r1.1).toList ++ rest) r1.2 (g r1)) : Jo E M cv pc ls st s (oy.bind g) := by
  intro r hr
  cases ho : oy with
  | none => rw [ho] at hr; cases hr
  | some r1 =>
    rw [ho] at hr
    have k := kk r1 r hr
    obtain ⟨hle, hM⟩ := hK r1 ho
    refine ⟨hle.tr k.1, fun p e R s0 m args below meth c H locs cells slots lsA C hH hS h1 h2 hl => ?_⟩
    have a1 := hle.1
    have a2 := hle.2
    have b1 := k.1.1
    have b2 := k.1.2
    refine va_callJ (h p e R s0 m args below meth c H locs cells slots lsA r1 C hH hS hl.1 (by omega) (by omega) hM) hS fun H1 locs1 hH1 hS1 => ?_
    have e1 : cells + (r1.2.1 - s.1) + (r.2.1 - r1.2.1) = cells + (r.2.1 - s.1) := by omega
    have e2 : slots + (r1.2.2.1 - s.2.1) + (r.2.2.1 - r1.2.2.1) = slots + (r.2.2.1 - s.2.1) := by omega
    have h3 := k.2 p e R s0 m args below meth c H1 locs1 (cells + (r1.2.1 - s.1)) (slots + (r1.2.2.1 - s.2.1)) lsA C hH1 hS1 (by rw [e1]; exact h1) (by rw [e2]; exact h2) hl
    rw [e1, e2] at h3
    exact h3
theorem hs_pre {p : Program} {R : Room} {s0 : State} {m : MethodId} {args : Array Value} {meth : Method} {c : Code} {H : Heap} {locs : List Loc} {av : List Value} (C : jCx E M p R s0 m args meth c) (hH : hs_H E s H) (hS : va_S (hs_A E) s0.heap H locs) : ∀ U : State, U.heap = H → s0.WarmedH U.vm → va_Pc av (hs_W E s) av.toArray U := by
  intro U hU hW
  refine ⟨rfl, C.2.2.2.2.2.2.2.2.2.1.warm hW, ?_, by rw [hU]; exact hH⟩
  rw [hU]
  exact (C.2.2.2.2.2.2.2.2.2.2.1.moved hW.alike).kept (fun a h1 h2 => hS.2.1 a h1 h2)
theorem Jo_callV {a c idx n : Nat} {C : String} {T : u_T} {N : Nat} (As : List Value) (hc : classes[c]? = some (C, T, N) ∧ c < 8 ∧ C = y.cls) (hy : yF y My n) (hyv : Cond.instanceMethod y ∈ tbG ∧ Cond.selects y.cls y y ∈ tbG) (hl : Cond.methodLink M.1 idx y ∈ tbG) (hst : st = As.reverse ++ .ref a :: rest) (hn : As.length = n) (hroom : My.2.2.2.2.2.1 + 1 ≤ M.2.2.2.2.2.1 ∧ 8 + (My.2.2.1 + 11) + My.2.2.2.2.2.2 ≤ M.2.2.2.2.2.2 ∧ (rest.map fun v => v.category).sum ≤ 8) (hd : decode M.2.1 pc = .ok (.invokevirtual idx, 3)) (hK : jK E y My cvy (.ref a :: As) s oy)
    (kk : ∀ r1 : β × hS, Jo E M cv (pc + 3) ls ((cvy r1.1).toList ++ rest) r1.2 (g r1)) : Jo E M cv pc ls st s ((cV s a c oy).bind g) := by
  by_cases hk : (s.2.2.1 a).1 = c
  · rw [cV, if_pos hk]
    refine Jo.call hK (fun p e R s0 m args below meth cd H locs cells slots lsA r1 C0 hH hS hsz h1 h2 hM => ?_) kk
    have hts := C0.2.2.2.2.1
    have hK0 := C0.2.2.2.2.2.2.2.2.2.1.1
    have h8 := C0.2.2.2.2.2.2.2.1
    obtain ⟨hc1, hc2, rfl⟩ := hc
    refine va_runV (As := As) (rest := rest) (Ts := tbG) (C := y.cls) (n := n) ⟨C0.1, C0.2.1, C0.2.2.2.2.2.2.1, C0.2.2.2.1, hts⟩ hM ⟨callB_of n hts hy.good rfl rfl rfl (hts _ hy.2.1) (hts _ hl) hy.2.2 ⟨Nat.le_trans hroom.1 h8.1, Nat.le_trans hroom.2.1 h8.2⟩, hts _ hyv.1, hts _ hyv.2⟩ ⟨hs_blind E s _, ?_, hs_pre C0 hH hS⟩ rfl hn hsz hst (by show 2 * 0 + _ ≤ 8; have := hroom.2.2; omega) hd ⟨h1, h2⟩
    exact va_recv hK0 hH.2.2.1 hc1 (q0 := a - E.2.1) (fs := hs_fs s a c) (by rw [hs_in hH hk (by omega), hs_picO hk hc2])
  · rw [cV, if_neg hk]
    exact fun r h => by cases h
theorem Jo_callS {idx n : Nat} (As : List Value) (hy : yF y My n) (hys : Cond.static y ∈ tbG) (hl : Cond.methodLink M.1 idx y ∈ tbG) (hst : st = As.reverse ++ rest) (hn : As.length = n) (hroom : My.2.2.2.2.2.1 + 1 ≤ M.2.2.2.2.2.1 ∧ 8 + (My.2.2.1 + 11) + My.2.2.2.2.2.2 ≤ M.2.2.2.2.2.2 ∧ (rest.map fun v => v.category).sum ≤ 8) (hd : decode M.2.1 pc = .ok (.invokestatic idx, 3)) (hK : jK E y My cvy As s oy)
    (kk : ∀ r1 : β × hS, Jo E M cv (pc + 3) ls ((cvy r1.1).toList ++ rest) r1.2 (g r1)) : Jo E M cv pc ls st s (oy.bind g) := by
  refine Jo.call hK (fun p e R s0 m args below meth cd H locs cells slots lsA r1 C0 hH hS hsz h1 h2 hM => ?_) kk
  have hts := C0.2.2.2.2.1
  have h8 := C0.2.2.2.2.2.2.2.1
  exact va_runS (As := As) (rest := rest) (Ts := tbG) (n := n) ⟨C0.1, C0.2.1, C0.2.2.2.2.2.2.1, C0.2.2.2.1, hts⟩ hM ⟨callB_of n hts hy.good rfl rfl rfl (hts _ hy.2.1) (hts _ hl) hy.2.2 ⟨Nat.le_trans hroom.1 h8.1, Nat.le_trans hroom.2.1 h8.2⟩, hts _ hys⟩ ⟨hs_blind E s _, hs_pre C0 hH hS⟩ rfl hn hsz hst (by show 2 * 0 + _ ≤ 8; have := hroom.2.2; omega) hd ⟨h1, h2⟩
theorem Jo_callN {idx n : Nat} {host : String} (As : List Value) (hy : yF y My n) (hys : Cond.static y ∈ tbG) (hl : ∀ E U, hs_T E U → va_Nw (.methodLinkNest M.1 idx y host) U) (hst : st = As.reverse ++ rest) (hn : As.length = n) (hroom : My.2.2.2.2.2.1 + 1 ≤ M.2.2.2.2.2.1 ∧ 8 + (My.2.2.1 + 11) + My.2.2.2.2.2.2 ≤ M.2.2.2.2.2.2 ∧ (rest.map fun v => v.category).sum ≤ 8) (hd : decode M.2.1 pc = .ok (.invokestatic idx, 3)) (hK : jK E y My cvy As s oy)
    (kk : ∀ r1 : β × hS, Jo E M cv (pc + 3) ls ((cvy r1.1).toList ++ rest) r1.2 (g r1)) : Jo E M cv pc ls st s (oy.bind g) := by
  refine Jo.call hK (fun p e R s0 m args below meth cd H locs cells slots lsA r1 C0 hH hS hsz h1 h2 hM => ?_) kk
  have hts := C0.2.2.2.2.1
  have h8 := C0.2.2.2.2.2.2.2.1
  exact va_runSN (As := As) (rest := rest) (Ts := tbG) (n := n) ⟨C0.1, C0.2.1, C0.2.2.2.2.2.2.1, C0.2.2.2.1, hts⟩ hM ⟨va_cnB n hts hy.good rfl rfl rfl (hl E s0 C0.2.2.2.2.2.2.2.2.2.1) (hts _ hy.2.1) hy.2.2 ⟨Nat.le_trans hroom.1 h8.1, Nat.le_trans hroom.2.1 h8.2⟩, hts _ hys, trivial⟩ ⟨hs_blind E s _, hs_pre C0 hH hS⟩ rfl hn hsz hst (by show 2 * 0 + _ ≤ 8; have := hroom.2.2; omega) hd ⟨h1, h2⟩
theorem Jo_callC {a idx n : Nat} {nm : String} {nL fr lo : Nat} {own : String} {cc : ByteArray} (As : List Value) (hM : My = (own, cc, nL, none, nm, fr, lo)) (hy : yF y My n) (hyv : Cond.instanceMethod y ∈ tbG ∧ y.name = "<init>") (hl : Cond.methodLink M.1 idx y ∈ tbG) (hst : st = As.reverse ++ .ref a :: rest) (hn : As.length = n) (hroom : My.2.2.2.2.2.1 + 1 ≤ M.2.2.2.2.2.1 ∧ 8 + (My.2.2.1 + 11) + My.2.2.2.2.2.2 ≤ M.2.2.2.2.2.2 ∧ (rest.map fun v => v.category).sum ≤ 8) (hd : decode M.2.1 pc = .ok (.invokespecial idx, 3)) (hK : jK E y My cvy (.ref a :: As) s oy)
    (kk : ∀ r1 : β × hS, Jo E M cv (pc + 3) ls ((cvy r1.1).toList ++ rest) r1.2 (g r1)) : Jo E M cv pc ls st s (oy.bind g) := by
  subst hM
  refine Jo.call hK (fun p e R s0 m args below meth cd H locs cells slots lsA r1 C0 hH hS hsz h1 h2 hM => ?_) kk
  have hts := C0.2.2.2.2.1
  have h8 := C0.2.2.2.2.2.2.2.1
  exact va_runI (As := As) (rest := rest) (Ts := tbG) (n := n) ⟨C0.1, C0.2.1, C0.2.2.2.2.2.2.1, C0.2.2.2.1, hts⟩ hM ⟨callB_of n hts hy.good rfl rfl rfl (hts _ hy.2.1) (hts _ hl) hy.2.2 ⟨Nat.le_trans hroom.1 h8.1, Nat.le_trans hroom.2.1 h8.2⟩, hyv.2, hts _ hyv.1⟩ ⟨hs_blind E s _, hs_pre C0 hH hS⟩ rfl hn hsz hst (by show 2 * 0 + _ ≤ 8; have := hroom.2.2; omega) hd ⟨h1, h2⟩
end JC
end
section
section JX
variable {α : Type} {E : jE} {M : jM} {cv : α → Option Value} {pc q : Nat} {ls ls' : List (Nat × Value)} {st : List Value} {s : hS} {o : Option (α × hS)}
theorem i32ne {x v : Int32} (n : Int) (hv : v.toInt = n) (h : ¬ x = v) : x.toInt ≠ n := fun e => h (Int32.toInt_inj.mp (e.trans hv.symm))
theorem Jo_case {x v : Int32} {o1 o2 : Option (α × hS)} (k1 : Jo E M cv pc ls (.int v :: st) s o1) (k2 : ¬ x = v → Jo E M cv pc ls (.int x :: st) s o2) : Jo E M cv pc ls (.int x :: st) s (if x = v then o1 else o2) := by
  by_cases h : x = v
  · subst h
    rw [if_pos rfl]
    exact k1
  · rw [if_neg h]
    exact k2 h
theorem Jo_tabIn {dflt lo hi : Int} {offs : Array Int} {len : Nat} {v : Int32} {off : Int} (tgt : Nat) (hd : decode M.2.1 pc = .ok (.tableswitch dflt lo hi offs, len)) (h1 : ¬ v.toInt < lo) (h2 : ¬ hi < v.toInt) (ho : offs[(v.toInt - lo).toNat]? = some off) (ht : (pc : Int) + off = (tgt : Int)) (k : Jo E M cv tgt ls st s o) : Jo E M cv pc ls (.int v :: st) s o :=
  Jo.pure (fun _ _ _ _ _ _ _ _ _ _ _ _ _ lsA _ C _ hl0 _ _ kk => lv_tableIn C.1 C.2.1 hd h1 h2 ho ht (kk lsA hl0)) k
theorem Jo_tabOut {dflt lo hi : Int} {offs : Array Int} {len : Nat} {x : Int32} (tgt : Nat) (hd : decode M.2.1 pc = .ok (.tableswitch dflt lo hi offs, len)) (h : x.toInt < lo ∨ hi < x.toInt) (ht : (pc : Int) + dflt = (tgt : Int)) (k : Jo E M cv tgt ls st s o) : Jo E M cv pc ls (.int x :: st) s o :=
  Jo.pure (fun _ _ _ _ _ _ _ _ _ _ _ _ _ lsA _ C _ hl0 _ _ kk => lv_tableOut C.1 C.2.1 hd h ht (kk lsA hl0)) k
theorem Jo_look {dflt : Int} {ps : Array (Int × Int)} {len : Nat} {x : Int32} {off : Int} (tgt : Nat) (hd : decode M.2.1 pc = .ok (.lookupswitch dflt ps, len)) (hp : (ps.toList.zip (ps.toList.drop 1)).all (fun (a, next) => a.1 < next.1) = true) (ho : Op.lookupswitch.offset ps.toList dflt x.toInt = off) (ht : (pc : Int) + off = (tgt : Int)) (k : Jo E M cv tgt ls st s o) : Jo E M cv pc ls (.int x :: st) s o :=
  Jo.pure (fun _ _ _ _ _ _ _ _ _ _ _ _ _ lsA _ C _ hl0 _ _ kk => lv_lookup C.1 C.2.1 hd hp ho ht (kk lsA hl0)) k
theorem Jo_ifnonnull {a : Nat} {off : Int} (tgt : Nat) (hd : decode M.2.1 pc = .ok (.ifnonnull off, 3)) (ht : (pc : Int) + off = (tgt : Int)) (k : Jo E M cv tgt ls st s o) : Jo E M cv pc ls (.ref a :: st) s o :=
  Jo.pure (fun _ _ _ _ _ _ _ _ _ _ _ _ _ lsA _ C _ hl0 _ _ kk => lv_ifnonnull C.1 C.2.1 hd ht (kk lsA hl0)) k
theorem Jo_ifnull {a : Nat} {off : Int} (hd : decode M.2.1 pc = .ok (.ifnull off, 3)) (hq : pc + 3 = q) (k : Jo E M cv q ls st s o) : Jo E M cv pc ls (.ref a :: st) s o := by
  subst hq
  exact Jo.pure (fun _ _ _ _ _ _ _ _ _ _ _ _ _ lsA _ C _ hl0 _ _ kk => lv_ifnull C.1 C.2.1 hd (kk lsA hl0)) k
/-- the static array ABOVE, which nobody writes -/
theorem Jo_above {idx : Nat} (hd : dI M.2.1 pc q (.getstatic idx) 3) (hl : Cond.fieldLink M.1 idx "HeronTalk" "ABOVE" "[I" ∈ tbG) (k : Jo E M cv q ls (.ref E.2.2.2.2.1 :: st) s o) : Jo E M cv pc ls st s o := by
  obtain ⟨hd, rfl⟩ := hd
  exact Jo.pure (fun _ _ _ _ _ _ _ _ _ _ _ _ _ lsA _ C hS hl0 _ _ kk => va_gets C.1 C.2.1 C.2.2.2.2.2.2.2.2.2.2.1.1 hS C.2.2.2.1 (C.2.2.2.2.1 _ hl) (fun _ h => h) hd (kk lsA hl0)) k
theorem Jo_abovelen (hd : dI M.2.1 pc q .arraylength 1) (k : Jo E M cv q ls (.int 6 :: st) s o) : Jo E M cv pc ls (.ref E.2.2.2.2.1 :: st) s o := by
  obtain ⟨hd, rfl⟩ := hd
  exact Jo.pure (fun _ _ _ _ _ _ _ _ _ _ _ _ _ lsA _ C hS hl0 _ _ kk => va_tlen C.1 C.2.1 C.2.2.2.2.2.2.2.2.2.2.1.2.1 hS rfl hd (kk lsA hl0)) k
def abv (i : Int32) : Option Int32 := if i < 0 ∨ 6 ≤ i.toNatClampNeg then none else some (hs_above i.toNatClampNeg)
theorem Jo_aboveld {i : Int32} {g : Int32 → Option (α × hS)} (hd : dI M.2.1 pc q .iaload 1) (k : ∀ x, Jo E M cv q ls (.int x :: st) s (g x)) : Jo E M cv pc ls (.int i :: .ref E.2.2.2.2.1 :: st) s ((abv i).bind g) := by
  by_cases hc : i < 0 ∨ 6 ≤ i.toNatClampNeg
  · rw [abv, if_pos hc]; exact Jo_none
  · rw [abv, if_neg hc]
    obtain ⟨hd, rfl⟩ := hd
    exact Jo.pure (fun _ _ _ _ _ _ _ _ _ _ _ _ _ lsA _ C hS hl0 _ _ kk => va_ti C.1 C.2.1 C.2.2.2.2.2.2.2.2.2.2.1.2.1 hS hc rfl hd (kk lsA hl0)) (k _)
theorem Jo_max {x y : Int32} {idx : Nat} (hd : dI M.2.1 pc q (.invokestatic idx) 3) (hw : Cond.methodLink M.1 idx Lib.Math.max.name ∈ tbG ∧ Cond.static Lib.Math.max.name ∈ tbG ∧ Cond.initialized "java/lang/Math" ∈ tbG ∧ Cond.code Lib.Math.max.name Lib.Math.max.code 2 (some .int) ∈ tbG) (hr : 1 ≤ M.2.2.2.2.2.1 ∧ (st.map fun v => v.category).sum + 13 ≤ M.2.2.2.2.2.2) (k : Jo E M cv q ls (.int (if x < y then y else x) :: st) s o) : Jo E M cv pc ls (.int y :: .int x :: st) s o := by
  obtain ⟨hd, rfl⟩ := hd
  exact Jo.pure (fun _ _ _ _ _ _ _ _ _ _ _ _ _ lsA _ C _ hl0 h1 h2 kk => va_mmax C.1 C.2.1 (by rw [C.2.2.2.2.2.2.1]; exact hl0.1.symm) C.2.2.2.1 (C.2.2.2.2.1 _ hw.1) (C.2.2.2.2.1 _ hw.2.1) (C.2.2.2.2.1 _ hw.2.2.1) (C.2.2.2.2.1 _ hw.2.2.2) (Nat.le_trans hr.1 C.2.2.2.2.2.2.2.1.1) (Nat.le_trans hr.2 C.2.2.2.2.2.2.2.1.2) h1 h2 hd (kk lsA hl0)) k
theorem Jo_min {x y : Int32} {idx : Nat} (hd : dI M.2.1 pc q (.invokestatic idx) 3) (hw : Cond.methodLink M.1 idx Lib.Math.min.name ∈ tbG ∧ Cond.static Lib.Math.min.name ∈ tbG ∧ Cond.initialized "java/lang/Math" ∈ tbG ∧ Cond.code Lib.Math.min.name Lib.Math.min.code 2 (some .int) ∈ tbG) (hr : 1 ≤ M.2.2.2.2.2.1 ∧ (st.map fun v => v.category).sum + 13 ≤ M.2.2.2.2.2.2) (k : Jo E M cv q ls (.int (if y < x then y else x) :: st) s o) : Jo E M cv pc ls (.int y :: .int x :: st) s o := by
  obtain ⟨hd, rfl⟩ := hd
  exact Jo.pure (fun _ _ _ _ _ _ _ _ _ _ _ _ _ lsA _ C _ hl0 h1 h2 kk => va_mmin C.1 C.2.1 (by rw [C.2.2.2.2.2.2.1]; exact hl0.1.symm) C.2.2.2.1 (C.2.2.2.2.1 _ hw.1) (C.2.2.2.2.1 _ hw.2.1) (C.2.2.2.2.1 _ hw.2.2.1) (C.2.2.2.2.1 _ hw.2.2.2) (Nat.le_trans hr.1 C.2.2.2.2.2.2.2.1.1) (Nat.le_trans hr.2 C.2.2.2.2.2.2.2.1.2) h1 h2 hd (kk lsA hl0)) k
/-- ints of one row into another -/
def hcpy (s : hS) (a0 : Nat) (sp : Int32) (a : Nat) (dp n : Int32) : Option hS :=
  if ((s.2.2.1 a0).1 = 10 ∧ (s.2.2.1 a).1 = 10) ∧ (¬ sp < 0 ∧ ¬ dp < 0 ∧ ¬ n < 0) ∧ sp.toNatClampNeg + n.toNatClampNeg ≤ (s.2.2.1 a0).2 ∧ dp.toNatClampNeg + n.toNatClampNeg ≤ (s.2.2.1 a).2 then some (s.1, s.2.1, s.2.2.1, fun b => if b = a then va_cpy (s.2.2.2.1 a0) (s.2.2.2.1 a) sp.toNatClampNeg dp.toNatClampNeg n.toNatClampNeg else s.2.2.2.1 b, s.2.2.2.2) else none
theorem nn_i (z : Int32) (hz : ¬ z < 0) : z.toInt = (z.toNatClampNeg : Int) := by
  have hz0 : (0 : Int) ≤ z.toInt := by
    have := Int32.not_lt.mp hz
    simpa using Int32.le_iff_toInt_le.mp this
  show z.toInt = ((z.toInt.toNat : Nat) : Int)
  omega
theorem Jo_copy {a0 a idx : Nat} {sp dp n : Int32} {g : hS → Option (α × hS)} (hd : dI M.2.1 pc q (.invokestatic idx) 3) (hw : Cond.methodLink M.1 idx arraycopyName ∈ tbG ∧ Cond.native arraycopyName ∈ tbG ∧ Cond.static arraycopyName ∈ tbG ∧ Cond.initialized "java/lang/System" ∈ tbG) (hr : 1 ≤ M.2.2.2.2.2.1 ∧ (st.map fun v => v.category).sum + (nativeFrameWords "java/lang/System" "arraycopy" 5 + 11) ≤ M.2.2.2.2.2.2) (k : ∀ s', Jo E M cv q ls st s' (g s')) : Jo E M cv pc ls (.int n :: .int dp :: .ref a :: .int sp :: .ref a0 :: st) s ((hcpy s a0 sp a dp n).bind g) := by
  by_cases hc : ((s.2.2.1 a0).1 = 10 ∧ (s.2.2.1 a).1 = 10) ∧ (¬ sp < 0 ∧ ¬ dp < 0 ∧ ¬ n < 0) ∧ sp.toNatClampNeg + n.toNatClampNeg ≤ (s.2.2.1 a0).2 ∧ dp.toNatClampNeg + n.toNatClampNeg ≤ (s.2.2.1 a).2
  · rw [hcpy, if_pos hc]
    obtain ⟨⟨hk0, hk1⟩, ⟨h1, h2, h3⟩, h4, h5⟩ := hc
    obtain ⟨hd, rfl⟩ := hd
    refine Jo.write (s' := (s.1, s.2.1, s.2.2.1, fun b => if b = a then va_cpy (s.2.2.2.1 a0) (s.2.2.2.1 a) sp.toNatClampNeg dp.toNatClampNeg n.toNatClampNeg else s.2.2.2.1 b, s.2.2.2.2)) rfl rfl (fun p e R s0 m args below meth cd H locs cells slots lsA Q C hH hS hsz k9 => ?_) (k _)
    have hts := C.2.2.2.2.1
    have hK := C.2.2.2.2.2.2.2.2.2.1.1
    have h8 := C.2.2.2.2.2.2.2.1
    have hc0 := hH.at hk0 (by omega)
    have hc1 := hH.at hk1 (by omega)
    rw [hs_picI hk0 (by omega) (by omega)] at hc0
    rw [hs_picI hk1 (by omega) (by omega)] at hc1
    replace hc0 : H[a0]? = some (vp_cell (E.2.2.2.1 10) ((s.2.2.1 a0).2, .inl (s.2.2.2.1 a0))) := hc0
    replace hc1 : H[a]? = some (vp_cell (E.2.2.2.1 10) ((s.2.2.1 a).2, .inl (s.2.2.2.1 a))) := hc1
    obtain ⟨-, kA, hkA, cm, hkk⟩ := (hK.2 2 _ rfl).1 0 (fun _ => .int 0)
    have hbA := (hH.2.2.2 a (by omega)).1
    have hl : a < H.size := (Array.getElem?_eq_some_iff.mp hc1).1
    intro T hT X
    obtain ⟨vm', X', step⟩ := X.arraycopy C.1 C.2.2.2.1 (hts _ hw.1) (hts _ hw.2.1) (hts _ hw.2.2.1) (hts _ hw.2.2.2) (src := a0) (dst := a) (cs := vp_cell (E.2.2.2.1 10) ((s.2.2.1 a0).2, .inl (s.2.2.2.1 a0))) (cd := vp_cell (E.2.2.2.1 10) ((s.2.2.1 a).2, .inl (s.2.2.2.1 a))) (srcPos := sp) (destPos := dp) (n := n) (by rw [hT]; exact hc0) (by rw [hT]; exact hc1)
      (fun _ h => by cases h) (fun _ h => by cases h) (fun h => by cases h) (fun h => by cases h) hkA hkA hkk hkk (by simp [refKind]) h1 h2 h3
      (by rw [nn_i sp h1, nn_i n h3]; show ¬ _ > ((arrV _ _ (fun j => .int (s.2.2.2.1 a0 j))).slots.size : Int); rw [arrV_size]; omega)
      (by rw [nn_i dp h2, nn_i n h3]; show ¬ _ > ((arrV _ _ (fun j => .int (s.2.2.2.1 a j))).slots.size : Int); rw [arrV_size]; omega)
      (fun vm₁ _ i hi => by
        have e : (vp_cell (E.2.2.2.1 10) ((s.2.2.1 a0).2, .inl (s.2.2.2.1 a0))).slots.getD (sp.toNatClampNeg + i) .null = .int (s.2.2.2.1 a0 (sp.toNatClampNeg + i)) := by
          show (arrV _ _ (fun j => .int (s.2.2.2.1 a0 j))).slots.getD _ _ = _
          rw [Array.getD_eq_getD_getElem?, arrV_read _ _ (by omega)]
          rfl
        refine ⟨?_, ?_⟩
        · rw [e]; rfl
        · rw [e]; exact trivial)
      (g := F0 m pc lsA (.int n :: .int dp :: .ref a :: .int sp :: .ref a0 :: st)) rfl (by rw [C.2.2.2.2.2.2.1]; exact hsz) (rest := st) rfl (by rw [C.2.1]; exact hd) (Nat.le_trans hr.1 h8.1) (by show 2 * 0 + _ + _ ≤ _; have := hr.2; have := h8.2; omega)
    have e1 : copied (vp_cell (E.2.2.2.1 10) ((s.2.2.1 a0).2, .inl (s.2.2.2.1 a0))) (vp_cell (E.2.2.2.1 10) ((s.2.2.1 a).2, .inl (s.2.2.2.1 a))) sp dp n = vp_cell (E.2.2.2.1 10) ((s.2.2.1 a).2, .inl (va_cpy (s.2.2.2.1 a0) (s.2.2.2.1 a) sp.toNatClampNeg dp.toNatClampNeg n.toNatClampNeg)) := va_copied (fun z => .int z) _ _ _ _ h4
    rw [e1] at X' step
    generalize hcell : vp_cell (E.2.2.2.1 10) ((s.2.2.1 a).2, .inl (va_cpy (s.2.2.2.1 a0) (s.2.2.2.1 a) sp.toNatClampNeg dp.toNatClampNeg n.toNatClampNeg)) = cl at X' step
    have hheap : ((T.setVm vm').setCell a cl).heap = H.setIfInBounds a cl := by rw [← hT]; rfl
    have oq : ∀ q : Nat, q ≠ a → (H.setIfInBounds a cl)[q]? = H[q]? := fun q hq => by simp [Array.getElem?_setIfInBounds, Ne.symm hq]
    have z : (H.setIfInBounds a cl).size = H.size := by simp
    obtain ⟨t, a1, b1⟩ := k9 _ _ (hH.put (t := (s.1, s.2.1, s.2.2.1, fun b => if b = a then va_cpy (s.2.2.2.1 a0) (s.2.2.2.1 a) sp.toNatClampNeg dp.toNatClampNeg n.toNatClampNeg else s.2.2.2.1 b, s.2.2.2.2)) (a := a) rfl (fun _ => rfl) (fun b hb => hs_pic_congr rfl (by simp [hb]) rfl) z oq (by
        rw [hs_picI (s := (s.1, s.2.1, s.2.2.1, fun b => if b = a then va_cpy (s.2.2.2.1 a0) (s.2.2.2.1 a) sp.toNatClampNeg dp.toNatClampNeg n.toNatClampNeg else s.2.2.2.1 b, s.2.2.2.2)) (c := 10) hk1 (by omega) (by omega)]
        show (H.setIfInBounds a cl)[a]? = some (vp_cell _ _)
        rw [← hcell]
        simp [Array.getElem?_setIfInBounds, hl])) ⟨by rw [z]; exact hS.1, fun q g1 g2 => by
        rw [oq q (fun e => g2 (by rw [e]; exact hbA))]
        exact hS.2.1 q g1 g2, fun q hq => by
        rcases List.mem_append.mp hq with h | h
        · exact hS.2.2 q h
        · obtain ⟨z, -, hz⟩ := List.mem_map.mp h
          rw [← hz]
          exact hbA⟩ _ hheap X'
    exact ⟨t, step t a1, b1⟩
  · rw [hcpy, if_neg hc]; exact Jo_none
end JX
end
