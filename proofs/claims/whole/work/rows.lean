section
/-- a private method of a class that the tables say can be made, by its rows of tables_1 -/
def lw_okq (q : MethodName × Nat) : Prop := (q.1.cls ≠ "java/lang/invoke/MethodHandle" ∧ q.1.cls ≠ "java/lang/invoke/VarHandle") ∧ Cond.instantiable q.1.cls q.2 ∈ tables_1 ∧ Cond.privateMethod q.1 ∈ tables_1 ∧ Cond.instanceMethod q.1 ∈ tables_1
theorem lw_p0 : lw_okq (⟨"HeronTalk", "isNoFact", "(I)Z"⟩, 11) := ⟨⟨by decide +kernel, by decide +kernel⟩, List.mem_of_getElem? (i := 17) (by decide +kernel), List.mem_of_getElem? (i := 264) (by decide +kernel), List.mem_of_getElem? (i := 265) (by decide +kernel)⟩
theorem lw_p1 : lw_okq (⟨"HeronTalk", "isNobody", "(I)Z"⟩, 11) := ⟨⟨by decide +kernel, by decide +kernel⟩, List.mem_of_getElem? (i := 17) (by decide +kernel), List.mem_of_getElem? (i := 296) (by decide +kernel), List.mem_of_getElem? (i := 297) (by decide +kernel)⟩
theorem lw_p2 : lw_okq (⟨"HeronTalk", "isNoTalk", "(I)Z"⟩, 11) := ⟨⟨by decide +kernel, by decide +kernel⟩, List.mem_of_getElem? (i := 17) (by decide +kernel), List.mem_of_getElem? (i := 415) (by decide +kernel), List.mem_of_getElem? (i := 416) (by decide +kernel)⟩
theorem lw_p3 : lw_okq (⟨"HeronTalkModel", "isFact", "(I)Z"⟩, 34) := ⟨⟨by decide +kernel, by decide +kernel⟩, List.mem_of_getElem? (i := 822) (by decide +kernel), List.mem_of_getElem? (i := 946) (by decide +kernel), List.mem_of_getElem? (i := 947) (by decide +kernel)⟩
theorem lw_p4 : lw_okq (⟨"HeronTalkModel", "isFresh", "(I)Z"⟩, 34) := ⟨⟨by decide +kernel, by decide +kernel⟩, List.mem_of_getElem? (i := 822) (by decide +kernel), List.mem_of_getElem? (i := 950) (by decide +kernel), List.mem_of_getElem? (i := 951) (by decide +kernel)⟩
theorem lw_p5 : lw_okq (⟨"HeronTalkModel", "knowers", "(I)I"⟩, 34) := ⟨⟨by decide +kernel, by decide +kernel⟩, List.mem_of_getElem? (i := 822) (by decide +kernel), List.mem_of_getElem? (i := 954) (by decide +kernel), List.mem_of_getElem? (i := 955) (by decide +kernel)⟩
theorem lw_p6 : lw_okq (⟨"HeronTalkModel", "doesKnow", "(II)Z"⟩, 34) := ⟨⟨by decide +kernel, by decide +kernel⟩, List.mem_of_getElem? (i := 822) (by decide +kernel), List.mem_of_getElem? (i := 958) (by decide +kernel), List.mem_of_getElem? (i := 959) (by decide +kernel)⟩
theorem lw_p7 : lw_okq (⟨"HeronTalkModel", "knownTo", "(I)I"⟩, 34) := ⟨⟨by decide +kernel, by decide +kernel⟩, List.mem_of_getElem? (i := 822) (by decide +kernel), List.mem_of_getElem? (i := 962) (by decide +kernel), List.mem_of_getElem? (i := 963) (by decide +kernel)⟩
theorem lw_p8 : lw_okq (⟨"HeronTalkModel", "becomes", "(II)I"⟩, 34) := ⟨⟨by decide +kernel, by decide +kernel⟩, List.mem_of_getElem? (i := 822) (by decide +kernel), List.mem_of_getElem? (i := 970) (by decide +kernel), List.mem_of_getElem? (i := 971) (by decide +kernel)⟩
theorem lw_p9 : lw_okq (⟨"HeronTalkModel", "isPerson", "(I)Z"⟩, 34) := ⟨⟨by decide +kernel, by decide +kernel⟩, List.mem_of_getElem? (i := 822) (by decide +kernel), List.mem_of_getElem? (i := 982) (by decide +kernel), List.mem_of_getElem? (i := 983) (by decide +kernel)⟩
theorem lw_p10 : lw_okq (⟨"HeronTalkModel", "neededBy", "(I)I"⟩, 34) := ⟨⟨by decide +kernel, by decide +kernel⟩, List.mem_of_getElem? (i := 822) (by decide +kernel), List.mem_of_getElem? (i := 986) (by decide +kernel), List.mem_of_getElem? (i := 987) (by decide +kernel)⟩
theorem lw_p11 : lw_okq (⟨"HeronTalkModel", "newsOf", "(I)I"⟩, 34) := ⟨⟨by decide +kernel, by decide +kernel⟩, List.mem_of_getElem? (i := 822) (by decide +kernel), List.mem_of_getElem? (i := 990) (by decide +kernel), List.mem_of_getElem? (i := 991) (by decide +kernel)⟩
theorem lw_p12 : lw_okq (⟨"HeronTalkModel", "richesOf", "(I)I"⟩, 34) := ⟨⟨by decide +kernel, by decide +kernel⟩, List.mem_of_getElem? (i := 822) (by decide +kernel), List.mem_of_getElem? (i := 994) (by decide +kernel), List.mem_of_getElem? (i := 995) (by decide +kernel)⟩
theorem lw_p13 : lw_okq (⟨"HeronTalkModel", "worthOf", "(I)I"⟩, 34) := ⟨⟨by decide +kernel, by decide +kernel⟩, List.mem_of_getElem? (i := 822) (by decide +kernel), List.mem_of_getElem? (i := 998) (by decide +kernel), List.mem_of_getElem? (i := 999) (by decide +kernel)⟩
theorem lw_p14 : lw_okq (⟨"HeronTalkModel", "isSet", "(I)Z"⟩, 34) := ⟨⟨by decide +kernel, by decide +kernel⟩, List.mem_of_getElem? (i := 822) (by decide +kernel), List.mem_of_getElem? (i := 1006) (by decide +kernel), List.mem_of_getElem? (i := 1007) (by decide +kernel)⟩
theorem lw_p15 : lw_okq (⟨"HeronTalkModel", "learns", "(II)V"⟩, 34) := ⟨⟨by decide +kernel, by decide +kernel⟩, List.mem_of_getElem? (i := 822) (by decide +kernel), List.mem_of_getElem? (i := 1010) (by decide +kernel), List.mem_of_getElem? (i := 1011) (by decide +kernel)⟩
def lw_privs_1 : List (MethodName × Nat) := [(⟨"HeronTalk", "isNoFact", "(I)Z"⟩, 11), (⟨"HeronTalk", "isNobody", "(I)Z"⟩, 11), (⟨"HeronTalk", "isNoTalk", "(I)Z"⟩, 11), (⟨"HeronTalkModel", "isFact", "(I)Z"⟩, 34), (⟨"HeronTalkModel", "isFresh", "(I)Z"⟩, 34), (⟨"HeronTalkModel", "knowers", "(I)I"⟩, 34), (⟨"HeronTalkModel", "doesKnow", "(II)Z"⟩, 34), (⟨"HeronTalkModel", "knownTo", "(I)I"⟩, 34), (⟨"HeronTalkModel", "becomes", "(II)I"⟩, 34), (⟨"HeronTalkModel", "isPerson", "(I)Z"⟩, 34), (⟨"HeronTalkModel", "neededBy", "(I)I"⟩, 34), (⟨"HeronTalkModel", "newsOf", "(I)I"⟩, 34), (⟨"HeronTalkModel", "richesOf", "(I)I"⟩, 34), (⟨"HeronTalkModel", "worthOf", "(I)I"⟩, 34), (⟨"HeronTalkModel", "isSet", "(I)Z"⟩, 34), (⟨"HeronTalkModel", "learns", "(II)V"⟩, 34)]
theorem lw_r1 : ∀ q ∈ lw_privs_1, lw_okq q := List.forall_mem_cons.mpr ⟨lw_p0, List.forall_mem_cons.mpr ⟨lw_p1, List.forall_mem_cons.mpr ⟨lw_p2, List.forall_mem_cons.mpr ⟨lw_p3, List.forall_mem_cons.mpr ⟨lw_p4, List.forall_mem_cons.mpr ⟨lw_p5, List.forall_mem_cons.mpr ⟨lw_p6, List.forall_mem_cons.mpr ⟨lw_p7, List.forall_mem_cons.mpr ⟨lw_p8, List.forall_mem_cons.mpr ⟨lw_p9, List.forall_mem_cons.mpr ⟨lw_p10, List.forall_mem_cons.mpr ⟨lw_p11, List.forall_mem_cons.mpr ⟨lw_p12, List.forall_mem_cons.mpr ⟨lw_p13, List.forall_mem_cons.mpr ⟨lw_p14, List.forall_mem_cons.mpr ⟨lw_p15, fun _ h => absurd h List.not_mem_nil⟩⟩⟩⟩⟩⟩⟩⟩⟩⟩⟩⟩⟩⟩⟩⟩
theorem lw_p16 : lw_okq (⟨"HeronTalkModel", "priceOf", "(II)I"⟩, 34) := ⟨⟨by decide +kernel, by decide +kernel⟩, List.mem_of_getElem? (i := 822) (by decide +kernel), List.mem_of_getElem? (i := 1022) (by decide +kernel), List.mem_of_getElem? (i := 1023) (by decide +kernel)⟩
theorem lw_p17 : lw_okq (⟨"HeronTalkModel", "counts", "(I)I"⟩, 34) := ⟨⟨by decide +kernel, by decide +kernel⟩, List.mem_of_getElem? (i := 822) (by decide +kernel), List.mem_of_getElem? (i := 1026) (by decide +kernel), List.mem_of_getElem? (i := 1027) (by decide +kernel)⟩
theorem lw_p18 : lw_okq (⟨"HeronTalkModel", "worksOut", "(I)I"⟩, 34) := ⟨⟨by decide +kernel, by decide +kernel⟩, List.mem_of_getElem? (i := 822) (by decide +kernel), List.mem_of_getElem? (i := 1033) (by decide +kernel), List.mem_of_getElem? (i := 1034) (by decide +kernel)⟩
theorem lw_p19 : lw_okq (⟨"HeronTalkModel", "draw", "()I"⟩, 34) := ⟨⟨by decide +kernel, by decide +kernel⟩, List.mem_of_getElem? (i := 822) (by decide +kernel), List.mem_of_getElem? (i := 1047) (by decide +kernel), List.mem_of_getElem? (i := 1048) (by decide +kernel)⟩
theorem lw_p20 : lw_okq (⟨"HeronTalkModel", "knownAll", "()I"⟩, 34) := ⟨⟨by decide +kernel, by decide +kernel⟩, List.mem_of_getElem? (i := 822) (by decide +kernel), List.mem_of_getElem? (i := 1053) (by decide +kernel), List.mem_of_getElem? (i := 1054) (by decide +kernel)⟩
theorem lw_p21 : lw_okq (⟨"HeronTalkModel", "isTalk", "(I)Z"⟩, 34) := ⟨⟨by decide +kernel, by decide +kernel⟩, List.mem_of_getElem? (i := 822) (by decide +kernel), List.mem_of_getElem? (i := 1073) (by decide +kernel), List.mem_of_getElem? (i := 1074) (by decide +kernel)⟩
theorem lw_p22 : lw_okq (⟨"HeronTalkModel", "givenBy", "(III)I"⟩, 34) := ⟨⟨by decide +kernel, by decide +kernel⟩, List.mem_of_getElem? (i := 822) (by decide +kernel), List.mem_of_getElem? (i := 1077) (by decide +kernel), List.mem_of_getElem? (i := 1078) (by decide +kernel)⟩
theorem lw_p23 : lw_okq (⟨"HeronTalkModel", "best", "(IIIZI)I"⟩, 34) := ⟨⟨by decide +kernel, by decide +kernel⟩, List.mem_of_getElem? (i := 822) (by decide +kernel), List.mem_of_getElem? (i := 1081) (by decide +kernel), List.mem_of_getElem? (i := 1082) (by decide +kernel)⟩
theorem lw_p24 : lw_okq (⟨"HeronTalkModel", "gotBy", "(III)I"⟩, 34) := ⟨⟨by decide +kernel, by decide +kernel⟩, List.mem_of_getElem? (i := 822) (by decide +kernel), List.mem_of_getElem? (i := 1089) (by decide +kernel), List.mem_of_getElem? (i := 1090) (by decide +kernel)⟩
theorem lw_p25 : lw_okq (⟨"HeronTalkModel", "wouldGo", "(III)Z"⟩, 34) := ⟨⟨by decide +kernel, by decide +kernel⟩, List.mem_of_getElem? (i := 822) (by decide +kernel), List.mem_of_getElem? (i := 1093) (by decide +kernel), List.mem_of_getElem? (i := 1094) (by decide +kernel)⟩
theorem lw_p26 : lw_okq (⟨"HeronTalkModel", "worthBy", "(III)I"⟩, 34) := ⟨⟨by decide +kernel, by decide +kernel⟩, List.mem_of_getElem? (i := 822) (by decide +kernel), List.mem_of_getElem? (i := 1097) (by decide +kernel), List.mem_of_getElem? (i := 1098) (by decide +kernel)⟩
theorem lw_p27 : lw_okq (⟨"HeronTalkModel", "goesOn", "(I)Z"⟩, 34) := ⟨⟨by decide +kernel, by decide +kernel⟩, List.mem_of_getElem? (i := 822) (by decide +kernel), List.mem_of_getElem? (i := 1117) (by decide +kernel), List.mem_of_getElem? (i := 1118) (by decide +kernel)⟩
theorem lw_p28 : lw_okq (⟨"HeronTalkModel", "goes", "(III)Z"⟩, 34) := ⟨⟨by decide +kernel, by decide +kernel⟩, List.mem_of_getElem? (i := 822) (by decide +kernel), List.mem_of_getElem? (i := 1121) (by decide +kernel), List.mem_of_getElem? (i := 1122) (by decide +kernel)⟩
theorem lw_p29 : lw_okq (⟨"HeronTalkModel", "aRound", "()I"⟩, 34) := ⟨⟨by decide +kernel, by decide +kernel⟩, List.mem_of_getElem? (i := 822) (by decide +kernel), List.mem_of_getElem? (i := 1133) (by decide +kernel), List.mem_of_getElem? (i := 1134) (by decide +kernel)⟩
theorem lw_p30 : lw_okq (⟨"HeronTalkModel", "keepsAhead", "(I)V"⟩, 34) := ⟨⟨by decide +kernel, by decide +kernel⟩, List.mem_of_getElem? (i := 822) (by decide +kernel), List.mem_of_getElem? (i := 1149) (by decide +kernel), List.mem_of_getElem? (i := 1150) (by decide +kernel)⟩
theorem lw_p31 : lw_okq (⟨"HeronTalkModel", "comesToKnow", "(IIII)Z"⟩, 34) := ⟨⟨by decide +kernel, by decide +kernel⟩, List.mem_of_getElem? (i := 822) (by decide +kernel), List.mem_of_getElem? (i := 1153) (by decide +kernel), List.mem_of_getElem? (i := 1154) (by decide +kernel)⟩
def lw_privs_2 : List (MethodName × Nat) := [(⟨"HeronTalkModel", "priceOf", "(II)I"⟩, 34), (⟨"HeronTalkModel", "counts", "(I)I"⟩, 34), (⟨"HeronTalkModel", "worksOut", "(I)I"⟩, 34), (⟨"HeronTalkModel", "draw", "()I"⟩, 34), (⟨"HeronTalkModel", "knownAll", "()I"⟩, 34), (⟨"HeronTalkModel", "isTalk", "(I)Z"⟩, 34), (⟨"HeronTalkModel", "givenBy", "(III)I"⟩, 34), (⟨"HeronTalkModel", "best", "(IIIZI)I"⟩, 34), (⟨"HeronTalkModel", "gotBy", "(III)I"⟩, 34), (⟨"HeronTalkModel", "wouldGo", "(III)Z"⟩, 34), (⟨"HeronTalkModel", "worthBy", "(III)I"⟩, 34), (⟨"HeronTalkModel", "goesOn", "(I)Z"⟩, 34), (⟨"HeronTalkModel", "goes", "(III)Z"⟩, 34), (⟨"HeronTalkModel", "aRound", "()I"⟩, 34), (⟨"HeronTalkModel", "keepsAhead", "(I)V"⟩, 34), (⟨"HeronTalkModel", "comesToKnow", "(IIII)Z"⟩, 34)]
theorem lw_r2 : ∀ q ∈ lw_privs_2, lw_okq q := List.forall_mem_cons.mpr ⟨lw_p16, List.forall_mem_cons.mpr ⟨lw_p17, List.forall_mem_cons.mpr ⟨lw_p18, List.forall_mem_cons.mpr ⟨lw_p19, List.forall_mem_cons.mpr ⟨lw_p20, List.forall_mem_cons.mpr ⟨lw_p21, List.forall_mem_cons.mpr ⟨lw_p22, List.forall_mem_cons.mpr ⟨lw_p23, List.forall_mem_cons.mpr ⟨lw_p24, List.forall_mem_cons.mpr ⟨lw_p25, List.forall_mem_cons.mpr ⟨lw_p26, List.forall_mem_cons.mpr ⟨lw_p27, List.forall_mem_cons.mpr ⟨lw_p28, List.forall_mem_cons.mpr ⟨lw_p29, List.forall_mem_cons.mpr ⟨lw_p30, List.forall_mem_cons.mpr ⟨lw_p31, fun _ h => absurd h List.not_mem_nil⟩⟩⟩⟩⟩⟩⟩⟩⟩⟩⟩⟩⟩⟩⟩⟩
theorem lw_p32 : lw_okq (⟨"HeronTalkModel", "putsBack", "(I)V"⟩, 34) := ⟨⟨by decide +kernel, by decide +kernel⟩, List.mem_of_getElem? (i := 822) (by decide +kernel), List.mem_of_getElem? (i := 1157) (by decide +kernel), List.mem_of_getElem? (i := 1158) (by decide +kernel)⟩
theorem lw_p33 : lw_okq (⟨"HeronTalkModel", "lookOf", "(I)I"⟩, 34) := ⟨⟨by decide +kernel, by decide +kernel⟩, List.mem_of_getElem? (i := 822) (by decide +kernel), List.mem_of_getElem? (i := 1165) (by decide +kernel), List.mem_of_getElem? (i := 1166) (by decide +kernel)⟩
theorem lw_p34 : lw_okq (⟨"HeronTalkModel", "pricesOf", "(I)I"⟩, 34) := ⟨⟨by decide +kernel, by decide +kernel⟩, List.mem_of_getElem? (i := 822) (by decide +kernel), List.mem_of_getElem? (i := 1177) (by decide +kernel), List.mem_of_getElem? (i := 1178) (by decide +kernel)⟩
theorem lw_p35 : lw_okq (⟨"HeronTalkModel", "go", "()V"⟩, 34) := ⟨⟨by decide +kernel, by decide +kernel⟩, List.mem_of_getElem? (i := 822) (by decide +kernel), List.mem_of_getElem? (i := 1197) (by decide +kernel), List.mem_of_getElem? (i := 1198) (by decide +kernel)⟩
theorem lw_p36 : lw_okq (⟨"HeronTalkModel", "isLetter", "(I)Z"⟩, 34) := ⟨⟨by decide +kernel, by decide +kernel⟩, List.mem_of_getElem? (i := 822) (by decide +kernel), List.mem_of_getElem? (i := 1201) (by decide +kernel), List.mem_of_getElem? (i := 1202) (by decide +kernel)⟩
theorem lw_p37 : lw_okq (⟨"HeronTalkModel", "isFigure", "(I)Z"⟩, 34) := ⟨⟨by decide +kernel, by decide +kernel⟩, List.mem_of_getElem? (i := 822) (by decide +kernel), List.mem_of_getElem? (i := 1205) (by decide +kernel), List.mem_of_getElem? (i := 1206) (by decide +kernel)⟩
theorem lw_p38 : lw_okq (⟨"HeronTalkModel", "takesKey", "()Z"⟩, 34) := ⟨⟨by decide +kernel, by decide +kernel⟩, List.mem_of_getElem? (i := 822) (by decide +kernel), List.mem_of_getElem? (i := 1209) (by decide +kernel), List.mem_of_getElem? (i := 1210) (by decide +kernel)⟩
theorem lw_p39 : lw_okq (⟨"HeronTalkModel", "takesE", "()Z"⟩, 34) := ⟨⟨by decide +kernel, by decide +kernel⟩, List.mem_of_getElem? (i := 822) (by decide +kernel), List.mem_of_getElem? (i := 1213) (by decide +kernel), List.mem_of_getElem? (i := 1214) (by decide +kernel)⟩
theorem lw_p40 : lw_okq (⟨"HeronTalkModel", "takesPart", "()Z"⟩, 34) := ⟨⟨by decide +kernel, by decide +kernel⟩, List.mem_of_getElem? (i := 822) (by decide +kernel), List.mem_of_getElem? (i := 1217) (by decide +kernel), List.mem_of_getElem? (i := 1218) (by decide +kernel)⟩
theorem lw_p41 : lw_okq (⟨"HeronTalkModel", "nameOf", "(I)I"⟩, 34) := ⟨⟨by decide +kernel, by decide +kernel⟩, List.mem_of_getElem? (i := 822) (by decide +kernel), List.mem_of_getElem? (i := 1221) (by decide +kernel), List.mem_of_getElem? (i := 1222) (by decide +kernel)⟩
theorem lw_p42 : lw_okq (⟨"HeronTalkModel", "settle", "(I)V"⟩, 34) := ⟨⟨by decide +kernel, by decide +kernel⟩, List.mem_of_getElem? (i := 822) (by decide +kernel), List.mem_of_getElem? (i := 1225) (by decide +kernel), List.mem_of_getElem? (i := 1226) (by decide +kernel)⟩
theorem lw_p43 : lw_okq (⟨"HeronTalkModel", "notsOpen", "()I"⟩, 34) := ⟨⟨by decide +kernel, by decide +kernel⟩, List.mem_of_getElem? (i := 822) (by decide +kernel), List.mem_of_getElem? (i := 1232) (by decide +kernel), List.mem_of_getElem? (i := 1233) (by decide +kernel)⟩
theorem lw_p44 : lw_okq (⟨"HeronTalkModel", "signHere", "()I"⟩, 34) := ⟨⟨by decide +kernel, by decide +kernel⟩, List.mem_of_getElem? (i := 822) (by decide +kernel), List.mem_of_getElem? (i := 1236) (by decide +kernel), List.mem_of_getElem? (i := 1237) (by decide +kernel)⟩
def lw_privs_3 : List (MethodName × Nat) := [(⟨"HeronTalkModel", "putsBack", "(I)V"⟩, 34), (⟨"HeronTalkModel", "lookOf", "(I)I"⟩, 34), (⟨"HeronTalkModel", "pricesOf", "(I)I"⟩, 34), (⟨"HeronTalkModel", "go", "()V"⟩, 34), (⟨"HeronTalkModel", "isLetter", "(I)Z"⟩, 34), (⟨"HeronTalkModel", "isFigure", "(I)Z"⟩, 34), (⟨"HeronTalkModel", "takesKey", "()Z"⟩, 34), (⟨"HeronTalkModel", "takesE", "()Z"⟩, 34), (⟨"HeronTalkModel", "takesPart", "()Z"⟩, 34), (⟨"HeronTalkModel", "nameOf", "(I)I"⟩, 34), (⟨"HeronTalkModel", "settle", "(I)V"⟩, 34), (⟨"HeronTalkModel", "notsOpen", "()I"⟩, 34), (⟨"HeronTalkModel", "signHere", "()I"⟩, 34)]
theorem lw_r3 : ∀ q ∈ lw_privs_3, lw_okq q := List.forall_mem_cons.mpr ⟨lw_p32, List.forall_mem_cons.mpr ⟨lw_p33, List.forall_mem_cons.mpr ⟨lw_p34, List.forall_mem_cons.mpr ⟨lw_p35, List.forall_mem_cons.mpr ⟨lw_p36, List.forall_mem_cons.mpr ⟨lw_p37, List.forall_mem_cons.mpr ⟨lw_p38, List.forall_mem_cons.mpr ⟨lw_p39, List.forall_mem_cons.mpr ⟨lw_p40, List.forall_mem_cons.mpr ⟨lw_p41, List.forall_mem_cons.mpr ⟨lw_p42, List.forall_mem_cons.mpr ⟨lw_p43, List.forall_mem_cons.mpr ⟨lw_p44, fun _ h => absurd h List.not_mem_nil⟩⟩⟩⟩⟩⟩⟩⟩⟩⟩⟩⟩⟩
def lw_privs : List (MethodName × Nat) := lw_privs_1 ++ (lw_privs_2 ++ (lw_privs_3))
def lw_tbl : List Cond := k2_sels lw_privs ++ tables_1
theorem lw_privs_ok : ∀ q ∈ lw_privs, lw_okq q := by
  show ∀ q ∈ lw_privs_1 ++ (lw_privs_2 ++ (lw_privs_3)), lw_okq q
  exact List.forall_mem_append.mpr ⟨lw_r1, List.forall_mem_append.mpr ⟨lw_r2, lw_r3⟩⟩
end
section
def RX0 : String := "HeronTalk$Reader"
def TX0 : u_T := fun k => match k with
  | 0 => ("HeronTalk$Reader", "tape", "LHeronTalk$Tape;", true)
  | 1 => ("HeronTalk$Reader", "code", "[I", true)
  | 2 => ("HeronTalk$Reader", "codes", "I", false)
  | 3 => ("HeronTalk$Reader", "pile", "[I", true)
  | 4 => ("HeronTalk$Reader", "piled", "I", false)
  | 5 => ("HeronTalk$Reader", "key", "I", false)
  | 6 => ("HeronTalk$Reader", "leaves", "I", false)
  | 7 => ("HeronTalk$Reader", "brackets", "I", false)
  | 8 => ("HeronTalk$Reader", "nots", "I", false)
  | _ => ("HeronTalk$Reader", "wantsPiece", "Z", false)
def tyX0 : Nat → FieldType := fun k => match k with
  | 0 => .object "HeronTalk$Tape"
  | 1 => .array .int
  | 2 => .int
  | 3 => .array .int
  | 4 => .int
  | 5 => .int
  | 6 => .int
  | 7 => .int
  | 8 => .int
  | _ => .boolean
theorem nmX0 : ∀ a, a < 10 → ∀ b, b < 10 → a ≠ b → (TX0 a).2.1 ≠ (TX0 b).2.1 := by decide +kernel
theorem tyX0_ok : ∀ k, k < 10 → parseFieldDescriptor (TX0 k).2.2.1 = some (tyX0 k) := by decide +kernel
abbrev cX0_init : ByteArray := prog_2_method_1_code
def yX0_init : MethodName := ⟨RX0, "<init>", "()V"⟩
abbrev cX0_findFault : ByteArray := prog_2_method_2_code
def yX0_findFault : MethodName := ⟨RX0, "findFault", "()I"⟩
abbrev cX0_makeText : ByteArray := prog_2_method_3_code
def yX0_makeText : MethodName := ⟨RX0, "makeText", "()LHeronTalk$Text;"⟩
abbrev cX0_keyAt : ByteArray := prog_2_method_4_code
def yX0_keyAt : MethodName := ⟨RX0, "keyAt", "(II)I"⟩
abbrev cX0_nameOf : ByteArray := prog_2_method_5_code
def yX0_nameOf : MethodName := ⟨RX0, "nameOf", "(I)I"⟩
abbrev cX0_takePiece : ByteArray := prog_2_method_6_code
def yX0_takePiece : MethodName := ⟨RX0, "takePiece", "(I)I"⟩
abbrev cX0_takeSign : ByteArray := prog_2_method_7_code
def yX0_takeSign : MethodName := ⟨RX0, "takeSign", "(I)I"⟩
abbrev cX0_rankOf : ByteArray := prog_2_method_8_code
def yX0_rankOf : MethodName := ⟨RX0, "rankOf", "(I)I"⟩
abbrev cX0_topRank : ByteArray := prog_2_method_9_code
def yX0_topRank : MethodName := ⟨RX0, "topRank", "()I"⟩
abbrev cX0_pileUp : ByteArray := prog_2_method_10_code
def yX0_pileUp : MethodName := ⟨RX0, "pileUp", "(I)V"⟩
abbrev cX0_put : ByteArray := prog_2_method_11_code
def yX0_put : MethodName := ⟨RX0, "put", "(I)V"⟩
abbrev cX0_putLeaf : ByteArray := prog_2_method_12_code
def yX0_putLeaf : MethodName := ⟨RX0, "putLeaf", "(I)V"⟩
abbrev cX0_release : ByteArray := prog_2_method_13_code
def yX0_release : MethodName := ⟨RX0, "release", "(I)V"⟩
abbrev cX0_endPiece : ByteArray := prog_2_method_14_code
def yX0_endPiece : MethodName := ⟨RX0, "endPiece", "()V"⟩
def RX1 : String := "HeronTalk$Sheet"
def TX1 : u_T := fun k => match k with
  | 0 => ("HeronTalk$Sheet", "sort", "I", false)
  | 1 => ("HeronTalk$Sheet", "size", "I", false)
  | _ => ("HeronTalk$Sheet", "places", "[I", true)
def tyX1 : Nat → FieldType := fun k => match k with
  | 0 => .int
  | 1 => .int
  | _ => .array .int
theorem nmX1 : ∀ a, a < 3 → ∀ b, b < 3 → a ≠ b → (TX1 a).2.1 ≠ (TX1 b).2.1 := by decide +kernel
theorem tyX1_ok : ∀ k, k < 3 → parseFieldDescriptor (TX1 k).2.2.1 = some (tyX1 k) := by decide +kernel
abbrev cX1_init : ByteArray := prog_3_method_1_code
def yX1_init : MethodName := ⟨RX1, "<init>", "()V"⟩
abbrev cX1_lieAnew : ByteArray := prog_3_method_2_code
def yX1_lieAnew : MethodName := ⟨RX1, "lieAnew", "(II)V"⟩
abbrev cX1_becomes : ByteArray := prog_3_method_3_code
def yX1_becomes : MethodName := ⟨RX1, "becomes", "(LHeronTalk$Sheet;)V"⟩
abbrev cX1_hasNoPlace : ByteArray := prog_3_method_4_code
def yX1_hasNoPlace : MethodName := ⟨RX1, "hasNoPlace", "(I)Z"⟩
abbrev cX1_hasNoRow : ByteArray := prog_3_method_5_code
def yX1_hasNoRow : MethodName := ⟨RX1, "hasNoRow", "(II)Z"⟩
def RX2 : String := "HeronTalk$Slot"
def TX2 : u_T := fun k => match k with
  | 0 => ("HeronTalk$Slot", "holds", "I", false)
  | 1 => ("HeronTalk$Slot", "kind", "I", false)
  | 2 => ("HeronTalk$Slot", "asker", "I", false)
  | 3 => ("HeronTalk$Slot", "asked", "I", false)
  | 4 => ("HeronTalk$Slot", "number", "I", false)
  | _ => ("HeronTalk$Slot", "sheet", "LHeronTalk$Sheet;", true)
def tyX2 : Nat → FieldType := fun k => match k with
  | 0 => .int
  | 1 => .int
  | 2 => .int
  | 3 => .int
  | 4 => .int
  | _ => .object "HeronTalk$Sheet"
theorem nmX2 : ∀ a, a < 6 → ∀ b, b < 6 → a ≠ b → (TX2 a).2.1 ≠ (TX2 b).2.1 := by decide +kernel
theorem tyX2_ok : ∀ k, k < 6 → parseFieldDescriptor (TX2 k).2.2.1 = some (tyX2 k) := by decide +kernel
abbrev cX2_init : ByteArray := prog_4_method_1_code
def yX2_init : MethodName := ⟨RX2, "<init>", "()V"⟩
abbrev cX2_holdTalk : ByteArray := prog_4_method_2_code
def yX2_holdTalk : MethodName := ⟨RX2, "holdTalk", "(III)V"⟩
def RX3 : String := "HeronTalk$Tape"
def TX3 : u_T := fun k => match k with
  | 0 => ("HeronTalk$Tape", "bytes", "[B", true)
  | _ => ("HeronTalk$Tape", "length", "I", false)
def tyX3 : Nat → FieldType := fun k => match k with
  | 0 => .array .byte
  | _ => .int
theorem nmX3 : ∀ a, a < 2 → ∀ b, b < 2 → a ≠ b → (TX3 a).2.1 ≠ (TX3 b).2.1 := by decide +kernel
theorem tyX3_ok : ∀ k, k < 2 → parseFieldDescriptor (TX3 k).2.2.1 = some (tyX3 k) := by decide +kernel
abbrev cX3_init : ByteArray := prog_5_method_1_code
def yX3_init : MethodName := ⟨RX3, "<init>", "()V"⟩
abbrev cX3_add : ByteArray := prog_5_method_2_code
def yX3_add : MethodName := ⟨RX3, "add", "(I)V"⟩
abbrev cX3_at : ByteArray := prog_5_method_3_code
def yX3_at : MethodName := ⟨RX3, "at", "(I)I"⟩
abbrev cX3_hasLetter : ByteArray := prog_5_method_4_code
def yX3_hasLetter : MethodName := ⟨RX3, "hasLetter", "(I)Z"⟩
abbrev cX3_hasDigit : ByteArray := prog_5_method_5_code
def yX3_hasDigit : MethodName := ⟨RX3, "hasDigit", "(I)Z"⟩
abbrev cX3_behindBlanks : ByteArray := prog_5_method_6_code
def yX3_behindBlanks : MethodName := ⟨RX3, "behindBlanks", "(I)I"⟩
abbrev cX3_behindWord : ByteArray := prog_5_method_7_code
def yX3_behindWord : MethodName := ⟨RX3, "behindWord", "(I)I"⟩
abbrev cX3_hasWord : ByteArray := prog_5_method_8_code
def yX3_hasWord : MethodName := ⟨RX3, "hasWord", "(Ljava/lang/String;II)Z"⟩
abbrev cX3_numberAt : ByteArray := prog_5_method_9_code
def yX3_numberAt : MethodName := ⟨RX3, "numberAt", "(II)I"⟩
def RX4 : String := "HeronTalk$Text"
def TX4 : u_T := fun k => match k with
  | 0 => ("HeronTalk$Text", "key", "I", true)
  | 1 => ("HeronTalk$Text", "leaves", "I", true)
  | 2 => ("HeronTalk$Text", "code", "[I", true)
  | _ => ("HeronTalk$Text", "pile", "[I", true)
def tyX4 : Nat → FieldType := fun k => match k with
  | 0 => .int
  | 1 => .int
  | 2 => .array .int
  | _ => .array .int
theorem nmX4 : ∀ a, a < 4 → ∀ b, b < 4 → a ≠ b → (TX4 a).2.1 ≠ (TX4 b).2.1 := by decide +kernel
theorem tyX4_ok : ∀ k, k < 4 → parseFieldDescriptor (TX4 k).2.2.1 = some (tyX4 k) := by decide +kernel
abbrev cX4_init : ByteArray := prog_6_method_1_code
def yX4_init : MethodName := ⟨RX4, "<init>", "(II[I)V"⟩
abbrev cX4_valueFor : ByteArray := prog_6_method_2_code
def yX4_valueFor : MethodName := ⟨RX4, "valueFor", "(III)I"⟩
def RX5 : String := "HeronTalk$Town"
def TX5 : u_T := fun k => match k with
  | 0 => ("HeronTalk$Town", "facts", "I", false)
  | 1 => ("HeronTalk$Town", "people", "I", false)
  | 2 => ("HeronTalk$Town", "rules", "I", false)
  | 3 => ("HeronTalk$Town", "talks", "I", false)
  | 4 => ("HeronTalk$Town", "texts", "I", false)
  | 5 => ("HeronTalk$Town", "hour", "I", false)
  | 6 => ("HeronTalk$Town", "said", "I", false)
  | 7 => ("HeronTalk$Town", "z", "I", false)
  | 8 => ("HeronTalk$Town", "worth", "[I", true)
  | 9 => ("HeronTalk$Town", "till", "[I", true)
  | 10 => ("HeronTalk$Town", "knows", "[I", true)
  | 11 => ("HeronTalk$Town", "needs", "[I", true)
  | 12 => ("HeronTalk$Town", "ruleNeeds", "[I", true)
  | 13 => ("HeronTalk$Town", "ruleGives", "[I", true)
  | 14 => ("HeronTalk$Town", "kinds", "[I", true)
  | 15 => ("HeronTalk$Town", "askers", "[I", true)
  | 16 => ("HeronTalk$Town", "asked", "[I", true)
  | _ => ("HeronTalk$Town", "laws", "[LHeronTalk$Text;", true)
def tyX5 : Nat → FieldType := fun k => match k with
  | 0 => .int
  | 1 => .int
  | 2 => .int
  | 3 => .int
  | 4 => .int
  | 5 => .int
  | 6 => .int
  | 7 => .int
  | 8 => .array .int
  | 9 => .array .int
  | 10 => .array .int
  | 11 => .array .int
  | 12 => .array .int
  | 13 => .array .int
  | 14 => .array .int
  | 15 => .array .int
  | 16 => .array .int
  | _ => .array (.object "HeronTalk$Text")
theorem nmX5 : ∀ a, a < 18 → ∀ b, b < 18 → a ≠ b → (TX5 a).2.1 ≠ (TX5 b).2.1 := by decide +kernel
theorem tyX5_ok : ∀ k, k < 18 → parseFieldDescriptor (TX5 k).2.2.1 = some (tyX5 k) := by decide +kernel
abbrev cX5_init : ByteArray := prog_7_method_1_code
def yX5_init : MethodName := ⟨RX5, "<init>", "()V"⟩
abbrev cX5_becomes : ByteArray := prog_7_method_2_code
def yX5_becomes : MethodName := ⟨RX5, "becomes", "(LHeronTalk$Town;)V"⟩
abbrev cX5_addFact : ByteArray := prog_7_method_3_code
def yX5_addFact : MethodName := ⟨RX5, "addFact", "(I)I"⟩
abbrev cX5_addPerson : ByteArray := prog_7_method_4_code
def yX5_addPerson : MethodName := ⟨RX5, "addPerson", "()I"⟩
abbrev cX5_addRule : ByteArray := prog_7_method_5_code
def yX5_addRule : MethodName := ⟨RX5, "addRule", "(III)I"⟩
abbrev cX5_addTalk : ByteArray := prog_7_method_6_code
def yX5_addTalk : MethodName := ⟨RX5, "addTalk", "(III)I"⟩
abbrev cX5_addText : ByteArray := prog_7_method_7_code
def yX5_addText : MethodName := ⟨RX5, "addText", "(LHeronTalk$Text;)I"⟩
abbrev cX5_allFacts : ByteArray := prog_7_method_8_code
def yX5_allFacts : MethodName := ⟨RX5, "allFacts", "()I"⟩
abbrev cX5_isFresh : ByteArray := prog_7_method_9_code
def yX5_isFresh : MethodName := ⟨RX5, "isFresh", "(I)Z"⟩
abbrev cX5_freshFacts : ByteArray := prog_7_method_10_code
def yX5_freshFacts : MethodName := ⟨RX5, "freshFacts", "()I"⟩
abbrev cX5_isKnown : ByteArray := prog_7_method_11_code
def yX5_isKnown : MethodName := ⟨RX5, "isKnown", "(II)Z"⟩
abbrev cX5_knowersOf : ByteArray := prog_7_method_12_code
def yX5_knowersOf : MethodName := ⟨RX5, "knowersOf", "(I)I"⟩
abbrev cX5_howManyKnow : ByteArray := prog_7_method_13_code
def yX5_howManyKnow : MethodName := ⟨RX5, "howManyKnow", "(I)I"⟩
abbrev cX5_knownTogether : ByteArray := prog_7_method_14_code
def yX5_knownTogether : MethodName := ⟨RX5, "knownTogether", "()I"⟩
abbrev cX5_newsOf : ByteArray := prog_7_method_15_code
def yX5_newsOf : MethodName := ⟨RX5, "newsOf", "(I)I"⟩
abbrev cX5_richesOf : ByteArray := prog_7_method_16_code
def yX5_richesOf : MethodName := ⟨RX5, "richesOf", "(I)I"⟩
abbrev cX5_richestOne : ByteArray := prog_7_method_17_code
def yX5_richestOne : MethodName := ⟨RX5, "richestOne", "()I"⟩
abbrev cX5_withWhatFollows : ByteArray := prog_7_method_18_code
def yX5_withWhatFollows : MethodName := ⟨RX5, "withWhatFollows", "(I)I"⟩
abbrev cX5_learn : ByteArray := prog_7_method_19_code
def yX5_learn : MethodName := ⟨RX5, "learn", "(II)V"⟩
abbrev cX5_drawOne : ByteArray := prog_7_method_20_code
def yX5_drawOne : MethodName := ⟨RX5, "drawOne", "()I"⟩
abbrev cX5_drawAll : ByteArray := prog_7_method_21_code
def yX5_drawAll : MethodName := ⟨RX5, "drawAll", "()V"⟩
abbrev cX5_lastTextOf : ByteArray := prog_7_method_22_code
def yX5_lastTextOf : MethodName := ⟨RX5, "lastTextOf", "(I)I"⟩
abbrev cX5_priceOf : ByteArray := prog_7_method_23_code
def yX5_priceOf : MethodName := ⟨RX5, "priceOf", "(II)I"⟩
abbrev cX5_lookFor : ByteArray := prog_7_method_24_code
def yX5_lookFor : MethodName := ⟨RX5, "lookFor", "(I)I"⟩
abbrev cX5_fineNow : ByteArray := prog_7_method_25_code
def yX5_fineNow : MethodName := ⟨RX5, "fineNow", "()I"⟩
abbrev cX5_pick : ByteArray := prog_7_method_26_code
def yX5_pick : MethodName := ⟨RX5, "pick", "(IIZI)I"⟩
abbrev cX5_givenOf : ByteArray := prog_7_method_27_code
def yX5_givenOf : MethodName := ⟨RX5, "givenOf", "(III)I"⟩
abbrev cX5_gotOf : ByteArray := prog_7_method_28_code
def yX5_gotOf : MethodName := ⟨RX5, "gotOf", "(IIII)I"⟩
abbrev cX5_worthOf : ByteArray := prog_7_method_29_code
def yX5_worthOf : MethodName := ⟨RX5, "worthOf", "(III)I"⟩
abbrev cX5_converse : ByteArray := prog_7_method_30_code
def yX5_converse : MethodName := ⟨RX5, "converse", "(III)Z"⟩
abbrev cX5_goRound : ByteArray := prog_7_method_31_code
def yX5_goRound : MethodName := ⟨RX5, "goRound", "()I"⟩
abbrev cX5_bestToKeep : ByteArray := prog_7_method_32_code
def yX5_bestToKeep : MethodName := ⟨RX5, "bestToKeep", "(I)I"⟩
abbrev cX5_pricesForOthers : ByteArray := prog_7_method_33_code
def yX5_pricesForOthers : MethodName := ⟨RX5, "pricesForOthers", "(I)I"⟩
abbrev cX5_takeWorths : ByteArray := prog_7_method_34_code
def yX5_takeWorths : MethodName := ⟨RX5, "takeWorths", "(LHeronTalk$Sheet;)I"⟩
abbrev cX5_firstOtherwise : ByteArray := prog_7_method_35_code
def yX5_firstOtherwise : MethodName := ⟨RX5, "firstOtherwise", "(LHeronTalk$Sheet;)I"⟩
def RX6 : String := "HeronTalk"
def TX6 : u_T := fun k => match k with
  | 0 => ("HeronTalk", "town", "LHeronTalk$Town;", true)
  | 1 => ("HeronTalk", "image", "LHeronTalk$Town;", true)
  | 2 => ("HeronTalk", "thought", "LHeronTalk$Town;", true)
  | 3 => ("HeronTalk", "hasImage", "Z", false)
  | 4 => ("HeronTalk", "tape", "LHeronTalk$Tape;", true)
  | 5 => ("HeronTalk", "reader", "LHeronTalk$Reader;", true)
  | 6 => ("HeronTalk", "sheets", "[LHeronTalk$Sheet;", true)
  | 7 => ("HeronTalk", "slots", "[LHeronTalk$Slot;", true)
  | 8 => ("HeronTalk", "waiting", "[I", true)
  | 9 => ("HeronTalk", "waits", "I", false)
  | _ => ("HeronTalk", "row", "[I", true)
def tyX6 : Nat → FieldType := fun k => match k with
  | 0 => .object "HeronTalk$Town"
  | 1 => .object "HeronTalk$Town"
  | 2 => .object "HeronTalk$Town"
  | 3 => .boolean
  | 4 => .object "HeronTalk$Tape"
  | 5 => .object "HeronTalk$Reader"
  | 6 => .array (.object "HeronTalk$Sheet")
  | 7 => .array (.object "HeronTalk$Slot")
  | 8 => .array .int
  | 9 => .int
  | _ => .array .int
theorem nmX6 : ∀ a, a < 11 → ∀ b, b < 11 → a ≠ b → (TX6 a).2.1 ≠ (TX6 b).2.1 := by decide +kernel
theorem tyX6_ok : ∀ k, k < 11 → parseFieldDescriptor (TX6 k).2.2.1 = some (tyX6 k) := by decide +kernel
abbrev cX6_init : ByteArray := prog_1_method_1_code
def yX6_init : MethodName := ⟨RX6, "<init>", "()V"⟩
abbrev cX6_fact : ByteArray := prog_1_method_2_code
def yX6_fact : MethodName := ⟨RX6, "fact", "(I)I"⟩
abbrev cX6_factTold : ByteArray := prog_1_method_3_code
def yX6_factTold : MethodName := ⟨RX6, "factTold", "(II)I"⟩
abbrev cX6_set : ByteArray := prog_1_method_4_code
def yX6_set : MethodName := ⟨RX6, "set", "(III)I"⟩
abbrev cX6_person : ByteArray := prog_1_method_5_code
def yX6_person : MethodName := ⟨RX6, "person", "()I"⟩
abbrev cX6_personTold : ByteArray := prog_1_method_6_code
def yX6_personTold : MethodName := ⟨RX6, "personTold", "(II)I"⟩
abbrev cX6_knows : ByteArray := prog_1_method_7_code
def yX6_knows : MethodName := ⟨RX6, "knows", "(III)I"⟩
abbrev cX6_follows : ByteArray := prog_1_method_8_code
def yX6_follows : MethodName := ⟨RX6, "follows", "(III)I"⟩
abbrev cX6_price : ByteArray := prog_1_method_9_code
def yX6_price : MethodName := ⟨RX6, "price", "(II)I"⟩
abbrev cX6_deal : ByteArray := prog_1_method_10_code
def yX6_deal : MethodName := ⟨RX6, "deal", "()I"⟩
abbrev cX6_seed : ByteArray := prog_1_method_11_code
def yX6_seed : MethodName := ⟨RX6, "seed", "(I)I"⟩
abbrev cX6_clock : ByteArray := prog_1_method_12_code
def yX6_clock : MethodName := ⟨RX6, "clock", "(I)I"⟩
abbrev cX6_talk : ByteArray := prog_1_method_13_code
def yX6_talk : MethodName := ⟨RX6, "talk", "(III)I"⟩
abbrev cX6_told : ByteArray := prog_1_method_14_code
def yX6_told : MethodName := ⟨RX6, "told", "(II)I"⟩
abbrev cX6_as : ByteArray := prog_1_method_15_code
def yX6_as : MethodName := ⟨RX6, "as", "(II)I"⟩
abbrev cX6_turns : ByteArray := prog_1_method_16_code
def yX6_turns : MethodName := ⟨RX6, "turns", "(II)I"⟩
abbrev cX6_say : ByteArray := prog_1_method_17_code
def yX6_say : MethodName := ⟨RX6, "say", "(I)I"⟩
abbrev cX6_round : ByteArray := prog_1_method_18_code
def yX6_round : MethodName := ⟨RX6, "round", "()I"⟩
abbrev cX6_market : ByteArray := prog_1_method_19_code
def yX6_market : MethodName := ⟨RX6, "market", "()I"⟩
abbrev cX6_richest : ByteArray := prog_1_method_20_code
def yX6_richest : MethodName := ⟨RX6, "richest", "()I"⟩
abbrev cX6_fewest : ByteArray := prog_1_method_21_code
def yX6_fewest : MethodName := ⟨RX6, "fewest", "(IIII)I"⟩
abbrev cX6_look : ByteArray := prog_1_method_22_code
def yX6_look : MethodName := ⟨RX6, "look", "(II)I"⟩
abbrev cX6_find : ByteArray := prog_1_method_23_code
def yX6_find : MethodName := ⟨RX6, "find", "(II)I"⟩
abbrev cX6_keepsBack : ByteArray := prog_1_method_24_code
def yX6_keepsBack : MethodName := ⟨RX6, "keepsBack", "(I)I"⟩
abbrev cX6_fine : ByteArray := prog_1_method_25_code
def yX6_fine : MethodName := ⟨RX6, "fine", "()I"⟩
abbrev cX6_feed : ByteArray := prog_1_method_26_code
def yX6_feed : MethodName := ⟨RX6, "feed", "(III)I"⟩
abbrev cX6_trim : ByteArray := prog_1_method_27_code
def yX6_trim : MethodName := ⟨RX6, "trim", "(I)I"⟩
abbrev cX6_text : ByteArray := prog_1_method_28_code
def yX6_text : MethodName := ⟨RX6, "text", "()I"⟩
abbrev cX6_textTold : ByteArray := prog_1_method_29_code
def yX6_textTold : MethodName := ⟨RX6, "textTold", "(II)I"⟩
abbrev cX6_why : ByteArray := prog_1_method_30_code
def yX6_why : MethodName := ⟨RX6, "why", "(I)I"⟩
abbrev cX6_sheet : ByteArray := prog_1_method_31_code
def yX6_sheet : MethodName := ⟨RX6, "sheet", "(III)I"⟩
abbrev cX6_mark : ByteArray := prog_1_method_32_code
def yX6_mark : MethodName := ⟨RX6, "mark", "(III)I"⟩
abbrev cX6_pour : ByteArray := prog_1_method_33_code
def yX6_pour : MethodName := ⟨RX6, "pour", "(I)I"⟩
abbrev cX6_reads : ByteArray := prog_1_method_34_code
def yX6_reads : MethodName := ⟨RX6, "reads", "(I)I"⟩
abbrev cX6_copy : ByteArray := prog_1_method_35_code
def yX6_copy : MethodName := ⟨RX6, "copy", "(IIIII)I"⟩
abbrev cX6_lay : ByteArray := prog_1_method_36_code
def yX6_lay : MethodName := ⟨RX6, "lay", "(III)I"⟩
abbrev cX6_ask : ByteArray := prog_1_method_37_code
def yX6_ask : MethodName := ⟨RX6, "ask", "(II)I"⟩
abbrev cX6_item : ByteArray := prog_1_method_38_code
def yX6_item : MethodName := ⟨RX6, "item", "(II)I"⟩
abbrev cX6_rest : ByteArray := prog_1_method_39_code
def yX6_rest : MethodName := ⟨RX6, "rest", "(II)I"⟩
abbrev cX6_tell : ByteArray := prog_1_method_40_code
def yX6_tell : MethodName := ⟨RX6, "tell", "(I)I"⟩
abbrev cX6_check : ByteArray := prog_1_method_41_code
def yX6_check : MethodName := ⟨RX6, "check", "(I)I"⟩
abbrev cX6_keep : ByteArray := prog_1_method_42_code
def yX6_keep : MethodName := ⟨RX6, "keep", "()I"⟩
abbrev cX6_back : ByteArray := prog_1_method_43_code
def yX6_back : MethodName := ⟨RX6, "back", "()I"⟩
abbrev cX6_count : ByteArray := prog_1_method_44_code
def yX6_count : MethodName := ⟨RX6, "count", "(I)I"⟩
abbrev cX6_isNoFact : ByteArray := prog_1_method_45_code
def yX6_isNoFact : MethodName := ⟨RX6, "isNoFact", "(I)Z"⟩
abbrev cX6_isNobody : ByteArray := prog_1_method_46_code
def yX6_isNobody : MethodName := ⟨RX6, "isNobody", "(I)Z"⟩
abbrev cX6_isNoTalk : ByteArray := prog_1_method_47_code
def yX6_isNoTalk : MethodName := ⟨RX6, "isNoTalk", "(I)Z"⟩
abbrev cX6_isNoKind : ByteArray := prog_1_method_48_code
def yX6_isNoKind : MethodName := ⟨RX6, "isNoKind", "(I)Z"⟩
abbrev cX6_isNoSheet : ByteArray := prog_1_method_49_code
def yX6_isNoSheet : MethodName := ⟨RX6, "isNoSheet", "(I)Z"⟩
abbrev cX6_isNoSlot : ByteArray := prog_1_method_50_code
def yX6_isNoSlot : MethodName := ⟨RX6, "isNoSlot", "(I)Z"⟩
abbrev cX6_isOutside : ByteArray := prog_1_method_51_code
def yX6_isOutside : MethodName := ⟨RX6, "isOutside", "(III)Z"⟩
abbrev cX6_orNone : ByteArray := prog_1_method_52_code
def yX6_orNone : MethodName := ⟨RX6, "orNone", "(I)I"⟩
abbrev cX6_held : ByteArray := prog_1_method_53_code
def yX6_held : MethodName := ⟨RX6, "held", "(III)I"⟩
abbrev cX6_isOfKind : ByteArray := prog_1_method_54_code
def yX6_isOfKind : MethodName := ⟨RX6, "isOfKind", "(II)Z"⟩
abbrev cX6_goes : ByteArray := prog_1_method_55_code
def yX6_goes : MethodName := ⟨RX6, "goes", "(III)Z"⟩
abbrev cX6_comesToKnow : ByteArray := prog_1_method_56_code
def yX6_comesToKnow : MethodName := ⟨RX6, "comesToKnow", "(LHeronTalk$Town;IIII[I)Z"⟩
def RX7 : String := "HeronTalkModel"
def TX7 : u_T := fun k => match k with
  | 0 => ("HeronTalkModel", "now", "[I", true)
  | 1 => ("HeronTalkModel", "image", "[I", true)
  | 2 => ("HeronTalkModel", "aside", "[I", true)
  | 3 => ("HeronTalkModel", "hasImage", "Z", false)
  | 4 => ("HeronTalkModel", "ahead", "[I", true)
  | 5 => ("HeronTalkModel", "asked", "[I", true)
  | 6 => ("HeronTalkModel", "tape", "[I", true)
  | 7 => ("HeronTalkModel", "taped", "I", false)
  | 8 => ("HeronTalkModel", "next", "I", false)
  | 9 => ("HeronTalkModel", "from", "I", false)
  | 10 => ("HeronTalkModel", "token", "I", false)
  | 11 => ("HeronTalkModel", "value", "I", false)
  | 12 => ("HeronTalkModel", "ended", "I", false)
  | 13 => ("HeronTalkModel", "key", "I", false)
  | 14 => ("HeronTalkModel", "keys", "[C", true)
  | 15 => ("HeronTalkModel", "keyAt", "[I", true)
  | 16 => ("HeronTalkModel", "code", "[I", true)
  | 17 => ("HeronTalkModel", "codes", "I", false)
  | 18 => ("HeronTalkModel", "atoms", "I", false)
  | 19 => ("HeronTalkModel", "waits", "[I", true)
  | 20 => ("HeronTalkModel", "held", "I", false)
  | 21 => ("HeronTalkModel", "tested", "[Z", true)
  | 22 => ("HeronTalkModel", "stack", "[I", true)
  | 23 => ("HeronTalkModel", "facts", "[I", true)
  | 24 => ("HeronTalkModel", "sorts", "[I", true)
  | 25 => ("HeronTalkModel", "sizes", "[I", true)
  | 26 => ("HeronTalkModel", "cells", "[I", true)
  | 27 => ("HeronTalkModel", "holds", "[I", true)
  | 28 => ("HeronTalkModel", "holdsA", "[I", true)
  | 29 => ("HeronTalkModel", "holdsB", "[I", true)
  | 30 => ("HeronTalkModel", "heldCells", "[I", true)
  | 31 => ("HeronTalkModel", "moved", "[I", true)
  | 32 => ("HeronTalkModel", "tells", "[I", true)
  | _ => ("HeronTalkModel", "waiting", "I", false)
def tyX7 : Nat → FieldType := fun k => match k with
  | 0 => .array .int
  | 1 => .array .int
  | 2 => .array .int
  | 3 => .boolean
  | 4 => .array .int
  | 5 => .array .int
  | 6 => .array .int
  | 7 => .int
  | 8 => .int
  | 9 => .int
  | 10 => .int
  | 11 => .int
  | 12 => .int
  | 13 => .int
  | 14 => .array .char
  | 15 => .array .int
  | 16 => .array .int
  | 17 => .int
  | 18 => .int
  | 19 => .array .int
  | 20 => .int
  | 21 => .array .boolean
  | 22 => .array .int
  | 23 => .array .int
  | 24 => .array .int
  | 25 => .array .int
  | 26 => .array .int
  | 27 => .array .int
  | 28 => .array .int
  | 29 => .array .int
  | 30 => .array .int
  | 31 => .array .int
  | 32 => .array .int
  | _ => .int
theorem nmX7 : ∀ a, a < 34 → ∀ b, b < 34 → a ≠ b → (TX7 a).2.1 ≠ (TX7 b).2.1 := by decide +kernel
theorem tyX7_ok : ∀ k, k < 34 → parseFieldDescriptor (TX7 k).2.2.1 = some (tyX7 k) := by decide +kernel
abbrev cX7_init : ByteArray := prog_9_method_1_code
def yX7_init : MethodName := ⟨RX7, "<init>", "()V"⟩
abbrev cX7_in : ByteArray := prog_9_method_2_code
def yX7_in : MethodName := ⟨RX7, "in", "(III)Z"⟩
abbrev cX7_within : ByteArray := prog_9_method_3_code
def yX7_within : MethodName := ⟨RX7, "within", "(III)I"⟩
abbrev cX7_copyAll : ByteArray := prog_9_method_4_code
def yX7_copyAll : MethodName := ⟨RX7, "copyAll", "([I[I)V"⟩
abbrev cX7_told0 : ByteArray := prog_9_method_5_code
def yX7_told0 : MethodName := ⟨RX7, "told0", "(I)I"⟩
abbrev cX7_isFact : ByteArray := prog_9_method_6_code
def yX7_isFact : MethodName := ⟨RX7, "isFact", "(I)Z"⟩
abbrev cX7_isPerson : ByteArray := prog_9_method_7_code
def yX7_isPerson : MethodName := ⟨RX7, "isPerson", "(I)Z"⟩
abbrev cX7_isTalk : ByteArray := prog_9_method_8_code
def yX7_isTalk : MethodName := ⟨RX7, "isTalk", "(I)Z"⟩
abbrev cX7_isSet : ByteArray := prog_9_method_9_code
def yX7_isSet : MethodName := ⟨RX7, "isSet", "(I)Z"⟩
abbrev cX7_bitsOf : ByteArray := prog_9_method_10_code
def yX7_bitsOf : MethodName := ⟨RX7, "bitsOf", "(I)I"⟩
abbrev cX7_becomes : ByteArray := prog_9_method_11_code
def yX7_becomes : MethodName := ⟨RX7, "becomes", "(II)I"⟩
abbrev cX7_worthOf : ByteArray := prog_9_method_12_code
def yX7_worthOf : MethodName := ⟨RX7, "worthOf", "(I)I"⟩
abbrev cX7_isFresh : ByteArray := prog_9_method_13_code
def yX7_isFresh : MethodName := ⟨RX7, "isFresh", "(I)Z"⟩
abbrev cX7_knownTo : ByteArray := prog_9_method_14_code
def yX7_knownTo : MethodName := ⟨RX7, "knownTo", "(I)I"⟩
abbrev cX7_neededBy : ByteArray := prog_9_method_15_code
def yX7_neededBy : MethodName := ⟨RX7, "neededBy", "(I)I"⟩
abbrev cX7_doesKnow : ByteArray := prog_9_method_16_code
def yX7_doesKnow : MethodName := ⟨RX7, "doesKnow", "(II)Z"⟩
abbrev cX7_learns : ByteArray := prog_9_method_17_code
def yX7_learns : MethodName := ⟨RX7, "learns", "(II)V"⟩
abbrev cX7_fact : ByteArray := prog_9_method_18_code
def yX7_fact : MethodName := ⟨RX7, "fact", "(I)I"⟩
abbrev cX7_knowers : ByteArray := prog_9_method_19_code
def yX7_knowers : MethodName := ⟨RX7, "knowers", "(I)I"⟩
abbrev cX7_factTold : ByteArray := prog_9_method_20_code
def yX7_factTold : MethodName := ⟨RX7, "factTold", "(II)I"⟩
abbrev cX7_set : ByteArray := prog_9_method_21_code
def yX7_set : MethodName := ⟨RX7, "set", "(III)I"⟩
abbrev cX7_person : ByteArray := prog_9_method_22_code
def yX7_person : MethodName := ⟨RX7, "person", "()I"⟩
abbrev cX7_newsOf : ByteArray := prog_9_method_23_code
def yX7_newsOf : MethodName := ⟨RX7, "newsOf", "(I)I"⟩
abbrev cX7_richesOf : ByteArray := prog_9_method_24_code
def yX7_richesOf : MethodName := ⟨RX7, "richesOf", "(I)I"⟩
abbrev cX7_personTold : ByteArray := prog_9_method_25_code
def yX7_personTold : MethodName := ⟨RX7, "personTold", "(II)I"⟩
abbrev cX7_knows : ByteArray := prog_9_method_26_code
def yX7_knows : MethodName := ⟨RX7, "knows", "(III)I"⟩
abbrev cX7_follows : ByteArray := prog_9_method_27_code
def yX7_follows : MethodName := ⟨RX7, "follows", "(III)I"⟩
abbrev cX7_priceOf : ByteArray := prog_9_method_28_code
def yX7_priceOf : MethodName := ⟨RX7, "priceOf", "(II)I"⟩
abbrev cX7_price : ByteArray := prog_9_method_29_code
def yX7_price : MethodName := ⟨RX7, "price", "(II)I"⟩
abbrev cX7_draw : ByteArray := prog_9_method_30_code
def yX7_draw : MethodName := ⟨RX7, "draw", "()I"⟩
abbrev cX7_knownAll : ByteArray := prog_9_method_31_code
def yX7_knownAll : MethodName := ⟨RX7, "knownAll", "()I"⟩
abbrev cX7_deal : ByteArray := prog_9_method_32_code
def yX7_deal : MethodName := ⟨RX7, "deal", "()I"⟩
abbrev cX7_seed : ByteArray := prog_9_method_33_code
def yX7_seed : MethodName := ⟨RX7, "seed", "(I)I"⟩
abbrev cX7_clock : ByteArray := prog_9_method_34_code
def yX7_clock : MethodName := ⟨RX7, "clock", "(I)I"⟩
abbrev cX7_talk : ByteArray := prog_9_method_35_code
def yX7_talk : MethodName := ⟨RX7, "talk", "(III)I"⟩
abbrev cX7_best : ByteArray := prog_9_method_36_code
def yX7_best : MethodName := ⟨RX7, "best", "(IIIZI)I"⟩
abbrev cX7_givenBy : ByteArray := prog_9_method_37_code
def yX7_givenBy : MethodName := ⟨RX7, "givenBy", "(III)I"⟩
abbrev cX7_gotBy : ByteArray := prog_9_method_38_code
def yX7_gotBy : MethodName := ⟨RX7, "gotBy", "(III)I"⟩
abbrev cX7_wouldGo : ByteArray := prog_9_method_39_code
def yX7_wouldGo : MethodName := ⟨RX7, "wouldGo", "(III)Z"⟩
abbrev cX7_worthBy : ByteArray := prog_9_method_40_code
def yX7_worthBy : MethodName := ⟨RX7, "worthBy", "(III)I"⟩
abbrev cX7_told : ByteArray := prog_9_method_41_code
def yX7_told : MethodName := ⟨RX7, "told", "(II)I"⟩
abbrev cX7_isUnder : ByteArray := prog_9_method_42_code
def yX7_isUnder : MethodName := ⟨RX7, "isUnder", "(II)Z"⟩
abbrev cX7_as : ByteArray := prog_9_method_43_code
def yX7_as : MethodName := ⟨RX7, "as", "(II)I"⟩
abbrev cX7_turns : ByteArray := prog_9_method_44_code
def yX7_turns : MethodName := ⟨RX7, "turns", "(II)I"⟩
abbrev cX7_asBit : ByteArray := prog_9_method_45_code
def yX7_asBit : MethodName := ⟨RX7, "asBit", "(I)I"⟩
abbrev cX7_goes : ByteArray := prog_9_method_46_code
def yX7_goes : MethodName := ⟨RX7, "goes", "(III)Z"⟩
abbrev cX7_goesOn : ByteArray := prog_9_method_47_code
def yX7_goesOn : MethodName := ⟨RX7, "goesOn", "(I)Z"⟩
abbrev cX7_say : ByteArray := prog_9_method_48_code
def yX7_say : MethodName := ⟨RX7, "say", "(I)I"⟩
abbrev cX7_aRound : ByteArray := prog_9_method_49_code
def yX7_aRound : MethodName := ⟨RX7, "aRound", "()I"⟩
abbrev cX7_round : ByteArray := prog_9_method_50_code
def yX7_round : MethodName := ⟨RX7, "round", "()I"⟩
abbrev cX7_market : ByteArray := prog_9_method_51_code
def yX7_market : MethodName := ⟨RX7, "market", "()I"⟩
abbrev cX7_richest : ByteArray := prog_9_method_52_code
def yX7_richest : MethodName := ⟨RX7, "richest", "()I"⟩
abbrev cX7_keepsAhead : ByteArray := prog_9_method_53_code
def yX7_keepsAhead : MethodName := ⟨RX7, "keepsAhead", "(I)V"⟩
abbrev cX7_putsBack : ByteArray := prog_9_method_54_code
def yX7_putsBack : MethodName := ⟨RX7, "putsBack", "(I)V"⟩
abbrev cX7_comesToKnow : ByteArray := prog_9_method_55_code
def yX7_comesToKnow : MethodName := ⟨RX7, "comesToKnow", "(IIII)Z"⟩
abbrev cX7_fewest : ByteArray := prog_9_method_56_code
def yX7_fewest : MethodName := ⟨RX7, "fewest", "(IIII)I"⟩
abbrev cX7_lookOf : ByteArray := prog_9_method_57_code
def yX7_lookOf : MethodName := ⟨RX7, "lookOf", "(I)I"⟩
abbrev cX7_look : ByteArray := prog_9_method_58_code
def yX7_look : MethodName := ⟨RX7, "look", "(II)I"⟩
abbrev cX7_find : ByteArray := prog_9_method_59_code
def yX7_find : MethodName := ⟨RX7, "find", "(II)I"⟩
abbrev cX7_pricesOf : ByteArray := prog_9_method_60_code
def yX7_pricesOf : MethodName := ⟨RX7, "pricesOf", "(I)I"⟩
abbrev cX7_keepsBack : ByteArray := prog_9_method_61_code
def yX7_keepsBack : MethodName := ⟨RX7, "keepsBack", "(I)I"⟩
abbrev cX7_fine : ByteArray := prog_9_method_62_code
def yX7_fine : MethodName := ⟨RX7, "fine", "()I"⟩
abbrev cX7_feed : ByteArray := prog_9_method_63_code
def yX7_feed : MethodName := ⟨RX7, "feed", "(III)I"⟩
abbrev cX7_trim : ByteArray := prog_9_method_64_code
def yX7_trim : MethodName := ⟨RX7, "trim", "(I)I"⟩
abbrev cX7_isLetter : ByteArray := prog_9_method_65_code
def yX7_isLetter : MethodName := ⟨RX7, "isLetter", "(I)Z"⟩
abbrev cX7_isFigure : ByteArray := prog_9_method_66_code
def yX7_isFigure : MethodName := ⟨RX7, "isFigure", "(I)Z"⟩
abbrev cX7_go : ByteArray := prog_9_method_67_code
def yX7_go : MethodName := ⟨RX7, "go", "()V"⟩
abbrev cX7_takesKey : ByteArray := prog_9_method_68_code
def yX7_takesKey : MethodName := ⟨RX7, "takesKey", "()Z"⟩
abbrev cX7_nameOf : ByteArray := prog_9_method_69_code
def yX7_nameOf : MethodName := ⟨RX7, "nameOf", "(I)I"⟩
abbrev cX7_rank : ByteArray := prog_9_method_70_code
def yX7_rank : MethodName := ⟨RX7, "rank", "(I)I"⟩
abbrev cX7_settle : ByteArray := prog_9_method_71_code
def yX7_settle : MethodName := ⟨RX7, "settle", "(I)V"⟩
abbrev cX7_signHere : ByteArray := prog_9_method_72_code
def yX7_signHere : MethodName := ⟨RX7, "signHere", "()I"⟩
abbrev cX7_takesPart : ByteArray := prog_9_method_73_code
def yX7_takesPart : MethodName := ⟨RX7, "takesPart", "()Z"⟩
abbrev cX7_takesE : ByteArray := prog_9_method_74_code
def yX7_takesE : MethodName := ⟨RX7, "takesE", "()Z"⟩
abbrev cX7_notsOpen : ByteArray := prog_9_method_75_code
def yX7_notsOpen : MethodName := ⟨RX7, "notsOpen", "()I"⟩
abbrev cX7_text : ByteArray := prog_9_method_76_code
def yX7_text : MethodName := ⟨RX7, "text", "()I"⟩
abbrev cX7_textTold : ByteArray := prog_9_method_77_code
def yX7_textTold : MethodName := ⟨RX7, "textTold", "(II)I"⟩
abbrev cX7_counts : ByteArray := prog_9_method_78_code
def yX7_counts : MethodName := ⟨RX7, "counts", "(I)I"⟩
abbrev cX7_why : ByteArray := prog_9_method_79_code
def yX7_why : MethodName := ⟨RX7, "why", "(I)I"⟩
abbrev cX7_two : ByteArray := prog_9_method_80_code
def yX7_two : MethodName := ⟨RX7, "two", "(III)I"⟩
abbrev cX7_worksOut : ByteArray := prog_9_method_81_code
def yX7_worksOut : MethodName := ⟨RX7, "worksOut", "(I)I"⟩
abbrev cX7_isSheet : ByteArray := prog_9_method_82_code
def yX7_isSheet : MethodName := ⟨RX7, "isSheet", "(I)Z"⟩
abbrev cX7_isSlot : ByteArray := prog_9_method_83_code
def yX7_isSlot : MethodName := ⟨RX7, "isSlot", "(I)Z"⟩
abbrev cX7_sheet : ByteArray := prog_9_method_84_code
def yX7_sheet : MethodName := ⟨RX7, "sheet", "(III)I"⟩
abbrev cX7_mark : ByteArray := prog_9_method_85_code
def yX7_mark : MethodName := ⟨RX7, "mark", "(III)I"⟩
abbrev cX7_pour : ByteArray := prog_9_method_86_code
def yX7_pour : MethodName := ⟨RX7, "pour", "(I)I"⟩
abbrev cX7_reads : ByteArray := prog_9_method_87_code
def yX7_reads : MethodName := ⟨RX7, "reads", "(I)I"⟩
abbrev cX7_copy : ByteArray := prog_9_method_88_code
def yX7_copy : MethodName := ⟨RX7, "copy", "(IIIII)I"⟩
abbrev cX7_lay : ByteArray := prog_9_method_89_code
def yX7_lay : MethodName := ⟨RX7, "lay", "(III)I"⟩
abbrev cX7_ask : ByteArray := prog_9_method_90_code
def yX7_ask : MethodName := ⟨RX7, "ask", "(II)I"⟩
abbrev cX7_item : ByteArray := prog_9_method_91_code
def yX7_item : MethodName := ⟨RX7, "item", "(II)I"⟩
abbrev cX7_rest : ByteArray := prog_9_method_92_code
def yX7_rest : MethodName := ⟨RX7, "rest", "(II)I"⟩
abbrev cX7_tell : ByteArray := prog_9_method_93_code
def yX7_tell : MethodName := ⟨RX7, "tell", "(I)I"⟩
abbrev cX7_check : ByteArray := prog_9_method_94_code
def yX7_check : MethodName := ⟨RX7, "check", "(I)I"⟩
abbrev cX7_keep : ByteArray := prog_9_method_95_code
def yX7_keep : MethodName := ⟨RX7, "keep", "()I"⟩
abbrev cX7_back : ByteArray := prog_9_method_96_code
def yX7_back : MethodName := ⟨RX7, "back", "()I"⟩
abbrev cX7_count : ByteArray := prog_9_method_97_code
def yX7_count : MethodName := ⟨RX7, "count", "(I)I"⟩
def RJ6 : String := "java/lang/Integer"
def TJ6 : u_T := fun k => match k with
  | _ => ("", "", "", false)
abbrev cJ6_bitCount_0f7a4 : ByteArray := prog_10_method_49_code
def yJ6_bitCount_0f7a4 : MethodName := ⟨RJ6, "bitCount", "(I)I"⟩
def RJ9 : String := "java/lang/Math"
def TJ9 : u_T := fun k => match k with
  | _ => ("", "", "", false)
abbrev cJ9_max_7cf53 : ByteArray := prog_11_method_65_code
def yJ9_max_7cf53 : MethodName := ⟨RJ9, "max", "(II)I"⟩
abbrev cJ9_min_7cf53 : ByteArray := prog_11_method_69_code
def yJ9_min_7cf53 : MethodName := ⟨RJ9, "min", "(II)I"⟩
def RJ0 : String := "java/lang/String"
def TJ0 : u_T := fun k => match k with
  | _ => ("", "", "", false)
abbrev cJ0_length_8abf5 : ByteArray := prog_12_method_54_code
def yJ0_length_8abf5 : MethodName := ⟨RJ0, "length", "()I"⟩
abbrev cJ0_charAt_5068e : ByteArray := prog_12_method_56_code
def yJ0_charAt_5068e : MethodName := ⟨RJ0, "charAt", "(I)C"⟩
abbrev cJ0_coder_7d493 : ByteArray := prog_12_method_152_code
def yJ0_coder_7d493 : MethodName := ⟨RJ0, "coder", "()B"⟩
abbrev cJ0_isLatin1_aae02 : ByteArray := prog_12_method_154_code
def yJ0_isLatin1_aae02 : MethodName := ⟨RJ0, "isLatin1", "()Z"⟩
abbrev cJ0_checkIndex_df160 : ByteArray := prog_12_method_155_code
def yJ0_checkIndex_df160 : MethodName := ⟨RJ0, "checkIndex", "(II)V"⟩
def RJ1 : String := "java/lang/StringLatin1"
def TJ1 : u_T := fun k => match k with
  | _ => ("", "", "", false)
abbrev cJ1_charAt_3b067 : ByteArray := prog_13_method_2_code
def yJ1_charAt_3b067 : MethodName := ⟨RJ1, "charAt", "([BI)C"⟩
def RJ2 : String := "java/lang/StringUTF16"
def TJ2 : u_T := fun k => match k with
  | _ => ("", "", "", false)
abbrev cJ2_getChar_3b067 : ByteArray := prog_14_method_5_code
def yJ2_getChar_3b067 : MethodName := ⟨RJ2, "getChar", "([BI)C"⟩
abbrev cJ2_length_9d52b : ByteArray := prog_14_method_6_code
def yJ2_length_9d52b : MethodName := ⟨RJ2, "length", "([B)I"⟩
abbrev cJ2_charAt_3b067 : ByteArray := prog_14_method_83_code
def yJ2_charAt_3b067 : MethodName := ⟨RJ2, "charAt", "([BI)C"⟩
abbrev cJ2_checkIndex_2214a : ByteArray := prog_14_method_91_code
def yJ2_checkIndex_2214a : MethodName := ⟨RJ2, "checkIndex", "(I[B)V"⟩
def RJ10 : String := "java/lang/System"
def TJ10 : u_T := fun k => match k with
  | _ => ("", "", "", false)
def RJ3 : String := "jdk/internal/util/Preconditions"
def TJ3 : u_T := fun k => match k with
  | _ => ("", "", "", false)
abbrev cJ3_checkIndex_8e157 : ByteArray := prog_16_method_11_code
def yJ3_checkIndex_8e157 : MethodName := ⟨RJ3, "checkIndex", "(IILjava/util/function/BiFunction;)I"⟩
def RL : String := "HeronTalkLaw"
abbrev cL_law : ByteArray := code
def yL_law : MethodName := ⟨RL, "law", "([I)Z"⟩
abbrev classes : List vw_C := [(RX0, TX0, 10), (RX1, TX1, 3), (RX2, TX2, 6), (RX3, TX3, 2), (RX4, TX4, 4), (RX5, TX5, 18), (RX6, TX6, 11), (RX7, TX7, 34)]
end
section
/-! the abstract heap: next address, slots made, kind and size of a cell, its ints, its references -/
abbrev hS : Type := Nat × Nat × (Nat → Nat × Nat) × (Nat → Nat → Int32) × (Nat → Nat → Option Nat)
/-- launch, first address, classes and slots, array classes, ABOVE's address, the texts' addresses -/
abbrev jE : Type := Launch × Nat × va_G × (Nat → ClassId) × Nat × (Nat → Nat) × (Nat → Nat)
def hs_fs (s : hS) (a : Nat) : Nat → List Value
  | 0 => [va_rf (s.2.2.2.2 a 0), va_rf (s.2.2.2.2 a 1), .int (s.2.2.2.1 a 2), va_rf (s.2.2.2.2 a 3), .int (s.2.2.2.1 a 4), .int (s.2.2.2.1 a 5), .int (s.2.2.2.1 a 6), .int (s.2.2.2.1 a 7), .int (s.2.2.2.1 a 8), .int (s.2.2.2.1 a 9)]
  | 1 => [.int (s.2.2.2.1 a 0), .int (s.2.2.2.1 a 1), va_rf (s.2.2.2.2 a 2)]
  | 2 => [.int (s.2.2.2.1 a 0), .int (s.2.2.2.1 a 1), .int (s.2.2.2.1 a 2), .int (s.2.2.2.1 a 3), .int (s.2.2.2.1 a 4), va_rf (s.2.2.2.2 a 5)]
  | 3 => [va_rf (s.2.2.2.2 a 0), .int (s.2.2.2.1 a 1)]
  | 4 => [.int (s.2.2.2.1 a 0), .int (s.2.2.2.1 a 1), va_rf (s.2.2.2.2 a 2), va_rf (s.2.2.2.2 a 3)]
  | 5 => [.int (s.2.2.2.1 a 0), .int (s.2.2.2.1 a 1), .int (s.2.2.2.1 a 2), .int (s.2.2.2.1 a 3), .int (s.2.2.2.1 a 4), .int (s.2.2.2.1 a 5), .int (s.2.2.2.1 a 6), .int (s.2.2.2.1 a 7), va_rf (s.2.2.2.2 a 8), va_rf (s.2.2.2.2 a 9), va_rf (s.2.2.2.2 a 10), va_rf (s.2.2.2.2 a 11), va_rf (s.2.2.2.2 a 12), va_rf (s.2.2.2.2 a 13), va_rf (s.2.2.2.2 a 14), va_rf (s.2.2.2.2 a 15), va_rf (s.2.2.2.2 a 16), va_rf (s.2.2.2.2 a 17)]
  | 6 => [va_rf (s.2.2.2.2 a 0), va_rf (s.2.2.2.2 a 1), va_rf (s.2.2.2.2 a 2), .int (s.2.2.2.1 a 3), va_rf (s.2.2.2.2 a 4), va_rf (s.2.2.2.2 a 5), va_rf (s.2.2.2.2 a 6), va_rf (s.2.2.2.2 a 7), va_rf (s.2.2.2.2 a 8), .int (s.2.2.2.1 a 9), va_rf (s.2.2.2.2 a 10)]
  | 7 => [va_rf (s.2.2.2.2 a 0), va_rf (s.2.2.2.2 a 1), va_rf (s.2.2.2.2 a 2), .int (s.2.2.2.1 a 3), va_rf (s.2.2.2.2 a 4), va_rf (s.2.2.2.2 a 5), va_rf (s.2.2.2.2 a 6), .int (s.2.2.2.1 a 7), .int (s.2.2.2.1 a 8), .int (s.2.2.2.1 a 9), .int (s.2.2.2.1 a 10), .int (s.2.2.2.1 a 11), .int (s.2.2.2.1 a 12), .int (s.2.2.2.1 a 13), va_rf (s.2.2.2.2 a 14), va_rf (s.2.2.2.2 a 15), va_rf (s.2.2.2.2 a 16), .int (s.2.2.2.1 a 17), .int (s.2.2.2.1 a 18), va_rf (s.2.2.2.2 a 19), .int (s.2.2.2.1 a 20), va_rf (s.2.2.2.2 a 21), va_rf (s.2.2.2.2 a 22), va_rf (s.2.2.2.2 a 23), va_rf (s.2.2.2.2 a 24), va_rf (s.2.2.2.2 a 25), va_rf (s.2.2.2.2 a 26), va_rf (s.2.2.2.2 a 27), va_rf (s.2.2.2.2 a 28), va_rf (s.2.2.2.2 a 29), va_rf (s.2.2.2.2 a 30), va_rf (s.2.2.2.2 a 31), va_rf (s.2.2.2.2 a 32), .int (s.2.2.2.1 a 33)]
  | _ => []
def hs_pic (E : jE) (s : hS) (a : Nat) : va_E :=
  if (s.2.2.1 a).1 < 8 then .inr ((s.2.2.1 a).1, hs_fs s a (s.2.2.1 a).1)
  else if (s.2.2.1 a).1 < 12 then .inl (E.2.2.2.1 (s.2.2.1 a).1, (s.2.2.1 a).2, .inl (s.2.2.2.1 a))
  else .inl (E.2.2.2.1 (s.2.2.1 a).1, (s.2.2.1 a).2, .inr (.inr (.inr (.inr (s.2.2.2.2 a)))))
def hs_ws (E : jE) (s : hS) : va_W := (List.range' E.2.1 (s.1 - E.2.1)).map (fun a => (a, hs_pic E s a))
def hs_A (E : jE) : Nat → Prop := fun q => E.2.1 ≤ q
def hs_tys (E : jE) : List (ClassId × FieldType) := [(E.2.2.2.1 8, .byte), (E.2.2.2.1 9, .char), (E.2.2.2.1 10, .int), (E.2.2.2.1 11, .boolean), (E.2.2.2.1 12, .object RX1), (E.2.2.2.1 13, .object RX2), (E.2.2.2.1 14, .object RX4)]
def hs_nest : List Cond := [.methodLinkNest "HeronTalk$Town" 119 ⟨"HeronTalk", "held", "(III)I"⟩ "HeronTalk", .methodLinkNest "HeronTalk$Town" 126 ⟨"HeronTalk", "isOfKind", "(II)Z"⟩ "HeronTalk", .methodLinkNest "HeronTalk$Town" 140 ⟨"HeronTalk", "goes", "(III)Z"⟩ "HeronTalk"]
def hs_above (j : Nat) : Int32 := if j = 0 then -1 else if j = 3 then 1 else if j = 4 then 2 else 0
def hs_byt : List (List Int32) := [[112, 114, 105, 99, 101], [108, 111, 111, 107], [102, 105, 110, 101]]
/-- of the tables alone -/
def hs_T (E : jE) (U : State) : Prop := va_K E.2.2.1 classes (hs_tys E) U ∧ (va_AO RX1 U ∧ va_AO RX2 U ∧ va_AO RX4 U) ∧ (va_Nw (.methodLinkNest "HeronTalk$Town" 119 ⟨"HeronTalk", "held", "(III)I"⟩ "HeronTalk") U ∧ va_Nw (.methodLinkNest "HeronTalk$Town" 126 ⟨"HeronTalk", "isOfKind", "(II)Z"⟩ "HeronTalk") U ∧ va_Nw (.methodLinkNest "HeronTalk$Town" 140 ⟨"HeronTalk", "goes", "(III)Z"⟩ "HeronTalk") U) ∧ vk_R RX0 81 "price" (E.2.2.2.2.2.1 0) U ∧ vk_R RX0 87 "look" (E.2.2.2.2.2.1 1) U ∧ vk_R RX0 89 "fine" (E.2.2.2.2.2.1 2) U
/-- of what nobody writes -/
def hs_Z (E : jE) (U : State) (H : Heap) : Prop := va_Z "HeronTalk" "ABOVE" "[I" (.ref E.2.2.2.2.1) (hs_A E) U H ∧ va_T .int E.2.2.2.2.1 6 (fun j => .int (hs_above j)) (hs_A E) U H ∧ va_Z "java/lang/String" "COMPACT_STRINGS" "Z" (.int 1) (hs_A E) U H ∧ va_Zq "jdk/internal/util/Preconditions" "SIOOBE_FORMATTER" "Ljava/util/function/BiFunction;" (hs_A E) U H ∧ vk_S 3 [5, 4, 4] hs_byt E.2.2.2.2.2.1 E.2.2.2.2.2.2 (hs_A E) U H
def hs_H (E : jE) (s : hS) (H : Heap) : Prop := E.2.1 ≤ s.1 ∧ H.size = s.1 ∧ va_P E.2.2.1 classes (hs_ws E s) H ∧ ∀ a, (s.2.2.1 a).1 < 15 → E.2.1 ≤ a ∧ a < s.1
def hs_W (E : jE) (s : hS) (U : State) : Prop := hs_T E U ∧ hs_Z E U U.heap ∧ hs_H E s U.heap
def hs_le (s t : hS) : Prop := s.1 ≤ t.1 ∧ s.2.1 ≤ t.2.1
theorem hs_le.rf (s : hS) : hs_le s s := ⟨Nat.le_refl _, Nat.le_refl _⟩
theorem hs_le.tr {s t u : hS} (h : hs_le s t) (h2 : hs_le t u) : hs_le s u := ⟨Nat.le_trans h.1 h2.1, Nat.le_trans h.2 h2.2⟩
theorem hs_T.warm {E : jE} {u U : State} (hW : u.WarmedH U.vm) (h : hs_T E u) : hs_T E U := by
  obtain ⟨h1, ⟨h2, h3, h4⟩, ⟨n0, n1, n2⟩, h5, h6, h7⟩ := h
  exact ⟨va_K.moved hW.alike h1, ⟨va_AO.moved hW.alike h2, va_AO.moved hW.alike h3, va_AO.moved hW.alike h4⟩, ⟨n0.warmM hW, n1.warmM hW, n2.warmM hW⟩, h5.warm hW, h6.warm hW, h7.warm hW⟩
theorem hs_Z.moved {E : jE} {u U : State} {H : Heap} (hvm : u.vm.Alike U.vm) (h : hs_Z E u H) : hs_Z E U H := ⟨h.1.moved hvm, h.2.1.moved hvm, h.2.2.1.moved hvm, h.2.2.2.1.moved hvm, h.2.2.2.2.moved hvm⟩
theorem hs_Z.kept {E : jE} {U : State} {H H1 : Heap} (h : hs_Z E U H) (hq : ∀ a : Nat, a < H.size → ¬ hs_A E a → H1[a]? = H[a]?) : hs_Z E U H1 := ⟨h.1.kept hq, h.2.1.kept hq, h.2.2.1.kept hq, h.2.2.2.1.kept hq, h.2.2.2.2.kept hq⟩
theorem hs_ws_at {E : jE} {s : hS} {a : Nat} (h1 : E.2.1 ≤ a) (h2 : a < s.1) : (hs_ws E s)[a - E.2.1]? = some (a, hs_pic E s a) := by
  unfold hs_ws
  rw [List.getElem?_map, List.getElem?_range' (by omega)]
  simp
  constructor <;> (try congr 1) <;> omega
theorem hs_ws_mem {E : jE} {s : hS} {k : Nat} {q : Nat × va_E} (h : (hs_ws E s)[k]? = some q) : q.1 = E.2.1 + k ∧ E.2.1 + k < s.1 ∧ q.2 = hs_pic E s q.1 := by
  unfold hs_ws at h
  rw [List.getElem?_map] at h
  by_cases hk : k < s.1 - E.2.1
  · rw [List.getElem?_range' hk] at h
    simp at h
    subst h
    exact ⟨rfl, by omega, rfl⟩
  · rw [List.getElem?_eq_none (by simp; omega)] at h
    cases h
theorem hs_D (E : jE) (s : hS) : va_D (hs_A E) (hs_ws E s) := by
  refine ⟨fun i j p q hi hj e => ?_, fun k q hk => ?_⟩
  · have h1 := (hs_ws_mem hi).1
    have h2 := (hs_ws_mem hj).1
    omega
  · have h1 := (hs_ws_mem hk).1
    show E.2.1 ≤ q.1
    omega
theorem hs_ws_set {E : jE} {s s' : hS} {a : Nat} {e : va_E} (h1 : E.2.1 ≤ a) (h2 : a < s.1) (hn : s'.1 = s.1) (he : hs_pic E s' a = e) (ho : ∀ b, b ≠ a → hs_pic E s' b = hs_pic E s b) : (hs_ws E s).set (a - E.2.1) (a, e) = hs_ws E s' := by
  apply List.ext_getElem?
  intro k
  by_cases hk : k = a - E.2.1
  · subst hk
    rw [hs_ws_at h1 (by rw [hn]; exact h2), he]
    rw [List.getElem?_set_self]
    unfold hs_ws
    simp
    omega
  · rw [List.getElem?_set_ne (Ne.symm hk)]
    unfold hs_ws
    rw [List.getElem?_map, List.getElem?_map, hn]
    by_cases hl : k < s.1 - E.2.1
    · rw [List.getElem?_range' hl]
      simp
      rw [ho]
      omega
    · rw [List.getElem?_eq_none (by simp; omega)]
      rfl
theorem hs_ws_push {E : jE} {s s' : hS} {e : va_E} (h1 : E.2.1 ≤ s.1) (hn : s'.1 = s.1 + 1) (he : hs_pic E s' s.1 = e) (ho : ∀ b, b < s.1 → hs_pic E s' b = hs_pic E s b) : hs_ws E s ++ [(s.1, e)] = hs_ws E s' := by
  unfold hs_ws
  rw [hn, show s.1 + 1 - E.2.1 = (s.1 - E.2.1) + 1 by omega, List.range'_concat, List.map_append]
  have e1 : E.2.1 + 1 * (s.1 - E.2.1) = s.1 := by omega
  rw [e1]
  congr 1
  · apply List.map_congr_left
    intro b hb
    rw [ho]
    have := List.mem_range'_1.mp hb
    omega
  · simp [he]
theorem hs_in {E : jE} {s : hS} {H : Heap} (h : hs_H E s H) {a c : Nat} (hc : (s.2.2.1 a).1 = c) (h15 : c < 15) : (hs_ws E s)[a - E.2.1]? = some (a, hs_pic E s a) := by
  obtain ⟨h1, h2⟩ := h.2.2.2 a (by rw [hc]; exact h15)
  exact hs_ws_at h1 h2
end
section
/-- a method: its class, its bytes, its locals, what it returns, its name, frames and words below it -/
abbrev jM : Type := String × ByteArray × Nat × Option FieldType × String × Nat × Nat
def tbG : List Cond := lw_tbl.filter goodWord
theorem tbG_in {w : Cond} (h : w ∈ lw_tbl) (hg : goodWord w = true) : w ∈ tbG := List.mem_filter.mpr ⟨h, hg⟩
theorem tbG_good : GoodIn tbG tbG := fun w hw => ⟨hw, good_of_word (List.mem_filter.mp hw).2⟩
def jCx (E : jE) (M : jM) (p : Program) (R : Room) (s0 : State) (m : MethodId) (args : Array Value) (meth : Method) (c : Code) : Prop :=
  p.tables.exec = Jvm.exec ∧ c.code = M.2.1 ∧ meth.sig.returnType = M.2.2.2.1 ∧ s0.vm.findClass M.1 = some m.cls ∧ (∀ w ∈ tbG, w.before args s0 = true) ∧ meth.locks = false ∧ c.maxLocals = M.2.2.1 ∧ (M.2.2.2.2.2.1 ≤ R.frames ∧ M.2.2.2.2.2.2 ≤ R.locals) ∧ meth.name = M.2.2.2.2.1 ∧ hs_T E s0 ∧ hs_Z E s0 s0.heap ∧ E.2.1 ≤ s0.heap.size
def jQ (E : jE) (v : Option Value) (t : hS) : Array Value → State → Outcome → State → Prop := fun _ st o u => o = .returned v ∧ hs_W E t u ∧ va_F (hs_A E) st u
def J {α : Type} (E : jE) (M : jM) (cv : α → Option Value) (pc : Nat) (ls : List (Nat × Value)) (st : List Value) (s : hS) (r : α × hS) : Prop :=
  hs_le s r.2 ∧ ∀ (p : Program) (e : Env) (R : Room) (s0 : State) (m : MethodId) (args : Array Value) (below : List Frame) (meth : Method) (c : Code) (H : Heap) (locs : List Loc) (cells slots : Nat) (lsA : Array Slot),
    jCx E M p R s0 m args meth c → hs_H E s H → va_S (hs_A E) s0.heap H locs → cells + (r.2.1 - s.1) ≤ R.cells → slots + (r.2.2.1 - s.2.1) ≤ R.slots → lv_has lsA M.2.2.1 ls →
    W p E.1 e R s0 m args below meth c H locs cells slots (MQ below (jQ E (cv r.1) r.2) args s0 (cells + (r.2.1 - s.1)) (slots + (r.2.2.1 - s.2.1)) (hs_A E)) (F0 m pc lsA st)
def Jo {α : Type} (E : jE) (M : jM) (cv : α → Option Value) (pc : Nat) (ls : List (Nat × Value)) (st : List Value) (s : hS) (o : Option (α × hS)) : Prop := ∀ r, o = some r → J E M cv pc ls st s r
def dI (cc : ByteArray) (pc q : Nat) (i : Instr) (n : Nat) : Prop := decode cc pc = .ok (i, n) ∧ pc + n = q
def cvI (v : Int32) : Option Value := some (.int v)
def cvV (_ : Unit) : Option Value := none
def cvR (a : Nat) : Option Value := some (.ref a)
section JR
variable {α : Type} {E : jE} {M : jM} {cv : α → Option Value} {pc q : Nat} {ls ls' : List (Nat × Value)} {st : List Value} {s : hS} {o : Option (α × hS)}
theorem J.pure {pc' : Nat} {ls' : List (Nat × Value)} {st' : List Value} {r : α × hS} (h : ∀ (p : Program) (e : Env) (R : Room) (s0 : State) (m : MethodId) (args : Array Value) (below : List Frame) (meth : Method) (c : Code) (H : Heap) (locs : List Loc) (cells slots : Nat) (lsA : Array Slot) (Q : State → Prop),
    jCx E M p R s0 m args meth c → va_S (hs_A E) s0.heap H locs → lv_has lsA M.2.2.1 ls → cells ≤ R.cells → slots ≤ R.slots → (∀ lsB, lv_has lsB M.2.2.1 ls' → W p E.1 e R s0 m args below meth c H locs cells slots Q (F0 m pc' lsB st')) → W p E.1 e R s0 m args below meth c H locs cells slots Q (F0 m pc lsA st))
    (k : J E M cv pc' ls' st' s r) : J E M cv pc ls st s r :=
  ⟨k.1, fun p e R s0 m args below meth c H locs cells slots lsA C hH hS h1 h2 hl => h p e R s0 m args below meth c H locs cells slots lsA _ C hS hl (by omega) (by omega) fun lsB hlB => k.2 p e R s0 m args below meth c H locs cells slots lsB C hH hS h1 h2 hlB⟩
theorem Jo.pure {pc' : Nat} {ls' : List (Nat × Value)} {st' : List Value} (h : ∀ (p : Program) (e : Env) (R : Room) (s0 : State) (m : MethodId) (args : Array Value) (below : List Frame) (meth : Method) (c : Code) (H : Heap) (locs : List Loc) (cells slots : Nat) (lsA : Array Slot) (Q : State → Prop),
    jCx E M p R s0 m args meth c → va_S (hs_A E) s0.heap H locs → lv_has lsA M.2.2.1 ls → cells ≤ R.cells → slots ≤ R.slots → (∀ lsB, lv_has lsB M.2.2.1 ls' → W p E.1 e R s0 m args below meth c H locs cells slots Q (F0 m pc' lsB st')) → W p E.1 e R s0 m args below meth c H locs cells slots Q (F0 m pc lsA st))
    (k : Jo E M cv pc' ls' st' s o) : Jo E M cv pc ls st s o := fun r hr => J.pure h (k r hr)
theorem Jo_none : Jo E M cv pc ls st s (none : Option (α × hS)) := fun r h => by cases h
theorem Jo_sub (ks : List Nat) (hl : lv_pick ls ks = ls') (k : Jo E M cv pc ls' st s o) : Jo E M cv pc ls st s o := fun r hr => J.pure (fun _ _ _ _ _ _ _ _ _ _ _ _ _ lsA _ _ _ hl0 _ _ kk => kk lsA (lv_sub hl0 ks hl)) (k r hr)
theorem Jo_iconst {n : Int} {v : Int32} (hd : dI M.2.1 pc q (.iconst n) 1) (hv : Int32.ofInt n = v) (k : Jo E M cv q ls (.int v :: st) s o) : Jo E M cv pc ls st s o := by
  obtain ⟨hd, rfl⟩ := hd
  exact Jo.pure (fun _ _ _ _ _ _ _ _ _ _ _ _ _ lsA _ C _ hl0 _ _ kk => lv_iconst C.1 C.2.1 hd hv (kk lsA hl0)) k
theorem Jo_bipush {n : Int} {v : Int32} (hd : dI M.2.1 pc q (.bipush n) 2) (hv : (Int8.ofInt n).toInt32 = v) (k : Jo E M cv q ls (.int v :: st) s o) : Jo E M cv pc ls st s o := by
  obtain ⟨hd, rfl⟩ := hd
  exact Jo.pure (fun _ _ _ _ _ _ _ _ _ _ _ _ _ lsA _ C _ hl0 _ _ kk => lv_bipush C.1 C.2.1 hd hv (kk lsA hl0)) k
theorem Jo_sipush {n : Int} {v : Int32} (hd : dI M.2.1 pc q (.sipush n) 3) (hv : (Int16.ofInt n).toInt32 = v) (k : Jo E M cv q ls (.int v :: st) s o) : Jo E M cv pc ls st s o := by
  obtain ⟨hd, rfl⟩ := hd
  exact Jo.pure (fun _ _ _ _ _ _ _ _ _ _ _ _ _ lsA _ C _ hl0 _ _ kk => lv_sipush C.1 C.2.1 hd hv (kk lsA hl0)) k
theorem Jo_ldc {i : Nat} {v : Int32} (hd : dI M.2.1 pc q (.ldc i) 2) (hw : Cond.constant M.1 i v ∈ tbG) (k : Jo E M cv q ls (.int v :: st) s o) : Jo E M cv pc ls st s o := by
  obtain ⟨hd, rfl⟩ := hd
  exact Jo.pure (fun _ _ _ _ _ _ _ _ _ _ _ _ _ lsA _ C _ hl0 _ _ kk => lv_ldc C.1 C.2.1 C.2.2.2.1 (C.2.2.2.2.1 _ hw) hd (kk lsA hl0)) k
theorem Jo_ldcw {i : Nat} {v : Int32} (hd : dI M.2.1 pc q (.ldc_w i) 3) (hw : Cond.constant M.1 i v ∈ tbG) (k : Jo E M cv q ls (.int v :: st) s o) : Jo E M cv pc ls st s o := by
  obtain ⟨hd, rfl⟩ := hd
  exact Jo.pure (fun _ _ _ _ _ _ _ _ _ _ _ _ _ lsA _ C _ hl0 _ _ kk => lv_ldcw C.1 C.2.1 C.2.2.2.1 (C.2.2.2.2.1 _ hw) hd (kk lsA hl0)) k
theorem Jo_iloadn {j : Fin 4} {i : Nat} {x : Int32} (k0 : Nat) (hd : dI M.2.1 pc q (.iload_n j) 1) (hi : (j : Nat) = i) (hk : ls[k0]? = some (i, .int x)) (k : Jo E M cv q ls (.int x :: st) s o) : Jo E M cv pc ls st s o := by
  obtain ⟨hd, rfl⟩ := hd
  exact Jo.pure (fun _ _ _ _ _ _ _ _ _ _ _ _ _ lsA _ C _ hl0 _ _ kk => lv_iload_n C.1 C.2.1 hd hi (lv_at hl0 k0 hk) (kk lsA hl0)) k
theorem Jo_iload {i : Nat} {x : Int32} (k0 : Nat) (hd : dI M.2.1 pc q (.iload i) 2) (hk : ls[k0]? = some (i, .int x)) (k : Jo E M cv q ls (.int x :: st) s o) : Jo E M cv pc ls st s o := by
  obtain ⟨hd, rfl⟩ := hd
  exact Jo.pure (fun _ _ _ _ _ _ _ _ _ _ _ _ _ lsA _ C _ hl0 _ _ kk => lv_iload C.1 C.2.1 hd (lv_at hl0 k0 hk) (kk lsA hl0)) k
theorem Jo_aloadn {j : Fin 4} {i a : Nat} (k0 : Nat) (hd : dI M.2.1 pc q (.aload_n j) 1) (hi : (j : Nat) = i) (hk : ls[k0]? = some (i, .ref a)) (k : Jo E M cv q ls (.ref a :: st) s o) : Jo E M cv pc ls st s o := by
  obtain ⟨hd, rfl⟩ := hd
  exact Jo.pure (fun _ _ _ _ _ _ _ _ _ _ _ _ _ lsA _ C _ hl0 _ _ kk => lv_aload_n C.1 C.2.1 hd hi (lv_at hl0 k0 hk) (kk lsA hl0)) k
theorem Jo_aload {i a : Nat} (k0 : Nat) (hd : dI M.2.1 pc q (.aload i) 2) (hk : ls[k0]? = some (i, .ref a)) (k : Jo E M cv q ls (.ref a :: st) s o) : Jo E M cv pc ls st s o := by
  obtain ⟨hd, rfl⟩ := hd
  exact Jo.pure (fun _ _ _ _ _ _ _ _ _ _ _ _ _ lsA _ C _ hl0 _ _ kk => lv_aload C.1 C.2.1 hd (lv_at hl0 k0 hk) (kk lsA hl0)) k
theorem Jo_istoren {j : Fin 4} {i : Nat} {x : Int32} (hd : dI M.2.1 pc q (.istore_n j) 1) (hi : (j : Nat) = i) (hn : i < M.2.2.1) (hl : (i, Value.int x) :: ls.filter (fun q => !(q.1 == i) && !(q.1 + 1 == i && q.2.category == 2)) = ls') (k : Jo E M cv q ls' st s o) : Jo E M cv pc ls (.int x :: st) s o := by
  obtain ⟨hd, rfl⟩ := hd
  exact Jo.pure (fun _ _ _ _ _ _ _ _ _ _ _ _ _ lsA _ C _ hl0 _ _ kk => lv_istore_n C.1 C.2.1 hd hi hl0 hn hl kk) k
theorem Jo_istore {i : Nat} {x : Int32} (hd : dI M.2.1 pc q (.istore i) 2) (hn : i < M.2.2.1) (hl : (i, Value.int x) :: ls.filter (fun q => !(q.1 == i) && !(q.1 + 1 == i && q.2.category == 2)) = ls') (k : Jo E M cv q ls' st s o) : Jo E M cv pc ls (.int x :: st) s o := by
  obtain ⟨hd, rfl⟩ := hd
  exact Jo.pure (fun _ _ _ _ _ _ _ _ _ _ _ _ _ lsA _ C _ hl0 _ _ kk => lv_istore C.1 C.2.1 hd hl0 hn hl kk) k
theorem Jo_astoren {j : Fin 4} {i a : Nat} (hd : dI M.2.1 pc q (.astore_n j) 1) (hi : (j : Nat) = i) (hn : i < M.2.2.1) (hl : (i, Value.ref a) :: ls.filter (fun q => !(q.1 == i) && !(q.1 + 1 == i && q.2.category == 2)) = ls') (k : Jo E M cv q ls' st s o) : Jo E M cv pc ls (.ref a :: st) s o := by
  obtain ⟨hd, rfl⟩ := hd
  exact Jo.pure (fun _ _ _ _ _ _ _ _ _ _ _ _ _ lsA _ C _ hl0 _ _ kk => lv_astore_n C.1 C.2.1 hd hi hl0 hn hl kk) k
theorem Jo_astore {i a : Nat} (hd : dI M.2.1 pc q (.astore i) 2) (hn : i < M.2.2.1) (hl : (i, Value.ref a) :: ls.filter (fun q => !(q.1 == i) && !(q.1 + 1 == i && q.2.category == 2)) = ls') (k : Jo E M cv q ls' st s o) : Jo E M cv pc ls (.ref a :: st) s o := by
  obtain ⟨hd, rfl⟩ := hd
  exact Jo.pure (fun _ _ _ _ _ _ _ _ _ _ _ _ _ lsA _ C _ hl0 _ _ kk => lv_astore C.1 C.2.1 hd hl0 hn hl kk) k
theorem Jo_iinc {i : Nat} {n : Int} {x v : Int32} (k0 : Nat) (hd : dI M.2.1 pc q (.iinc i n) 3) (hk : ls[k0]? = some (i, .int x)) (hv : x + Int32.ofInt n = v) (hn : i < M.2.2.1) (hl : (i, Value.int v) :: ls.filter (fun q => !(q.1 == i) && !(q.1 + 1 == i && q.2.category == 2)) = ls') (k : Jo E M cv q ls' st s o) : Jo E M cv pc ls st s o := by
  obtain ⟨hd, rfl⟩ := hd
  exact Jo.pure (fun _ _ _ _ _ _ _ _ _ _ _ _ _ lsA _ C _ hl0 _ _ kk => lv_iinc C.1 C.2.1 hd hl0 hk hv hn hl kk) k
theorem Jo_iadd {x y : Int32} (hd : dI M.2.1 pc q .iadd 1) (k : Jo E M cv q ls (.int (x + y) :: st) s o) : Jo E M cv pc ls (.int y :: .int x :: st) s o := by
  obtain ⟨hd, rfl⟩ := hd
  exact Jo.pure (fun _ _ _ _ _ _ _ _ _ _ _ _ _ lsA _ C _ hl0 _ _ kk => lv_iadd C.1 C.2.1 hd (kk lsA hl0)) k
theorem Jo_isub {x y : Int32} (hd : dI M.2.1 pc q .isub 1) (k : Jo E M cv q ls (.int (x - y) :: st) s o) : Jo E M cv pc ls (.int y :: .int x :: st) s o := by
  obtain ⟨hd, rfl⟩ := hd
  exact Jo.pure (fun _ _ _ _ _ _ _ _ _ _ _ _ _ lsA _ C _ hl0 _ _ kk => lv_isub C.1 C.2.1 hd (kk lsA hl0)) k
theorem Jo_imul {x y : Int32} (hd : dI M.2.1 pc q .imul 1) (k : Jo E M cv q ls (.int (x * y) :: st) s o) : Jo E M cv pc ls (.int y :: .int x :: st) s o := by
  obtain ⟨hd, rfl⟩ := hd
  exact Jo.pure (fun _ _ _ _ _ _ _ _ _ _ _ _ _ lsA _ C _ hl0 _ _ kk => lv_imul C.1 C.2.1 hd (kk lsA hl0)) k
theorem Jo_iand {x y : Int32} (hd : dI M.2.1 pc q .iand 1) (k : Jo E M cv q ls (.int (x &&& y) :: st) s o) : Jo E M cv pc ls (.int y :: .int x :: st) s o := by
  obtain ⟨hd, rfl⟩ := hd
  exact Jo.pure (fun _ _ _ _ _ _ _ _ _ _ _ _ _ lsA _ C _ hl0 _ _ kk => lv_iand C.1 C.2.1 hd (kk lsA hl0)) k
theorem Jo_ior {x y : Int32} (hd : dI M.2.1 pc q .ior 1) (k : Jo E M cv q ls (.int (x ||| y) :: st) s o) : Jo E M cv pc ls (.int y :: .int x :: st) s o := by
  obtain ⟨hd, rfl⟩ := hd
  exact Jo.pure (fun _ _ _ _ _ _ _ _ _ _ _ _ _ lsA _ C _ hl0 _ _ kk => lv_ior C.1 C.2.1 hd (kk lsA hl0)) k
theorem Jo_ixor {x y : Int32} (hd : dI M.2.1 pc q .ixor 1) (k : Jo E M cv q ls (.int (x ^^^ y) :: st) s o) : Jo E M cv pc ls (.int y :: .int x :: st) s o := by
  obtain ⟨hd, rfl⟩ := hd
  exact Jo.pure (fun _ _ _ _ _ _ _ _ _ _ _ _ _ lsA _ C _ hl0 _ _ kk => lv_ixor C.1 C.2.1 hd (kk lsA hl0)) k
theorem Jo_ishl {x y : Int32} (hd : dI M.2.1 pc q .ishl 1) (k : Jo E M cv q ls (.int (x <<< (y &&& 31)) :: st) s o) : Jo E M cv pc ls (.int y :: .int x :: st) s o := by
  obtain ⟨hd, rfl⟩ := hd
  exact Jo.pure (fun _ _ _ _ _ _ _ _ _ _ _ _ _ lsA _ C _ hl0 _ _ kk => lv_ishl C.1 C.2.1 hd (kk lsA hl0)) k
theorem Jo_ishr {x y : Int32} (hd : dI M.2.1 pc q .ishr 1) (k : Jo E M cv q ls (.int (x >>> (y &&& 31)) :: st) s o) : Jo E M cv pc ls (.int y :: .int x :: st) s o := by
  obtain ⟨hd, rfl⟩ := hd
  exact Jo.pure (fun _ _ _ _ _ _ _ _ _ _ _ _ _ lsA _ C _ hl0 _ _ kk => lv_ishr C.1 C.2.1 hd (kk lsA hl0)) k
theorem Jo_idiv {x y : Int32} (hd : dI M.2.1 pc q .idiv 1) (k : Jo E M cv q ls (.int (x / y) :: st) s o) : Jo E M cv pc ls (.int y :: .int x :: st) s (if y = 0 then none else o) := by
  by_cases hy : y = 0
  · rw [if_pos hy]; exact Jo_none
  · rw [if_neg hy]
    obtain ⟨hd, rfl⟩ := hd
    exact Jo.pure (fun _ _ _ _ _ _ _ _ _ _ _ _ _ lsA _ C _ hl0 _ _ kk => lv_idiv C.1 C.2.1 hd hy (kk lsA hl0)) k
theorem Jo_irem {x y : Int32} (hd : dI M.2.1 pc q .irem 1) (k : Jo E M cv q ls (.int (x - x / y * y) :: st) s o) : Jo E M cv pc ls (.int y :: .int x :: st) s (if y = 0 then none else o) := by
  by_cases hy : y = 0
  · rw [if_pos hy]; exact Jo_none
  · rw [if_neg hy]
    obtain ⟨hd, rfl⟩ := hd
    exact Jo.pure (fun _ _ _ _ _ _ _ _ _ _ _ _ _ lsA _ C _ hl0 _ _ kk => lv_irem C.1 C.2.1 hd hy (kk lsA hl0)) k
theorem Jo_ineg {x : Int32} (hd : dI M.2.1 pc q .ineg 1) (k : Jo E M cv q ls (.int (-x) :: st) s o) : Jo E M cv pc ls (.int x :: st) s o := by
  obtain ⟨hd, rfl⟩ := hd
  exact Jo.pure (fun _ _ _ _ _ _ _ _ _ _ _ _ _ lsA _ C _ hl0 _ _ kk => lv_ineg C.1 C.2.1 hd (kk lsA hl0)) k
theorem Jo_iushr {x y : Int32} (hd : dI M.2.1 pc q .iushr 1) (k : Jo E M cv q ls (.int (x.toUInt32 >>> (y.toUInt32 &&& Int32.toUInt32 31)).toInt32 :: st) s o) : Jo E M cv pc ls (.int y :: .int x :: st) s o := by
  obtain ⟨hd, rfl⟩ := hd
  exact Jo.pure (fun _ _ _ _ _ _ _ _ _ _ _ _ _ lsA _ C _ hl0 _ _ kk => lv_iushr C.1 C.2.1 hd rfl (kk lsA hl0)) k
theorem Jo_i2b {x : Int32} (hd : dI M.2.1 pc q .i2b 1) (k : Jo E M cv q ls (.int x.toInt8.toInt32 :: st) s o) : Jo E M cv pc ls (.int x :: st) s o := by
  obtain ⟨hd, rfl⟩ := hd
  exact Jo.pure (fun _ _ _ _ _ _ _ _ _ _ _ _ _ lsA _ C _ hl0 _ _ kk => lv_i2b C.1 C.2.1 hd rfl (kk lsA hl0)) k
theorem Jo_i2s {x : Int32} (hd : dI M.2.1 pc q .i2s 1) (k : Jo E M cv q ls (.int x.toInt16.toInt32 :: st) s o) : Jo E M cv pc ls (.int x :: st) s o := by
  obtain ⟨hd, rfl⟩ := hd
  exact Jo.pure (fun _ _ _ _ _ _ _ _ _ _ _ _ _ lsA _ C _ hl0 _ _ kk => lv_i2s C.1 C.2.1 hd rfl (kk lsA hl0)) k
theorem Jo_i2c {x : Int32} (hd : dI M.2.1 pc q .i2c 1) (k : Jo E M cv q ls (.int (x.toUInt32 % 65536).toInt32 :: st) s o) : Jo E M cv pc ls (.int x :: st) s o := by
  obtain ⟨hd, rfl⟩ := hd
  exact Jo.pure (fun _ _ _ _ _ _ _ _ _ _ _ _ _ lsA _ C _ hl0 _ _ kk => lv_i2c C.1 C.2.1 hd rfl (kk lsA hl0)) k
theorem Jo_dup {v : Value} (hd : dI M.2.1 pc q .dup 1) (hv : v.category = 1) (k : Jo E M cv q ls (v :: v :: st) s o) : Jo E M cv pc ls (v :: st) s o := by
  obtain ⟨hd, rfl⟩ := hd
  exact Jo.pure (fun _ _ _ _ _ _ _ _ _ _ _ _ _ lsA _ C _ hl0 _ _ kk => lv_dup C.1 C.2.1 hd hv (kk lsA hl0)) k
theorem Jo_dup2 {v w : Value} (hd : dI M.2.1 pc q .dup2 1) (hv : v.category = 1) (hw : w.category = 1) (k : Jo E M cv q ls (v :: w :: v :: w :: st) s o) : Jo E M cv pc ls (v :: w :: st) s o := by
  obtain ⟨hd, rfl⟩ := hd
  exact Jo.pure (fun _ _ _ _ _ _ _ _ _ _ _ _ _ lsA _ C _ hl0 _ _ kk => lv_dup2_11 C.1 C.2.1 hd hv hw (kk lsA hl0)) k
theorem Jo_pop {v : Value} (hd : dI M.2.1 pc q .pop 1) (hv : v.category = 1) (k : Jo E M cv q ls st s o) : Jo E M cv pc ls (v :: st) s o := by
  obtain ⟨hd, rfl⟩ := hd
  exact Jo.pure (fun _ _ _ _ _ _ _ _ _ _ _ _ _ lsA _ C _ hl0 _ _ kk => lv_pop C.1 C.2.1 hd hv (kk lsA hl0)) k
theorem Jo_goto {off : Int} (tgt : Nat) (hd : decode M.2.1 pc = .ok (.goto off, 3)) (ht : (pc : Int) + off = (tgt : Int)) (k : Jo E M cv tgt ls st s o) : Jo E M cv pc ls st s o :=
  Jo.pure (fun _ _ _ _ _ _ _ _ _ _ _ _ _ lsA _ C _ hl0 _ _ kk => lv_goto C.1 C.2.1 hd ht (kk lsA hl0)) k
/-- a branch: two ways on, by a condition -/
theorem Jo.branch {c : Prop} [Decidable c] {st1 st2 : List Value} {q1 q2 : Nat} {o1 o2 : Option (α × hS)} (h : ∀ (p : Program) (e : Env) (R : Room) (s0 : State) (m : MethodId) (args : Array Value) (below : List Frame) (meth : Method) (cd : Code) (H : Heap) (locs : List Loc) (cells slots : Nat) (lsA : Array Slot) (Q : State → Prop),
    jCx E M p R s0 m args meth cd → (c → W p E.1 e R s0 m args below meth cd H locs cells slots Q (F0 m q1 lsA st1)) → (¬ c → W p E.1 e R s0 m args below meth cd H locs cells slots Q (F0 m q2 lsA st2)) → W p E.1 e R s0 m args below meth cd H locs cells slots Q (F0 m pc lsA st))
    (k1 : Jo E M cv q1 ls st1 s o1) (k2 : Jo E M cv q2 ls st2 s o2) : Jo E M cv pc ls st s (if c then o1 else o2) := by
  intro r hr
  by_cases hc : c
  · rw [if_pos hc] at hr
    have k := k1 r hr
    exact ⟨k.1, fun p e R s0 m args below meth cd H locs cells slots lsA C hH hS h1 h2 hl => h p e R s0 m args below meth cd H locs cells slots lsA _ C (fun _ => k.2 p e R s0 m args below meth cd H locs cells slots lsA C hH hS h1 h2 hl) (fun hn => absurd hc hn)⟩
  · rw [if_neg hc] at hr
    have k := k2 r hr
    exact ⟨k.1, fun p e R s0 m args below meth cd H locs cells slots lsA C hH hS h1 h2 hl => h p e R s0 m args below meth cd H locs cells slots lsA _ C (fun hn => absurd hn hc) (fun _ => k.2 p e R s0 m args below meth cd H locs cells slots lsA C hH hS h1 h2 hl)⟩
theorem ne_flip {x y : Int32} {A : Prop} (h : x = y → A) : ¬ ¬ x = y → A := fun hn => h (Decidable.not_not.mp hn)
theorem Jo_if_eq {x : Int32} {off : Int} {o1 o2 : Option (α × hS)} (tgt : Nat) (hd : decode M.2.1 pc = .ok (.ifCond .eq off, 3)) (ht : (pc : Int) + off = (tgt : Int)) (hq : pc + 3 = q) (k1 : Jo E M cv tgt ls st s o1) (k2 : Jo E M cv q ls st s o2) : Jo E M cv pc ls (.int x :: st) s (if x = 0 then o1 else o2) := by
  subst hq
  exact Jo.branch (fun _ _ _ _ _ _ _ _ _ _ _ _ _ _ _ C kt kf => lv_if_eq C.1 C.2.1 hd ht kt kf) k1 k2
theorem Jo_icmp_eq {x y : Int32} {off : Int} {o1 o2 : Option (α × hS)} (tgt : Nat) (hd : decode M.2.1 pc = .ok (.if_icmp .eq off, 3)) (ht : (pc : Int) + off = (tgt : Int)) (hq : pc + 3 = q) (k1 : Jo E M cv tgt ls st s o1) (k2 : Jo E M cv q ls st s o2) : Jo E M cv pc ls (.int y :: .int x :: st) s (if x = y then o1 else o2) := by
  subst hq
  exact Jo.branch (fun _ _ _ _ _ _ _ _ _ _ _ _ _ _ _ C kt kf => lv_icmp_eq C.1 C.2.1 hd ht kt kf) k1 k2
theorem Jo_if_ne {x : Int32} {off : Int} {o1 o2 : Option (α × hS)} (tgt : Nat) (hd : decode M.2.1 pc = .ok (.ifCond .ne off, 3)) (ht : (pc : Int) + off = (tgt : Int)) (hq : pc + 3 = q) (k1 : Jo E M cv q ls st s o1) (k2 : Jo E M cv tgt ls st s o2) : Jo E M cv pc ls (.int x :: st) s (if x = 0 then o1 else o2) := by
  subst hq
  exact Jo.branch (fun _ _ _ _ _ _ _ _ _ _ _ _ _ _ _ C kt kf => lv_if_ne C.1 C.2.1 hd ht kf kt) k1 k2
theorem Jo_icmp_ne {x y : Int32} {off : Int} {o1 o2 : Option (α × hS)} (tgt : Nat) (hd : decode M.2.1 pc = .ok (.if_icmp .ne off, 3)) (ht : (pc : Int) + off = (tgt : Int)) (hq : pc + 3 = q) (k1 : Jo E M cv q ls st s o1) (k2 : Jo E M cv tgt ls st s o2) : Jo E M cv pc ls (.int y :: .int x :: st) s (if x = y then o1 else o2) := by
  subst hq
  exact Jo.branch (fun _ _ _ _ _ _ _ _ _ _ _ _ _ _ _ C kt kf => lv_icmp_ne C.1 C.2.1 hd ht kf kt) k1 k2
theorem Jo_if_lt {x : Int32} {off : Int} {o1 o2 : Option (α × hS)} (tgt : Nat) (hd : decode M.2.1 pc = .ok (.ifCond .lt off, 3)) (ht : (pc : Int) + off = (tgt : Int)) (hq : pc + 3 = q) (k1 : Jo E M cv tgt ls st s o1) (k2 : Jo E M cv q ls st s o2) : Jo E M cv pc ls (.int x :: st) s (if x < 0 then o1 else o2) := by
  subst hq
  exact Jo.branch (fun _ _ _ _ _ _ _ _ _ _ _ _ _ _ _ C kt kf => lv_if_lt C.1 C.2.1 hd ht kt kf) k1 k2
theorem Jo_icmp_lt {x y : Int32} {off : Int} {o1 o2 : Option (α × hS)} (tgt : Nat) (hd : decode M.2.1 pc = .ok (.if_icmp .lt off, 3)) (ht : (pc : Int) + off = (tgt : Int)) (hq : pc + 3 = q) (k1 : Jo E M cv tgt ls st s o1) (k2 : Jo E M cv q ls st s o2) : Jo E M cv pc ls (.int y :: .int x :: st) s (if x < y then o1 else o2) := by
  subst hq
  exact Jo.branch (fun _ _ _ _ _ _ _ _ _ _ _ _ _ _ _ C kt kf => lv_icmp_lt C.1 C.2.1 hd ht kt kf) k1 k2
theorem Jo_if_ge {x : Int32} {off : Int} {o1 o2 : Option (α × hS)} (tgt : Nat) (hd : decode M.2.1 pc = .ok (.ifCond .ge off, 3)) (ht : (pc : Int) + off = (tgt : Int)) (hq : pc + 3 = q) (k1 : Jo E M cv tgt ls st s o1) (k2 : Jo E M cv q ls st s o2) : Jo E M cv pc ls (.int x :: st) s (if 0 ≤ x then o1 else o2) := by
  subst hq
  exact Jo.branch (fun _ _ _ _ _ _ _ _ _ _ _ _ _ _ _ C kt kf => lv_if_ge C.1 C.2.1 hd ht kt kf) k1 k2
theorem Jo_icmp_ge {x y : Int32} {off : Int} {o1 o2 : Option (α × hS)} (tgt : Nat) (hd : decode M.2.1 pc = .ok (.if_icmp .ge off, 3)) (ht : (pc : Int) + off = (tgt : Int)) (hq : pc + 3 = q) (k1 : Jo E M cv tgt ls st s o1) (k2 : Jo E M cv q ls st s o2) : Jo E M cv pc ls (.int y :: .int x :: st) s (if y ≤ x then o1 else o2) := by
  subst hq
  exact Jo.branch (fun _ _ _ _ _ _ _ _ _ _ _ _ _ _ _ C kt kf => lv_icmp_ge C.1 C.2.1 hd ht kt kf) k1 k2
theorem Jo_if_gt {x : Int32} {off : Int} {o1 o2 : Option (α × hS)} (tgt : Nat) (hd : decode M.2.1 pc = .ok (.ifCond .gt off, 3)) (ht : (pc : Int) + off = (tgt : Int)) (hq : pc + 3 = q) (k1 : Jo E M cv tgt ls st s o1) (k2 : Jo E M cv q ls st s o2) : Jo E M cv pc ls (.int x :: st) s (if 0 < x then o1 else o2) := by
  subst hq
  exact Jo.branch (fun _ _ _ _ _ _ _ _ _ _ _ _ _ _ _ C kt kf => lv_if_gt C.1 C.2.1 hd ht kt kf) k1 k2
theorem Jo_icmp_gt {x y : Int32} {off : Int} {o1 o2 : Option (α × hS)} (tgt : Nat) (hd : decode M.2.1 pc = .ok (.if_icmp .gt off, 3)) (ht : (pc : Int) + off = (tgt : Int)) (hq : pc + 3 = q) (k1 : Jo E M cv tgt ls st s o1) (k2 : Jo E M cv q ls st s o2) : Jo E M cv pc ls (.int y :: .int x :: st) s (if y < x then o1 else o2) := by
  subst hq
  exact Jo.branch (fun _ _ _ _ _ _ _ _ _ _ _ _ _ _ _ C kt kf => lv_icmp_gt C.1 C.2.1 hd ht kt kf) k1 k2
theorem Jo_if_le {x : Int32} {off : Int} {o1 o2 : Option (α × hS)} (tgt : Nat) (hd : decode M.2.1 pc = .ok (.ifCond .le off, 3)) (ht : (pc : Int) + off = (tgt : Int)) (hq : pc + 3 = q) (k1 : Jo E M cv tgt ls st s o1) (k2 : Jo E M cv q ls st s o2) : Jo E M cv pc ls (.int x :: st) s (if x ≤ 0 then o1 else o2) := by
  subst hq
  exact Jo.branch (fun _ _ _ _ _ _ _ _ _ _ _ _ _ _ _ C kt kf => lv_if_le C.1 C.2.1 hd ht kt kf) k1 k2
theorem Jo_icmp_le {x y : Int32} {off : Int} {o1 o2 : Option (α × hS)} (tgt : Nat) (hd : decode M.2.1 pc = .ok (.if_icmp .le off, 3)) (ht : (pc : Int) + off = (tgt : Int)) (hq : pc + 3 = q) (k1 : Jo E M cv tgt ls st s o1) (k2 : Jo E M cv q ls st s o2) : Jo E M cv pc ls (.int y :: .int x :: st) s (if x ≤ y then o1 else o2) := by
  subst hq
  exact Jo.branch (fun _ _ _ _ _ _ _ _ _ _ _ _ _ _ _ C kt kf => lv_icmp_le C.1 C.2.1 hd ht kt kf) k1 k2
end JR
end
section
def gI (s : hS) (a c k : Nat) : Option Int32 := if (s.2.2.1 a).1 = c then some (s.2.2.2.1 a k) else none
def gR (s : hS) (a c k : Nat) : Option Nat := if (s.2.2.1 a).1 = c then s.2.2.2.2 a k else none
def uI (s : hS) (a k : Nat) (v : Int32) : hS := (s.1, s.2.1, s.2.2.1, fun b j => if b = a ∧ j = k then v else s.2.2.2.1 b j, s.2.2.2.2)
def uR (s : hS) (a k : Nat) (v : Option Nat) : hS := (s.1, s.2.1, s.2.2.1, s.2.2.2.1, fun b j => if b = a ∧ j = k then v else s.2.2.2.2 b j)
def pI (s : hS) (a c k : Nat) (v : Int32) : Option hS := if (s.2.2.1 a).1 = c then some (uI s a k v) else none
def pZ (s : hS) (a c k : Nat) (v : Int32) : Option hS := if (s.2.2.1 a).1 = c ∧ (v = 0 ∨ v = 1) then some (uI s a k v) else none
def pR (s : hS) (a c k b : Nat) : Option hS := if (s.2.2.1 a).1 = c then some (uR s a k (some b)) else none
def aI (s : hS) (a t : Nat) (i : Int32) : Option Int32 := if (s.2.2.1 a).1 = t ∧ ¬ (i < 0 ∨ (s.2.2.1 a).2 ≤ i.toNatClampNeg) then some (s.2.2.2.1 a i.toNatClampNeg) else none
def aR (s : hS) (a t : Nat) (i : Int32) : Option Nat := if (s.2.2.1 a).1 = t ∧ ¬ (i < 0 ∨ (s.2.2.1 a).2 ≤ i.toNatClampNeg) then s.2.2.2.2 a i.toNatClampNeg else none
def aL (s : hS) (a t : Nat) : Option Int32 := if (s.2.2.1 a).1 = t then some (Int32.ofNat (s.2.2.1 a).2) else none
def sI (s : hS) (a t : Nat) (i x : Int32) : Option hS := if (s.2.2.1 a).1 = t ∧ ¬ (i < 0 ∨ (s.2.2.1 a).2 ≤ i.toNatClampNeg) then some (uI s a i.toNatClampNeg x) else none
def sR (s : hS) (a t : Nat) (i : Int32) (b c : Nat) : Option hS := if (s.2.2.1 a).1 = t ∧ (s.2.2.1 b).1 = c ∧ ¬ (i < 0 ∨ (s.2.2.1 a).2 ≤ i.toNatClampNeg) then some (uR s a i.toNatClampNeg (some b)) else none
def nO (s : hS) (c N : Nat) : hS := (s.1 + 1, s.2.1 + N, fun b => if b = s.1 then (c, N) else s.2.2.1 b, fun b j => if b = s.1 then 0 else s.2.2.2.1 b j, fun b j => if b = s.1 then none else s.2.2.2.2 b j)
def nA (s : hS) (t : Nat) (n : Int32) : Option hS := if ¬ n < 0 ∧ n.toNatClampNeg ≤ 100000 then some (nO s t n.toNatClampNeg) else none
def cV {α : Type} (s : hS) (a c : Nat) (o : Option α) : Option α := if (s.2.2.1 a).1 = c then o else none
theorem hs_fs_congr {s t : hS} {b : Nat} (h1 : t.2.2.2.1 b = s.2.2.2.1 b) (h2 : t.2.2.2.2 b = s.2.2.2.2 b) (c : Nat) : hs_fs t b c = hs_fs s b c := by
  unfold hs_fs
  rw [h1, h2]
theorem hs_pic_congr {E : jE} {s t : hS} {b : Nat} (h0 : t.2.2.1 b = s.2.2.1 b) (h1 : t.2.2.2.1 b = s.2.2.2.1 b) (h2 : t.2.2.2.2 b = s.2.2.2.2 b) : hs_pic E t b = hs_pic E s b := by
  unfold hs_pic
  rw [h0, hs_fs_congr h1 h2, h1, h2]
theorem uI_I {s : hS} {a k b : Nat} {v : Int32} (h : b ≠ a) : (uI s a k v).2.2.2.1 b = s.2.2.2.1 b := by
  funext j
  simp [uI, h]
theorem uR_R {s : hS} {a k b : Nat} {v : Option Nat} (h : b ≠ a) : (uR s a k v).2.2.2.2 b = s.2.2.2.2 b := by
  funext j
  simp [uR, h]
theorem uI_self (s : hS) (a k : Nat) (v : Int32) : (uI s a k v).2.2.2.1 a = upd (s.2.2.2.1 a) k v := by
  funext j
  simp [uI, upd]
theorem uR_self (s : hS) (a k : Nat) (v : Option Nat) : (uR s a k v).2.2.2.2 a = va_up (s.2.2.2.2 a) k v := by
  funext j
  simp [uR, va_up]
theorem hs_H.at {E : jE} {s : hS} {H : Heap} (h : hs_H E s H) {a c : Nat} (hc : (s.2.2.1 a).1 = c) (h15 : c < 15) : va_at E.2.2.1 classes (a, hs_pic E s a) H := h.2.2.1 _ _ (hs_in h hc h15)
/-- one cell is written -/
theorem hs_H.put {E : jE} {s t : hS} {H H1 : Heap} {a : Nat} (h : hs_H E s H) (hn : t.1 = s.1) (hk : ∀ b, (t.2.2.1 b).1 = (s.2.2.1 b).1) (ho : ∀ b, b ≠ a → hs_pic E t b = hs_pic E s b) (z : H1.size = H.size) (oq : ∀ q : Nat, q ≠ a → H1[q]? = H[q]?) (ha : va_at E.2.2.1 classes (a, hs_pic E t a) H1) : hs_H E t H1 := by
  refine ⟨by rw [hn]; exact h.1, by rw [z, hn]; exact h.2.1, ?_, fun b hb => by rw [hn]; exact h.2.2.2 b (by rw [← hk b]; exact hb)⟩
  intro k q hq
  obtain ⟨e1, e2, e3⟩ := hs_ws_mem hq
  obtain ⟨b, e⟩ := q
  dsimp only at e1 e2 e3
  subst e3
  by_cases hb : b = a
  · subst hb
    exact ha
  · rw [ho b hb]
    have h3 := h.2.2.1 (b - E.2.1) _ (hs_ws_at (E := E) (s := s) (a := b) (by omega) (by omega))
    exact h3.kept (oq b hb)
/-- one cell is made -/
theorem hs_H.push {E : jE} {s : hS} {H H1 : Heap} {c N : Nat} (h : hs_H E s H) (z : H1.size = H.size + 1) (oq : ∀ q : Nat, q < H.size → H1[q]? = H[q]?) (ha : va_at E.2.2.1 classes (s.1, hs_pic E (nO s c N) s.1) H1) : hs_H E (nO s c N) H1 := by
  have hs := h.1
  have hz := h.2.1
  refine ⟨by show E.2.1 ≤ s.1 + 1; omega, by show H1.size = s.1 + 1; omega, ?_, fun b hb => ?_⟩
  · intro k q hq
    obtain ⟨e1, e2, e3⟩ := hs_ws_mem hq
    obtain ⟨b, e⟩ := q
    dsimp only at e1 e2 e3
    subst e3
    by_cases hb : b = s.1
    · subst hb
      exact ha
    · have e2' : E.2.1 + k < s.1 + 1 := e2
      have hp : hs_pic E (nO s c N) b = hs_pic E s b := hs_pic_congr (by simp [nO, hb]) (by funext j; simp [nO, hb]) (by funext j; simp [nO, hb])
      rw [hp]
      have h3 := h.2.2.1 (b - E.2.1) _ (hs_ws_at (E := E) (s := s) (a := b) (by omega) (by omega))
      exact h3.kept (oq b (by omega))
  · by_cases hb2 : b = s.1
    · subst hb2
      exact ⟨hs, by show s.1 < s.1 + 1; omega⟩
    · have h4 : (s.2.2.1 b).1 < 15 := by simpa [nO, hb2] using hb
      have h5 := h.2.2.2 b h4
      exact ⟨h5.1, by show b < s.1 + 1; omega⟩
/-- what a field's tables say -/
def fF (c k : Nat) (C : String) (T : u_T) (N : Nat) (ty : Nat → FieldType) : Prop := classes[c]? = some (C, T, N) ∧ k < N ∧ (∀ w ∈ u_ws C T N, w ∈ tbG) ∧ (∀ k, k < N → parseFieldDescriptor (T k).2.2.1 = some (ty k)) ∧ (∀ a, a < N → ∀ b, b < N → a ≠ b → (T a).2.1 ≠ (T b).2.1) ∧ c < 8
def fI (c k : Nat) : Prop := (∀ (s : hS) (a : Nat), (hs_fs s a c)[k]? = some (.int (s.2.2.2.1 a k))) ∧ ∀ (s : hS) (a : Nat) (v : Int32), hs_fs (uI s a k v) a c = (hs_fs s a c).set k (.int v)
def fR (c k : Nat) : Prop := (∀ (s : hS) (a : Nat), (hs_fs s a c)[k]? = some (va_rf (s.2.2.2.2 a k))) ∧ ∀ (s : hS) (a : Nat) (v : Option Nat), hs_fs (uR s a k v) a c = (hs_fs s a c).set k (va_rf v)
theorem hs_picO {E : jE} {s : hS} {a c : Nat} (h : (s.2.2.1 a).1 = c) (hc : c < 8) : hs_pic E s a = .inr (c, hs_fs s a c) := by
  unfold hs_pic
  rw [h, if_pos hc]
theorem hs_picI {E : jE} {s : hS} {a c : Nat} (h : (s.2.2.1 a).1 = c) (h8 : ¬ c < 8) (hc : c < 12) : hs_pic E s a = .inl (E.2.2.2.1 c, (s.2.2.1 a).2, .inl (s.2.2.2.1 a)) := by
  unfold hs_pic
  rw [h, if_neg h8, if_pos hc]
theorem hs_picR {E : jE} {s : hS} {a c : Nat} (h : (s.2.2.1 a).1 = c) (hc : ¬ c < 12) : hs_pic E s a = .inl (E.2.2.2.1 c, (s.2.2.1 a).2, .inr (.inr (.inr (.inr (s.2.2.2.2 a))))) := by
  unfold hs_pic
  rw [h, if_neg (by omega), if_neg hc]
section JH
variable {α : Type} {E : jE} {M : jM} {cv : α → Option Value} {pc q : Nat} {ls ls' : List (Nat × Value)} {st : List Value} {s : hS} {o : Option (α × hS)}
/-- a read of the heap -/
theorem Jo.read {st' : List Value} (h : ∀ (p : Program) (e : Env) (R : Room) (s0 : State) (m : MethodId) (args : Array Value) (below : List Frame) (meth : Method) (c : Code) (H : Heap) (locs : List Loc) (cells slots : Nat) (lsA : Array Slot) (Q : State → Prop),
    jCx E M p R s0 m args meth c → hs_H E s H → va_S (hs_A E) s0.heap H locs → W p E.1 e R s0 m args below meth c H locs cells slots Q (F0 m q lsA st') → W p E.1 e R s0 m args below meth c H locs cells slots Q (F0 m pc lsA st))
    (k : Jo E M cv q ls st' s o) : Jo E M cv pc ls st s o := fun r hr =>
  ⟨(k r hr).1, fun p e R s0 m args below meth c H locs cells slots lsA C hH hS h1 h2 hl => h p e R s0 m args below meth c H locs cells slots lsA _ C hH hS ((k r hr).2 p e R s0 m args below meth c H locs cells slots lsA C hH hS h1 h2 hl)⟩
/-- a write -/
theorem Jo.write {s' : hS} {st' : List Value} (hn : s'.1 = s.1) (hw : s'.2.1 = s.2.1) (h : ∀ (p : Program) (e : Env) (R : Room) (s0 : State) (m : MethodId) (args : Array Value) (below : List Frame) (meth : Method) (c : Code) (H : Heap) (locs : List Loc) (cells slots : Nat) (lsA : Array Slot) (Q : State → Prop),
    jCx E M p R s0 m args meth c → hs_H E s H → va_S (hs_A E) s0.heap H locs → lsA.size = M.2.2.1 → (∀ (H1 : Heap) (locs1 : List Loc), hs_H E s' H1 → va_S (hs_A E) s0.heap H1 locs1 → W p E.1 e R s0 m args below meth c H1 locs1 cells slots Q (F0 m q lsA st')) → W p E.1 e R s0 m args below meth c H locs cells slots Q (F0 m pc lsA st))
    (k : Jo E M cv q ls st' s' o) : Jo E M cv pc ls st s o := by
  intro r hr
  have hk := k r hr
  refine ⟨⟨by rw [← hn]; exact hk.1.1, by rw [← hw]; exact hk.1.2⟩, fun p e R s0 m args below meth c H locs cells slots lsA C hH hS h1 h2 hl => ?_⟩
  refine h p e R s0 m args below meth c H locs cells slots lsA _ C hH hS hl.1 fun H1 locs1 hH1 hS1 => ?_
  have h3 := hk.2 p e R s0 m args below meth c H1 locs1 cells slots lsA C hH1 hS1 (by rw [hn]; exact h1) (by rw [hw]; exact h2) hl
  rw [hn, hw] at h3
  exact h3
theorem Jo_getI {c k idx a : Nat} {C : String} {T : u_T} {N : Nat} {ty : Nat → FieldType} {g : Int32 → Option (α × hS)} (hf : fF c k C T N ty) (hfi : fI c k) (hd : dI M.2.1 pc q (.getfield idx) 3) (hl : Cond.fieldLink M.1 idx (T k).1 (T k).2.1 (T k).2.2.1 ∈ tbG)
    (kk : ∀ x, Jo E M cv q ls (.int x :: st) s (g x)) : Jo E M cv pc ls (.ref a :: st) s ((gI s a c k).bind g) := by
  by_cases hc : (s.2.2.1 a).1 = c
  · obtain ⟨hd, rfl⟩ := hd
    rw [show gI s a c k = some (s.2.2.2.1 a k) by simp [gI, hc]]
    refine Jo.read (fun p e R s0 m args below meth cd H locs cells slots lsA Q C hH hS k9 => ?_) (kk _)
    exact va_get (v := .int (s.2.2.2.1 a k)) C.1 C.2.1 C.2.2.2.2.1 hf.2.2.1 C.2.2.2.1 C.2.2.2.2.2.2.2.2.2.1.1 hH.2.2.1 (a - E.2.1) (by rw [hs_in hH hc (by have := hf.2.2.2.2.2; omega), hs_picO hc hf.2.2.2.2.2]) hf.1 k hf.2.1 (C.2.2.2.2.1 _ hl) (fun _ h => h) (hfi.1 s a) hd k9
  · rw [show gI s a c k = none by simp [gI, hc]]
    exact Jo_none
theorem Jo_getR {c k idx a : Nat} {C : String} {T : u_T} {N : Nat} {ty : Nat → FieldType} {g : Nat → Option (α × hS)} (hf : fF c k C T N ty) (hfi : fR c k) (hd : dI M.2.1 pc q (.getfield idx) 3) (hl : Cond.fieldLink M.1 idx (T k).1 (T k).2.1 (T k).2.2.1 ∈ tbG)
    (kk : ∀ x, Jo E M cv q ls (.ref x :: st) s (g x)) : Jo E M cv pc ls (.ref a :: st) s ((gR s a c k).bind g) := by
  by_cases hc : (s.2.2.1 a).1 = c
  · obtain ⟨hd, rfl⟩ := hd
    rw [show gR s a c k = s.2.2.2.2 a k by simp [gR, hc]]
    cases hx : s.2.2.2.2 a k with
    | none => exact Jo_none
    | some b =>
      refine Jo.read (fun p e R s0 m args below meth cd H locs cells slots lsA Q C hH hS k9 => ?_) (kk b)
      exact va_get (v := .ref b) C.1 C.2.1 C.2.2.2.2.1 hf.2.2.1 C.2.2.2.1 C.2.2.2.2.2.2.2.2.2.1.1 hH.2.2.1 (a - E.2.1) (by rw [hs_in hH hc (by have := hf.2.2.2.2.2; omega), hs_picO hc hf.2.2.2.2.2]) hf.1 k hf.2.1 (C.2.2.2.2.1 _ hl) (fun _ h => h) (by rw [hfi.1 s a, hx]; rfl) hd k9
  · rw [show gR s a c k = none by simp [gR, hc]]
    exact Jo_none
/-- a field's store, over the machine -/
theorem put_core {p : Program} {e : Env} {R : Room} {s0 : State} {m : MethodId} {args : Array Value} {below : List Frame} {meth : Method} {cd : Code} {H : Heap} {locs : List Loc} {cells slots : Nat} {lsA : Array Slot} {Q : State → Prop} {c k idx a : Nat} {C : String} {T : u_T} {N : Nat} {ty : Nat → FieldType} {v : Value} {s' : hS}
    (hf : fF c k C T N ty) (hfin : (T k).2.2.2 = false ∨ ((T k).2.2.2 = true ∧ M.2.2.2.2.1 = "<init>" ∧ (T k).1 = M.1)) (hd : decode M.2.1 pc = .ok (.putfield idx, 3)) (hl : Cond.fieldLink M.1 idx (T k).1 (T k).2.1 (T k).2.2.1 ∈ tbG) (hn : narrow (ty k) v = v) (hfit : fits (ty k) v = true)
    (C0 : jCx E M p R s0 m args meth cd) (hH : hs_H E s H) (hS : va_S (hs_A E) s0.heap H locs) (hc : (s.2.2.1 a).1 = c) (hlen : k < (hs_fs s a c).length)
    (e0 : s'.1 = s.1) (e1 : s'.2.2.1 = s.2.2.1) (e2 : ∀ b, b ≠ a → hs_pic E s' b = hs_pic E s b) (e3 : hs_fs s' a c = (hs_fs s a c).set k v)
    (kk : ∀ (H1 : Heap) (locs1 : List Loc), hs_H E s' H1 → va_S (hs_A E) s0.heap H1 locs1 → W p E.1 e R s0 m args below meth cd H1 locs1 cells slots Q (F0 m (pc + 3) lsA st)) : W p E.1 e R s0 m args below meth cd H locs cells slots Q (F0 m pc lsA (v :: .ref a :: st)) := by
  obtain ⟨hcl, hkN, hin, hty, hnm, h8⟩ := hf
  have hts := C0.2.2.2.2.1
  have hown := C0.2.2.2.1
  have hK : va_K E.2.2.1 classes (hs_tys E) s0 := C0.2.2.2.2.2.2.2.2.2.1.1
  have hlink := hts _ hl
  have hap := va_apart (own := M.1) hts hin ty hty hnm hK hcl
  have hat := hH.at hc (by omega : c < 15)
  rw [hs_picO hc h8] at hat
  obtain ⟨r, h1, cell, q1, q2, q3, q4⟩ := hat
  have hr : r = (C, T, N) := Option.some.inj (h1.symm.trans hcl)
  subst hr
  obtain ⟨hSl, hfc, kC, hkC, hkind⟩ := hK.1 c _ hcl
  obtain ⟨cf, kf, fi, f, hi, hsl⟩ := hSl k hkN
  have hst := (u_facts hfc hkC (u_lays hts hin hkN) hi).1
  have hlay := hts _ (hin _ (u_in_lay hkN))
  have hin3 := hH.2.2.2 a (by rw [hc]; omega)
  have key : ∀ H1 : Heap, H1[a]? = some (cell.setSlot (E.2.2.1.2 c k) v) → H1.size = H.size → (∀ q, q ≠ a → H1[q]? = H[q]?) → W p E.1 e R s0 m args below meth cd H1 (locs ++ [⟨a, f.slot⟩]) cells slots Q (F0 m (pc + 3) lsA st) := by
    intro H1 g1 g2 g3
    refine kk H1 _ (hH.put e0 (fun b => by rw [e1]) e2 g2 g3 ?_) (hS.put g2 g3 hin3.1)
    rw [hs_picO (by rw [e1]; exact hc) h8, e3]
    exact ⟨_, hcl, t_OB.to (V := updV (vp_V (hs_fs s a c)) k v) ⟨_, g1, q2, q3, t_set q4 hap hkN v⟩ (fun j _ => vp_updV_set hlen v j)⟩
  rcases hfin with hfin | ⟨hfin, hini, hdecl⟩
  · unfold u_lay at hlay
    rw [if_neg (by rw [hfin]; decide)] at hlay
    have h6 := u_store hfc hkC hkind hlay hi (hty k hkN) hn hfit
    refine W.putK C0.1 C0.2.1 (f := f) ⟨hown, hlink, ⟨_, _, _, hi⟩, hst⟩ (by rw [q2]; exact h6) q1 q3 (by rw [hsl]; exact k2_hasslot (q4 k hkN)) rfl rfl hd fun H' g1 g2 g3 => ?_
    rw [hsl] at g1
    exact key H' g1 g2 g3
  · unfold u_lay at hlay
    rw [if_pos hfin] at hlay
    have hcf : m.cls = cf := by
      obtain ⟨_, _, c', _, _, _, -, -, hf', -, -, -, hown2, -⟩ := Cond.laysFinal_spec hlay
      have e1 : c' = cf := by have := hi.symm.trans hf'; simp at this; exact this.1.symm
      rw [hdecl] at hown2
      rw [← e1]; exact Option.some.inj (hown.symm.trans hown2)
    have h6 := u_fits hfc hkC hkind (Or.inr hlay) hi (hty k hkN) hn hfit
    refine W.putFinK C0.1 C0.2.1 hown hlink hi hst hcf (by rw [C0.2.2.2.2.2.2.2.2.1]; exact hini) (by rw [q2]; exact h6) q1 q3 (by rw [hsl]; exact k2_hasslot (q4 k hkN)) rfl rfl hd fun H' g1 g2 g3 => ?_
    rw [hsl] at g1
    exact key H' g1 g2 g3
end JH
end
section
section JP
variable {α : Type} {E : jE} {M : jM} {cv : α → Option Value} {pc q : Nat} {ls ls' : List (Nat × Value)} {st : List Value} {s : hS} {o : Option (α × hS)}
theorem Jo_putI {c k idx a : Nat} {C : String} {T : u_T} {N : Nat} {ty : Nat → FieldType} {v : Int32} {g : hS → Option (α × hS)} (hf : fF c k C T N ty) (hfi : fI c k) (hfin : (T k).2.2.2 = false ∨ ((T k).2.2.2 = true ∧ M.2.2.2.2.1 = "<init>" ∧ (T k).1 = M.1)) (hty : ty k = .int) (hd : dI M.2.1 pc q (.putfield idx) 3) (hl : Cond.fieldLink M.1 idx (T k).1 (T k).2.1 (T k).2.2.1 ∈ tbG)
    (kk : ∀ s', Jo E M cv q ls st s' (g s')) : Jo E M cv pc ls (.int v :: .ref a :: st) s ((pI s a c k v).bind g) := by
  by_cases hc : (s.2.2.1 a).1 = c
  · obtain ⟨hd, rfl⟩ := hd
    rw [show pI s a c k v = some (uI s a k v) by simp [pI, hc]]
    refine Jo.write (s' := uI s a k v) rfl rfl (fun p e R s0 m args below meth cd H locs cells slots lsA Q C hH hS _ k9 => ?_) (kk _)
    exact put_core (s' := uI s a k v) hf hfin hd hl (by rw [hty]; rfl) (by rw [hty]; rfl) C hH hS hc (List.getElem?_eq_some_iff.mp (hfi.1 s a)).1 rfl rfl (fun b hb => hs_pic_congr rfl (uI_I hb) rfl) (hfi.2 s a v) k9
  · rw [show pI s a c k v = none by simp [pI, hc]]
    exact Jo_none
theorem Jo_putZ {c k idx a : Nat} {C : String} {T : u_T} {N : Nat} {ty : Nat → FieldType} {v : Int32} {g : hS → Option (α × hS)} (hf : fF c k C T N ty) (hfi : fI c k) (hfin : (T k).2.2.2 = false ∨ ((T k).2.2.2 = true ∧ M.2.2.2.2.1 = "<init>" ∧ (T k).1 = M.1)) (hty : ty k = .boolean) (hd : dI M.2.1 pc q (.putfield idx) 3) (hl : Cond.fieldLink M.1 idx (T k).1 (T k).2.1 (T k).2.2.1 ∈ tbG)
    (kk : ∀ s', Jo E M cv q ls st s' (g s')) : Jo E M cv pc ls (.int v :: .ref a :: st) s ((pZ s a c k v).bind g) := by
  by_cases hc : (s.2.2.1 a).1 = c ∧ (v = 0 ∨ v = 1)
  · obtain ⟨hd, rfl⟩ := hd
    rw [show pZ s a c k v = some (uI s a k v) by simp [pZ, hc]]
    refine Jo.write (s' := uI s a k v) rfl rfl (fun p e R s0 m args below meth cd H locs cells slots lsA Q C hH hS _ k9 => ?_) (kk _)
    exact put_core (s' := uI s a k v) hf hfin hd hl (by rw [hty]; rcases hc.2 with rfl | rfl <;> rfl) (by rw [hty]; rcases hc.2 with rfl | rfl <;> rfl) C hH hS hc.1 (List.getElem?_eq_some_iff.mp (hfi.1 s a)).1 rfl rfl (fun b hb => hs_pic_congr rfl (uI_I hb) rfl) (hfi.2 s a v) k9
  · rw [show pZ s a c k v = none by simp [pZ, hc]]
    exact Jo_none
theorem Jo_putR {c k idx a b : Nat} {C : String} {T : u_T} {N : Nat} {ty : Nat → FieldType} {g : hS → Option (α × hS)} (hf : fF c k C T N ty) (hfi : fR c k) (hfin : (T k).2.2.2 = false ∨ ((T k).2.2.2 = true ∧ M.2.2.2.2.1 = "<init>" ∧ (T k).1 = M.1)) (hty : narrow (ty k) (.ref b) = .ref b ∧ fits (ty k) (.ref b) = true) (hd : dI M.2.1 pc q (.putfield idx) 3) (hl : Cond.fieldLink M.1 idx (T k).1 (T k).2.1 (T k).2.2.1 ∈ tbG)
    (kk : ∀ s', Jo E M cv q ls st s' (g s')) : Jo E M cv pc ls (.ref b :: .ref a :: st) s ((pR s a c k b).bind g) := by
  by_cases hc : (s.2.2.1 a).1 = c
  · obtain ⟨hd, rfl⟩ := hd
    rw [show pR s a c k b = some (uR s a k (some b)) by simp [pR, hc]]
    refine Jo.write (s' := uR s a k (some b)) rfl rfl (fun p e R s0 m args below meth cd H locs cells slots lsA Q C hH hS _ k9 => ?_) (kk _)
    exact put_core (s' := uR s a k (some b)) hf hfin hd hl hty.1 hty.2 C hH hS hc (List.getElem?_eq_some_iff.mp (hfi.1 s a)).1 rfl rfl (fun b' hb => hs_pic_congr rfl rfl (uR_R hb)) (hfi.2 s a (some b)) k9
  · rw [show pR s a c k b = none by simp [pR, hc]]
    exact Jo_none
/-- kinds of int arrays: their number, their place among the types -/
theorem aI_some {s : hS} {a t : Nat} {i : Int32} (h : (s.2.2.1 a).1 = t ∧ ¬ (i < 0 ∨ (s.2.2.1 a).2 ≤ i.toNatClampNeg)) : aI s a t i = some (s.2.2.2.1 a i.toNatClampNeg) := by rw [aI, if_pos h]
theorem aI_none {s : hS} {a t : Nat} {i : Int32} (h : ¬ ((s.2.2.1 a).1 = t ∧ ¬ (i < 0 ∨ (s.2.2.1 a).2 ≤ i.toNatClampNeg))) : aI s a t i = none := by rw [aI, if_neg h]
theorem sI_some {s : hS} {a t : Nat} {i x : Int32} (h : (s.2.2.1 a).1 = t ∧ ¬ (i < 0 ∨ (s.2.2.1 a).2 ≤ i.toNatClampNeg)) : sI s a t i x = some (uI s a i.toNatClampNeg x) := by rw [sI, if_pos h]
theorem sI_none {s : hS} {a t : Nat} {i x : Int32} (h : ¬ ((s.2.2.1 a).1 = t ∧ ¬ (i < 0 ∨ (s.2.2.1 a).2 ≤ i.toNatClampNeg))) : sI s a t i x = none := by rw [sI, if_neg h]
theorem Jo_iaload {a : Nat} {i : Int32} {g : Int32 → Option (α × hS)} (hd : dI M.2.1 pc q .iaload 1) (kk : ∀ x, Jo E M cv q ls (.int x :: st) s (g x)) : Jo E M cv pc ls (.int i :: .ref a :: st) s ((aI s a 10 i).bind g) := by
  by_cases hc : (s.2.2.1 a).1 = 10 ∧ ¬ (i < 0 ∨ (s.2.2.1 a).2 ≤ i.toNatClampNeg)
  · obtain ⟨hd, rfl⟩ := hd
    rw [aI_some hc]
    exact Jo.read (fun p e R s0 m args below meth cd H locs cells slots lsA Q C hH hS k9 => va_iald C.1 C.2.1 C.2.2.2.2.2.2.2.2.2.1.1 hH.2.2.1 (a - E.2.1) 2 (by rw [hs_in hH hc.1 (by omega), hs_picI hc.1 (by omega) (by omega)]) rfl hc.2 hd k9) (kk _)
  · rw [aI_none hc]; exact Jo_none
theorem Jo_baload {a : Nat} {i : Int32} {g : Int32 → Option (α × hS)} (hd : dI M.2.1 pc q .baload 1) (kk : ∀ x, Jo E M cv q ls (.int x :: st) s (g x)) : Jo E M cv pc ls (.int i :: .ref a :: st) s ((aI s a 8 i).bind g) := by
  by_cases hc : (s.2.2.1 a).1 = 8 ∧ ¬ (i < 0 ∨ (s.2.2.1 a).2 ≤ i.toNatClampNeg)
  · obtain ⟨hd, rfl⟩ := hd
    rw [aI_some hc]
    exact Jo.read (fun p e R s0 m args below meth cd H locs cells slots lsA Q C hH hS k9 => va_bald C.1 C.2.1 C.2.2.2.2.2.2.2.2.2.1.1 hH.2.2.1 (a - E.2.1) 0 (by rw [hs_in hH hc.1 (by omega), hs_picI hc.1 (by omega) (by omega)]) rfl hc.2 hd k9) (kk _)
  · rw [aI_none hc]; exact Jo_none
theorem Jo_zaload {a : Nat} {i : Int32} {g : Int32 → Option (α × hS)} (hd : dI M.2.1 pc q .baload 1) (kk : ∀ x, Jo E M cv q ls (.int x :: st) s (g x)) : Jo E M cv pc ls (.int i :: .ref a :: st) s ((aI s a 11 i).bind g) := by
  by_cases hc : (s.2.2.1 a).1 = 11 ∧ ¬ (i < 0 ∨ (s.2.2.1 a).2 ≤ i.toNatClampNeg)
  · obtain ⟨hd, rfl⟩ := hd
    rw [aI_some hc]
    exact Jo.read (fun p e R s0 m args below meth cd H locs cells slots lsA Q C hH hS k9 => va_zald C.1 C.2.1 C.2.2.2.2.2.2.2.2.2.1.1 hH.2.2.1 (a - E.2.1) 3 (by rw [hs_in hH hc.1 (by omega), hs_picI hc.1 (by omega) (by omega)]) rfl hc.2 hd k9) (kk _)
  · rw [aI_none hc]; exact Jo_none
theorem Jo_caload {a : Nat} {i : Int32} {g : Int32 → Option (α × hS)} (hd : dI M.2.1 pc q .caload 1) (kk : ∀ x, Jo E M cv q ls (.int x :: st) s (g x)) : Jo E M cv pc ls (.int i :: .ref a :: st) s ((aI s a 9 i).bind g) := by
  by_cases hc : (s.2.2.1 a).1 = 9 ∧ ¬ (i < 0 ∨ (s.2.2.1 a).2 ≤ i.toNatClampNeg)
  · obtain ⟨hd, rfl⟩ := hd
    rw [aI_some hc]
    exact Jo.read (fun p e R s0 m args below meth cd H locs cells slots lsA Q C hH hS k9 => va_cald C.1 C.2.1 C.2.2.2.2.2.2.2.2.2.1.1 hH.2.2.1 (a - E.2.1) 1 (by rw [hs_in hH hc.1 (by omega), hs_picI hc.1 (by omega) (by omega)]) rfl hc.2 hd k9) (kk _)
  · rw [aI_none hc]; exact Jo_none
theorem Jo_aaload {a t t0 : Nat} {C0 : String} {i : Int32} {g : Nat → Option (α × hS)} (ht : (∀ E, (hs_tys E)[t0]? = some (E.2.2.2.1 t, .object C0)) ∧ ¬ t < 12 ∧ t < 15) (hd : dI M.2.1 pc q .aaload 1) (kk : ∀ x, Jo E M cv q ls (.ref x :: st) s (g x)) : Jo E M cv pc ls (.int i :: .ref a :: st) s ((aR s a t i).bind g) := by
  by_cases hc : (s.2.2.1 a).1 = t ∧ ¬ (i < 0 ∨ (s.2.2.1 a).2 ≤ i.toNatClampNeg)
  · obtain ⟨hd, rfl⟩ := hd
    rw [aR, if_pos hc]
    cases hx : s.2.2.2.2 a i.toNatClampNeg with
    | none => exact Jo_none
    | some b =>
      refine Jo.read (fun p e R s0 m args below meth cd H locs cells slots lsA Q C hH hS k9 => ?_) (kk b)
      refine va_aldq C.1 C.2.1 C.2.2.2.2.2.2.2.2.2.1.1 hH.2.2.1 (a - E.2.1) t0 (by rw [hs_in hH hc.1 ht.2.2, hs_picR hc.1 ht.2.1]) (ht.1 E) hc.2 hd ?_
      rw [hx]
      exact k9
  · rw [aR, if_neg hc]; exact Jo_none
theorem Jo_alen {a t t0 : Nat} {ty : FieldType} {g : Int32 → Option (α × hS)} (ht : (∀ E, (hs_tys E)[t0]? = some (E.2.2.2.1 t, ty)) ∧ ¬ t < 8 ∧ t < 15) (hd : dI M.2.1 pc q .arraylength 1) (kk : ∀ x, Jo E M cv q ls (.int x :: st) s (g x)) : Jo E M cv pc ls (.ref a :: st) s ((aL s a t).bind g) := by
  by_cases hc : (s.2.2.1 a).1 = t
  · obtain ⟨hd, rfl⟩ := hd
    rw [aL, if_pos hc]
    refine Jo.read (fun p e R s0 m args below meth cd H locs cells slots lsA Q C hH hS k9 => ?_) (kk _)
    by_cases h12 : t < 12
    · exact va_alen C.1 C.2.1 C.2.2.2.2.2.2.2.2.2.1.1 hH.2.2.1 (a - E.2.1) t0 (by rw [hs_in hH hc ht.2.2, hs_picI hc ht.2.1 h12]) (ht.1 E) rfl hd k9
    · exact va_alen C.1 C.2.1 C.2.2.2.2.2.2.2.2.2.1.1 hH.2.2.1 (a - E.2.1) t0 (by rw [hs_in hH hc ht.2.2, hs_picR hc h12]) (ht.1 E) rfl hd k9
  · rw [aL, if_neg hc]; exact Jo_none
theorem hs_H.putI {H H1 : Heap} {a t j : Nat} {x : Int32} (hH : hs_H E s H) (hc : (s.2.2.1 a).1 = t) (h8 : ¬ t < 8) (h12 : t < 12) (e1 : H1[a]? = some (vp_cell (E.2.2.2.1 t) ((s.2.2.1 a).2, .inl (upd (s.2.2.2.1 a) j x)))) (e2 : H1.size = H.size) (e3 : ∀ q, q ≠ a → H1[q]? = H[q]?) : hs_H E (uI s a j x) H1 := by
  refine hH.put rfl (fun _ => rfl) (fun b hb => hs_pic_congr rfl (uI_I hb) rfl) e2 e3 ?_
  have : hs_pic E (uI s a j x) a = .inl (E.2.2.2.1 t, (s.2.2.1 a).2, .inl (upd (s.2.2.2.1 a) j x)) := by
    rw [hs_picI (s := uI s a j x) hc h8 h12, uI_self]
    rfl
  rw [this]
  exact e1
theorem Jo_iastore {a : Nat} {i x : Int32} {g : hS → Option (α × hS)} (hd : dI M.2.1 pc q .iastore 1) (kk : ∀ s', Jo E M cv q ls st s' (g s')) : Jo E M cv pc ls (.int x :: .int i :: .ref a :: st) s ((sI s a 10 i x).bind g) := by
  by_cases hc : (s.2.2.1 a).1 = 10 ∧ ¬ (i < 0 ∨ (s.2.2.1 a).2 ≤ i.toNatClampNeg)
  · obtain ⟨hd, rfl⟩ := hd
    rw [sI_some hc]
    refine Jo.write (s' := uI s a i.toNatClampNeg x) rfl rfl (fun p e R s0 m args below meth cd H locs cells slots lsA Q C hH hS _ k9 => ?_) (kk _)
    have hat := hH.at hc.1 (by omega)
    rw [hs_picI hc.1 (by omega) (by omega)] at hat
    refine W.iast C.1 C.2.1 hat ((C.2.2.2.2.2.2.2.2.2.1.1.2 2 _ rfl).1 _ (fun j => .int (s.2.2.2.1 a j))) (fun q => by cases q) (by show ¬ (i < 0 ∨ (arrV _ _ _).slots.size ≤ _); rw [arrV_size]; exact hc.2) rfl rfl hd fun H1 e1 z oq => ?_
    refine k9 H1 _ (hH.putI hc.1 (by omega) (by omega) ?_ z oq) (hS.put z oq (hH.2.2.2 a (by omega)).1)
    rw [e1]
    rw [vp_cell_i, vp_cell_i, arrV_store]
    congr 2
    funext q
    by_cases hq : q = i.toNatClampNeg
    · subst hq; simp [updV, upd]
    · simp [updV, upd, hq]
  · rw [sI_none hc]; exact Jo_none
theorem Jo_bastore {a : Nat} {i x : Int32} {g : hS → Option (α × hS)} (hd : dI M.2.1 pc q .bastore 1) (kk : ∀ s', Jo E M cv q ls st s' (g s')) : Jo E M cv pc ls (.int x :: .int i :: .ref a :: st) s ((sI s a 8 i (vp_nar .byte x)).bind g) := by
  by_cases hc : (s.2.2.1 a).1 = 8 ∧ ¬ (i < 0 ∨ (s.2.2.1 a).2 ≤ i.toNatClampNeg)
  · obtain ⟨hd, rfl⟩ := hd
    rw [sI_some hc]
    refine Jo.write (s' := uI s a i.toNatClampNeg (vp_nar .byte x)) rfl rfl (fun p e R s0 m args below meth cd H locs cells slots lsA Q C hH hS _ k9 => ?_) (kk _)
    have hat := hH.at hc.1 (by omega)
    rw [hs_picI hc.1 (by omega) (by omega)] at hat
    refine W.bast C.1 C.2.1 hat ((C.2.2.2.2.2.2.2.2.2.1.1.2 0 _ rfl).1 _ (fun j => .int (s.2.2.2.1 a j))) (fun q => by cases q) (by show ¬ (i < 0 ∨ (arrV _ _ _).slots.size ≤ _); rw [arrV_size]; exact hc.2) rfl rfl hd fun H1 e1 z oq => ?_
    refine k9 H1 _ (hH.putI hc.1 (by omega) (by omega) ?_ z oq) (hS.put z oq (hH.2.2.2 a (by omega)).1)
    rw [e1]
    rw [vp_cell_i, vp_cell_i, arrV_store]
    congr 2
    funext q
    by_cases hq : q = i.toNatClampNeg
    · subst hq; simp [updV, upd, vp_nar, narrow]
    · simp [updV, upd, hq]
  · rw [sI_none hc]; exact Jo_none
theorem Jo_zastore {a : Nat} {i x : Int32} {g : hS → Option (α × hS)} (hd : dI M.2.1 pc q .bastore 1) (kk : ∀ s', Jo E M cv q ls st s' (g s')) : Jo E M cv pc ls (.int x :: .int i :: .ref a :: st) s ((sI s a 11 i (vp_nar .boolean x)).bind g) := by
  by_cases hc : (s.2.2.1 a).1 = 11 ∧ ¬ (i < 0 ∨ (s.2.2.1 a).2 ≤ i.toNatClampNeg)
  · obtain ⟨hd, rfl⟩ := hd
    rw [sI_some hc]
    refine Jo.write (s' := uI s a i.toNatClampNeg (vp_nar .boolean x)) rfl rfl (fun p e R s0 m args below meth cd H locs cells slots lsA Q C hH hS _ k9 => ?_) (kk _)
    have hat := hH.at hc.1 (by omega)
    rw [hs_picI hc.1 (by omega) (by omega)] at hat
    refine W.zast C.1 C.2.1 hat ((C.2.2.2.2.2.2.2.2.2.1.1.2 3 _ rfl).1 _ (fun j => .int (s.2.2.2.1 a j))) (fun q => by cases q) (by show ¬ (i < 0 ∨ (arrV _ _ _).slots.size ≤ _); rw [arrV_size]; exact hc.2) rfl rfl hd fun H1 e1 z oq => ?_
    refine k9 H1 _ (hH.putI hc.1 (by omega) (by omega) ?_ z oq) (hS.put z oq (hH.2.2.2 a (by omega)).1)
    rw [e1]
    rw [vp_cell_i, vp_cell_i, arrV_store]
    congr 2
    funext q
    by_cases hq : q = i.toNatClampNeg
    · subst hq; simp [updV, upd, vp_nar, narrow]
    · simp [updV, upd, hq]
  · rw [sI_none hc]; exact Jo_none
theorem Jo_castore {a : Nat} {i x : Int32} {g : hS → Option (α × hS)} (hd : dI M.2.1 pc q .castore 1) (kk : ∀ s', Jo E M cv q ls st s' (g s')) : Jo E M cv pc ls (.int x :: .int i :: .ref a :: st) s ((sI s a 9 i (vp_nar .char x)).bind g) := by
  by_cases hc : (s.2.2.1 a).1 = 9 ∧ ¬ (i < 0 ∨ (s.2.2.1 a).2 ≤ i.toNatClampNeg)
  · obtain ⟨hd, rfl⟩ := hd
    rw [sI_some hc]
    refine Jo.write (s' := uI s a i.toNatClampNeg (vp_nar .char x)) rfl rfl (fun p e R s0 m args below meth cd H locs cells slots lsA Q C hH hS _ k9 => ?_) (kk _)
    have hat := hH.at hc.1 (by omega)
    rw [hs_picI hc.1 (by omega) (by omega)] at hat
    refine W.cast C.1 C.2.1 hat ((C.2.2.2.2.2.2.2.2.2.1.1.2 1 _ rfl).1 _ (fun j => .int (s.2.2.2.1 a j))) (fun q => by cases q) (by show ¬ (i < 0 ∨ (arrV _ _ _).slots.size ≤ _); rw [arrV_size]; exact hc.2) rfl rfl hd fun H1 e1 z oq => ?_
    refine k9 H1 _ (hH.putI hc.1 (by omega) (by omega) ?_ z oq) (hS.put z oq (hH.2.2.2 a (by omega)).1)
    rw [e1]
    rw [vp_cell_i, vp_cell_i, arrV_store]
    congr 2
    funext q
    by_cases hq : q = i.toNatClampNeg
    · subst hq; simp [updV, upd, vp_nar, narrow]
    · simp [updV, upd, hq]
  · rw [sI_none hc]; exact Jo_none
theorem Jo_aastore {a b t t0 c0 : Nat} {r0 : vw_C} {i : Int32} {g : hS → Option (α × hS)} (ht : (∀ E, (hs_tys E)[t0]? = some (E.2.2.2.1 t, .object r0.1)) ∧ ¬ t < 12 ∧ t < 15 ∧ classes[c0]? = some r0 ∧ c0 < 8) (hd : dI M.2.1 pc q .aastore 1) (kk : ∀ s', Jo E M cv q ls st s' (g s')) : Jo E M cv pc ls (.ref b :: .int i :: .ref a :: st) s ((sR s a t i b c0).bind g) := by
  by_cases hc : (s.2.2.1 a).1 = t ∧ (s.2.2.1 b).1 = c0 ∧ ¬ (i < 0 ∨ (s.2.2.1 a).2 ≤ i.toNatClampNeg)
  · obtain ⟨hd, rfl⟩ := hd
    rw [sR, if_pos hc]
    refine Jo.write (s' := uR s a i.toNatClampNeg (some b)) rfl rfl (fun p e R s0 m args below meth cd H locs cells slots lsA Q C hH hS _ k9 => ?_) (kk _)
    have hK := C.2.2.2.2.2.2.2.2.2.1.1
    have hat := hH.at hc.1 ht.2.2.1
    rw [hs_picR hc.1 ht.2.1] at hat
    have hlt : i.toNatClampNeg < (s.2.2.1 a).2 := Nat.not_le.mp fun q => hc.2.2 (Or.inr q)
    have h0 : ¬ i < 0 := fun q => hc.2.2 (Or.inl q)
    have hbt := hH.at hc.2.1 (by have := ht.2.2.2.2; omega)
    rw [hs_picO hc.2.1 ht.2.2.2.2] at hbt
    obtain ⟨r', hr', cellV, g1, g2, g3, -⟩ := hbt
    have hcls := (hK.1 c0 r0 ht.2.2.2.1).2
    obtain ⟨kA, comp, k1, k2, k3, -⟩ := (hK.2 t0 _ (ht.1 E)).2
    have hcomp : comp = E.2.2.1.1 c0 := Option.some.inj (k3.symm.trans hcls.1)
    subst hcomp
    have hcls' := hcls
    obtain ⟨kC, hkC, -⟩ := hcls.2
    refine W.aast C.1 C.2.1 hat (fun q h => by cases h) (fun h => by cases h) k1 k2 rfl hkC ⟨h0, by show _ < (arrV _ _ _).slots.size; rw [arrV_size]; exact hlt⟩ g1 (fun q h => by rw [g3] at h; cases h) (by rw [g2]; exact hkC) (by rw [g2]; exact va_assign hcls') rfl rfl hd fun H1 e1 z oq => ?_
    refine k9 H1 _ (hH.put rfl (fun _ => rfl) (fun b' hb => hs_pic_congr rfl rfl (uR_R hb)) z oq ?_) (hS.put z oq (hH.2.2.2 a (by omega)).1)
    have hp : hs_pic E (uR s a i.toNatClampNeg (some b)) a = .inl (E.2.2.2.1 t, (s.2.2.1 a).2, .inr (.inr (.inr (.inr (va_up (s.2.2.2.2 a) i.toNatClampNeg (some b)))))) := by
      rw [hs_picR (s := uR s a i.toNatClampNeg (some b)) hc.1 ht.2.1, uR_self]
      rfl
    rw [hp]
    show H1[a]? = some (vp_cell _ _)
    rw [e1]
    rw [vp_cell_q, vp_cell_q, arrV_store]
    congr 2
    funext q
    by_cases hq : q = i.toNatClampNeg
    · subst hq; simp [updV, va_up, va_rf]
    · simp [updV, va_up, hq]
  · rw [sR, if_neg hc]; exact Jo_none
end JP
end
section
section JN
variable {α : Type} {E : jE} {M : jM} {cv : α → Option Value} {pc q : Nat} {ls ls' : List (Nat × Value)} {st : List Value} {s : hS} {o : Option (α × hS)}
/-- a cell is made -/
theorem Jo.make {c N : Nat} {st' : List Value} (h : ∀ (p : Program) (e : Env) (R : Room) (s0 : State) (m : MethodId) (args : Array Value) (below : List Frame) (meth : Method) (cd : Code) (H : Heap) (locs : List Loc) (cells slots : Nat) (lsA : Array Slot) (Q : State → Prop),
    jCx E M p R s0 m args meth cd → hs_H E s H → va_S (hs_A E) s0.heap H locs → cells + 1 ≤ R.cells → slots + N ≤ R.slots → (∀ (H1 : Heap), hs_H E (nO s c N) H1 → va_S (hs_A E) s0.heap H1 locs → W p E.1 e R s0 m args below meth cd H1 locs (cells + 1) (slots + N) Q (F0 m q lsA st')) → W p E.1 e R s0 m args below meth cd H locs cells slots Q (F0 m pc lsA st))
    (k : Jo E M cv q ls st' (nO s c N) o) : Jo E M cv pc ls st s o := by
  intro r hr
  have hk := k r hr
  have g1 : s.1 + 1 ≤ r.2.1 := hk.1.1
  have g2 : s.2.1 + N ≤ r.2.2.1 := hk.1.2
  refine ⟨⟨by omega, by omega⟩, fun p e R s0 m args below meth cd H locs cells slots lsA C hH hS h1 h2 hl => ?_⟩
  refine h p e R s0 m args below meth cd H locs cells slots lsA _ C hH hS (by omega) (by omega) fun H1 hH1 hS1 => ?_
  have e1 : cells + 1 + (r.2.1 - (nO s c N).1) = cells + (r.2.1 - s.1) := by show cells + 1 + (r.2.1 - (s.1 + 1)) = _; omega
  have e2 : slots + N + (r.2.2.1 - (nO s c N).2.1) = slots + (r.2.2.1 - s.2.1) := by show slots + N + (r.2.2.1 - (s.2.1 + N)) = _; omega
  have h3 := hk.2 p e R s0 m args below meth cd H1 locs (cells + 1) (slots + N) lsA C hH1 hS1 (by rw [e1]; exact h1) (by rw [e2]; exact h2) hl
  rw [e1, e2] at h3
  exact h3
theorem va_S.push {A : Nat → Prop} {H0 H H1 : Heap} {locs : List Loc} (h : va_S A H0 H locs) (z : H1.size = H.size + 1) (oq : ∀ q : Nat, q < H.size → H1[q]? = H[q]?) : va_S A H0 H1 locs := ⟨Nat.le_trans h.1 (by omega), fun x h1 h2 => (oq x (Nat.lt_of_lt_of_le h1 h.1)).trans (h.2.1 x h1 h2), h.2.2⟩
theorem nO_I (s : hS) (c N : Nat) : (nO s c N).2.2.2.1 s.1 = fun _ => 0 := by funext j; simp [nO]
theorem nO_R (s : hS) (c N : Nat) : (nO s c N).2.2.2.2 s.1 = fun _ => none := by funext j; simp [nO]
theorem nO_K (s : hS) (c N : Nat) : (nO s c N).2.2.1 s.1 = (c, N) := by simp [nO]
theorem Jo_new {c idx : Nat} {C : String} {T : u_T} {N : Nat} {ty : Nat → FieldType} (hf : classes[c]? = some (C, T, N) ∧ (∀ w ∈ u_ws C T N, w ∈ tbG) ∧ (∀ k, k < N → parseFieldDescriptor (T k).2.2.1 = some (ty k)) ∧ c < 8) (hw : Cond.classLink M.1 idx C ∈ tbG ∧ Cond.instantiable C N ∈ tbG ∧ Cond.initialized C ∈ tbG) (h0 : ∀ (s : hS) (a : Nat), s.2.2.2.1 a = (fun _ => 0) → s.2.2.2.2 a = (fun _ => none) → ∀ j, j < N → defaultValue (ty j) = vp_V (hs_fs s a c) j) (hd : dI M.2.1 pc q (.new idx) 3)
    (kk : Jo E M cv q ls (.ref s.1 :: st) (nO s c N) o) : Jo E M cv pc ls st s o := by
  obtain ⟨hd, rfl⟩ := hd
  refine Jo.make (fun p e R s0 m args below meth cd H locs cells slots lsA Q C0 hH hS h1 h2 k9 => ?_) kk
  have hts := C0.2.2.2.2.1
  have hKn := C0.2.2.2.2.2.2.2.2.2.1.1.1 c _ hf.1
  have hz : H.size = s.1 := hH.2.1
  refine W.newcK C0.1 C0.2.1 C0.2.2.2.1 (hts _ hw.1) (hts _ hw.2.1) (hts _ hw.2.2) rfl hd h1 h2 hKn.2.1 hz fun H1 kC hkC e1 z1 o1 => ?_
  refine k9 H1 (hH.push (by omega) (fun q hq => o1 q (by omega)) ?_) (hS.push (by omega) (fun q hq => o1 q (by omega)))
  rw [hs_picO (s := nO s c N) (by rw [nO_K]) hf.2.2.2]
  exact ⟨_, hf.1, (u_born ty hts hf.2.1 hKn hkC e1 hf.2.2.1).to (h0 _ _ (nO_I s c N) (nO_R s c N))⟩
theorem Jo_newarr {t t0 : Nat} {ty : FieldType} {at0 : ArrayType} {n : Int32} {g : hS → Option (α × hS)} (ht : (∀ E, (hs_tys E)[t0]? = some (E.2.2.2.1 t, ty)) ∧ ¬ t < 8 ∧ t < 12) (hty : newarray.typeOf at0 = ty ∧ ty ≠ .long ∧ componentBytes ty ≤ 4 ∧ defaultValue ty = .int 0 ∧ (∀ C, ty ≠ .object C)) (hw : Cond.arrayClass ty ∈ tbG) (hd : dI M.2.1 pc q (.newarray at0) 2)
    (kk : ∀ s', Jo E M cv q ls (.ref s.1 :: st) s' (g s')) : Jo E M cv pc ls (.int n :: st) s ((nA s t n).bind g) := by
  by_cases hc : ¬ n < 0 ∧ n.toNatClampNeg ≤ 100000
  · obtain ⟨hd, rfl⟩ := hd
    rw [nA, if_pos hc]
    refine Jo.make (c := t) (N := n.toNatClampNeg) (fun p e R s0 m args below meth cd H locs cells slots lsA Q C0 hH hS h1 h2 k9 => ?_) (kk _)
    have hts := C0.2.2.2.2.1
    have hz : H.size = s.1 := hH.2.1
    have hK := C0.2.2.2.2.2.2.2.2.2.1.1
    obtain ⟨hty1, -, hty3, hty4, hty5⟩ := hty
    subst hty1
    refine va_newaK C0.1 C0.2.1 (hts _ hw) rfl hd rfl hc.1 rfl ?_ h1 h2 hz fun H1 cA e1 z1 o1 hAr hNm => ?_
    · exact Nat.le_trans (Nat.mul_le_mul hc.2 hty3) (Nat.le_of_ble_eq_true rfl)
    · refine k9 H1 (hH.push (by omega) (fun q hq => o1 q (by omega)) ?_) (hS.push (by omega) (fun q hq => o1 q (by omega)))
      rw [hs_picI (s := nO s t n.toNatClampNeg) (by rw [nO_K]) ht.2.1 ht.2.2]
      have hRA := (hK.2 t0 _ (ht.1 E)).2
      have hcA : E.2.2.2.1 t = cA := by
        have h5 : s0.vm.findClass ("[" ++ (newarray.typeOf at0).toString) = some (E.2.2.2.1 t) := by
          cases at0 <;> exact hRA
        exact Option.some.inj (h5.symm.trans hNm)
      show H1[s.1]? = some (vp_cell _ _)
      rw [vp_cell_i, nO_I, hcA, nO_K, e1, hty4]
  · rw [nA, if_neg hc]; exact Jo_none
theorem Jo_anewarr {t t0 idx : Nat} {C : String} {n : Int32} {g : hS → Option (α × hS)} (ht : (∀ E, (hs_tys E)[t0]? = some (E.2.2.2.1 t, .object C)) ∧ ¬ t < 12 ∧ t < 15) (hw : Cond.classLink M.1 idx C ∈ tbG) (hao : ∀ E U, hs_T E U → va_AO C U) (hd : dI M.2.1 pc q (.anewarray idx) 3)
    (kk : ∀ s', Jo E M cv q ls (.ref s.1 :: st) s' (g s')) : Jo E M cv pc ls (.int n :: st) s ((nA s t n).bind g) := by
  by_cases hc : ¬ n < 0 ∧ n.toNatClampNeg ≤ 100000
  · obtain ⟨hd, rfl⟩ := hd
    rw [nA, if_pos hc]
    refine Jo.make (c := t) (N := n.toNatClampNeg) (fun p e R s0 m args below meth cd H locs cells slots lsA Q C0 hH hS h1 h2 k9 => ?_) (kk _)
    have hts := C0.2.2.2.2.1
    have hz : H.size = s.1 := hH.2.1
    have hK := C0.2.2.2.2.2.2.2.2.2.1.1
    refine W.anew C0.1 C0.2.1 C0.2.2.2.1 (hts _ hw) (va_AO.use (hao E s0 C0.2.2.2.2.2.2.2.2.2.1)) rfl hd rfl hc.1 (Nat.le_trans (Nat.mul_le_mul hc.2 (Nat.le_refl 4)) (Nat.le_of_ble_eq_true rfl)) h1 h2 fun cA kA comp f1 f2 f3 f4 => ?_
    generalize hH1 : H.push ({ cls := cA, slots := Array.replicate n.toNatClampNeg .null, vm := .none } : Cell) = H1
    have z1 : H1.size = H.size + 1 := by rw [← hH1, Array.size_push]
    have e1 : H1[H.size]? = some (arrV cA n.toNatClampNeg (fun _ => .null)) := by rw [← hH1, Array.getElem?_push_size, ← arrV_new]
    have o1 : ∀ q : Nat, q < H.size → H1[q]? = H[q]? := fun q hq => by rw [← hH1, Array.getElem?_push, if_neg (Nat.ne_of_lt hq)]
    have k10 := k9 H1 (hH.push z1 o1 ?_) (hS.push z1 o1)
    · rw [← hz] at k10
      exact k10
    · rw [hs_picR (s := nO s t n.toNatClampNeg) (by rw [nO_K]) ht.2.1]
      obtain ⟨kA', comp', -, -, -, hn4⟩ := (hK.2 t0 _ (ht.1 E)).2
      have hcA : E.2.2.2.1 t = cA := Option.some.inj (hn4.symm.trans f1)
      show H1[s.1]? = some (vp_cell _ _)
      rw [vp_cell_q, nO_R, hcA, nO_K, ← hz, e1]
      rfl
  · rw [nA, if_neg hc]; exact Jo_none
theorem Jo_objInit {a idx : Nat} (hd : dI M.2.1 pc q (.invokespecial idx) 3) (hw : Cond.methodLink M.1 idx objectInit ∈ tbG ∧ Cond.instanceMethod objectInit ∈ tbG ∧ Cond.code objectInit ⟨#[0xb1]⟩ 1 none ∈ tbG) (hr : 1 ≤ M.2.2.2.2.2.1 ∧ (st.map fun v => v.category).sum + 12 ≤ M.2.2.2.2.2.2) (kk : Jo E M cv q ls st s o) : Jo E M cv pc ls (.ref a :: st) s o := by
  obtain ⟨hd, rfl⟩ := hd
  refine Jo.pure (fun p e R s0 m args below meth cd H locs cells slots lsA Q C _ hl0 _ _ k9 => ?_) kk
  have h8 := C.2.2.2.2.2.2.2.1
  have h9 : 2 * 0 + (st.map fun v => v.category).sum + 12 ≤ R.locals := by
    have g1 := hr.2
    have g2 := h8.2
    omega
  exact W.objInit C.1 C.2.1 C.2.2.2.1 (C.2.2.2.2.1 _ hw.1) (C.2.2.2.2.1 _ hw.2.1) (C.2.2.2.2.1 _ hw.2.2) rfl (by rw [C.2.2.2.2.2.2.1]; exact hl0.1) rfl hd (Nat.le_trans hr.1 h8.1) h9 (k9 lsA hl0)
/-- the end of a method -/
theorem J.ret {v : Option Value} {p : Program} {R : Room} {s0 : State} {m : MethodId} {args : Array Value} {meth : Method} {c : Code} {H : Heap} {locs : List Loc} (C : jCx E M p R s0 m args meth c) (hH : hs_H E s H) (hS : va_S (hs_A E) s0.heap H locs) : ∀ t : State, t.heap = H → s0.WarmedH t.vm → jQ E v s args s0 (.returned v) t := by
  intro t ht hW
  refine ⟨rfl, ⟨C.2.2.2.2.2.2.2.2.2.1.warm hW, ?_, by rw [ht]; exact hH⟩, hS.F ht⟩
  rw [ht]
  exact (C.2.2.2.2.2.2.2.2.2.2.1.moved hW.alike).kept (fun a h1 h2 => hS.2.1 a h1 h2)
theorem Jo_iret {v : Int32} (hr : M.2.2.2.1 = some .int) (hd : dI M.2.1 pc q .ireturn 1) : Jo E M cvI pc ls [.int v] s (some (v, s)) := by
  intro r hr0
  cases hr0
  refine ⟨hs_le.rf s, fun p e R s0 m args below meth c H locs cells slots lsA C hH hS h1 h2 hl => ?_⟩
  simp only [Nat.sub_self, Nat.add_zero]
  exact W.iret C.1 C.2.1 (by rw [C.2.2.1]; exact hr) (J.ret C hH hS) hS.2.2 hd.1 C.2.2.2.2.2.1
theorem Jo_zret {v : Int32} (hr : M.2.2.2.1 = some .boolean) (hd : dI M.2.1 pc q .ireturn 1) : Jo E M cvI pc ls [.int v] s (if v = 0 ∨ v = 1 then some (v, s) else none) := by
  intro r hr0
  by_cases hv : v = 0 ∨ v = 1
  · rw [if_pos hv] at hr0
    cases hr0
    refine ⟨hs_le.rf s, fun p e R s0 m args below meth c H locs cells slots lsA C hH hS h1 h2 hl => ?_⟩
    simp only [Nat.sub_self, Nat.add_zero]
    exact W.zret (ty := .boolean) C.1 C.2.1 (by rw [C.2.2.1]; exact hr) (by rcases hv with rfl | rfl <;> rfl) (J.ret C hH hS) hS.2.2 hd.1 C.2.2.2.2.2.1
  · rw [if_neg hv] at hr0; cases hr0
theorem Jo_zret0 (hr : M.2.2.2.1 = some .boolean) (hd : dI M.2.1 pc q .ireturn 1) : Jo E M cvI pc ls [.int 0] s (some (0, s)) := Jo_zret (v := 0) hr hd
theorem Jo_zret1 (hr : M.2.2.2.1 = some .boolean) (hd : dI M.2.1 pc q .ireturn 1) : Jo E M cvI pc ls [.int 1] s (some (1, s)) := Jo_zret (v := 1) hr hd
theorem Jo_vret (hr : M.2.2.2.1 = none) (hd : dI M.2.1 pc q .return_ 1) : Jo E M cvV pc ls [] s (some ((), s)) := by
  intro r hr0
  cases hr0
  refine ⟨hs_le.rf s, fun p e R s0 m args below meth c H locs cells slots lsA C hH hS h1 h2 hl => ?_⟩
  simp only [Nat.sub_self, Nat.add_zero]
  exact W.vret C.1 C.2.1 (by rw [C.2.2.1]; exact hr) (J.ret C hH hS) hS.2.2 hd.1 C.2.2.2.2.2.1
theorem Jo_aret {a : Nat} {n : String} (hr : M.2.2.2.1 = some (.object n)) (hd : dI M.2.1 pc q .areturn 1) : Jo E M cvR pc ls [.ref a] s (some (a, s)) := by
  intro r hr0
  cases hr0
  refine ⟨hs_le.rf s, fun p e R s0 m args below meth c H locs cells slots lsA C hH hS h1 h2 hl => ?_⟩
  simp only [Nat.sub_self, Nat.add_zero]
  exact W.aret C.1 C.2.1 (by rw [C.2.2.1]; exact hr) (Or.inl ⟨n, rfl⟩) (Or.inr ⟨a, rfl⟩) (J.ret C hH hS) hS.2.2 hd.1 C.2.2.2.2.2.1
end JN
/-- a method's contract -/
def jK {α : Type} (E : jE) (y : MethodName) (M : jM) (cv : α → Option Value) (av : List Value) (s : hS) (o : Option (α × hS)) : Prop := ∀ r, o = some r → hs_le s r.2 ∧ Met E.1 y (Cond.code y M.2.1 M.2.2.1 M.2.2.2.1 :: tbG) { frames := M.2.2.2.2.2.1, cells := r.2.1 - s.1, slots := r.2.2.1 - s.2.1, locals := M.2.2.2.2.2.2 } (va_Pc av (hs_W E s)) (jQ E (cv r.1) r.2) (r.2.1 - s.1) (r.2.2.1 - s.2.1) (hs_A E)
theorem jK_of {α : Type} {E : jE} {y : MethodName} {M : jM} {cv : α → Option Value} {av : List Value} {s : hS} {o : Option (α × hS)} (hy : plainName y.cls = true ∧ y.cls = M.1 ∧ y.name = M.2.2.2.2.1) (hn : (lg_sl av).length ≤ M.2.2.1) (h : Jo E M cv 0 (lv_args 0 av) [] s o) : jK E y M cv av s o := by
  intro r hr
  have k := h r hr
  refine ⟨k.1, ?_⟩
  refine Met.ofW (cc := M.2.1) (maxL := M.2.2.1) (ret := M.2.2.2.1) hy.1 rfl ?_
  intro p e s0 m args below meth c s₁ B hml hv
  obtain ⟨rfl, hT, hZ, hH⟩ := hv
  have hts := atoms_spec (ws := Cond.code y M.2.1 M.2.2.1 M.2.2.2.1 :: tbG) B.pre
  have hown : s0.vm.findClass y.cls = some m.cls := findClass_of_methodNamed B.named
  have hl := lv_entry av (n := M.2.2.1) hn
  rw [lg_entry_eq]
  have hz : E.2.1 ≤ s0.heap.size := by rw [hH.2.1]; exact hH.1
  have h3 := k.2 p e (headSpec (Cond.code y M.2.1 M.2.2.1 M.2.2.2.1 :: tbG) { frames := M.2.2.2.2.2.1, cells := r.2.1 - s.1, slots := r.2.2.1 - s.2.1, locals := M.2.2.2.2.2.2 }).room s0 m av.toArray below meth c s0.heap [] 0 0 _ ⟨B.exec, B.bytes, B.returns, by rw [← hy.2.1]; exact hown, fun w hw => hts w (List.mem_cons_of_mem _ hw), B.notSynchronized, hml, ⟨Nat.le_refl _, Nat.le_refl _⟩, by rw [← hy.2.2]; exact (name_of_methodNamed B.named B.method).1, hT, hZ, hz⟩ hH va_S.rf (by show 0 + (r.2.1 - s.1) ≤ r.2.1 - s.1; omega) (by show 0 + (r.2.2.1 - s.2.1) ≤ r.2.2.1 - s.2.1; omega) hl
  rw [Nat.zero_add, Nat.zero_add] at h3
  exact h3
theorem hs_blind (E : jE) (s : hS) (av : List Value) : FrameBlind (va_Pc av (hs_W E s)) := by
  intro a U g mk h
  obtain ⟨h1, h2, h3, h4⟩ := h
  exact ⟨h1, h2.warm (U := U.calling g mk a) (State.WarmedH.refl U), h3.moved (U := U.calling g mk a) (Vm.Alike.refl U.vm), h4⟩
section JC
variable {α β : Type} {E : jE} {M My : jM} {cv : α → Option Value} {cvy : β → Option Value} {pc q : Nat} {ls ls' : List (Nat × Value)} {st rest : List Value} {s : hS} {oy : Option (β × hS)} {g : β × hS → Option (α × hS)} {y : MethodName}
theorem va_callJ {p : Program} {l : Launch} {e : Env} {R : Room} {s : State} {m : MethodId} {args : Array Value} {below : List Frame} {meth : Method} {c : Code} {H : Heap} {locs : List Loc} {cells slots : Nat} {Q : State → Prop} {pc : Nat} {ls : Array Slot} {rest st0 : List Value} {a : Array Value} {mc ms : Nat} {v : Option Value} {t : hS}
    (hr : va_Run p l e R s m args below meth c H locs cells slots mc ms (F0 m pc ls st0) rest (jQ E v t a) (hs_A E)) (hS : va_S (hs_A E) s.heap H locs)
    (kk : ∀ (H1 : Heap) (locs1 : List Loc), hs_H E t H1 → va_S (hs_A E) s.heap H1 locs1 → W p l e R s m args below meth c H1 locs1 (cells + mc) (slots + ms) Q (F0 m (pc + 3) ls (v.toList ++ rest))) : W p l e R s m args below meth c H locs cells slots Q (F0 m pc ls st0) := by
  intro T hT X
  obtain ⟨v', st₀, t', T', L, h0, X', hL, e1, e2, ⟨hv, hW, hz, hk⟩, stp⟩ := hr T hT X
  cases hv
  rw [h0] at hz hk
  obtain ⟨t2, a1, b1⟩ := kk T'.heap (locs ++ L) (by rw [e1]; exact hW.2.2)
    ⟨Nat.le_trans hS.1 (by rw [e1]; exact hz), fun q h1 h2 => by rw [e1, hk q (Nat.lt_of_lt_of_le h1 hS.1) h2]; exact hS.2.1 q h1 h2, fun q hq => by
      rcases List.mem_append.mp hq with h | h
      · exact hS.2.2 q h
      · exact hL q h⟩ T' rfl X'
  exact ⟨t2, stp t2 a1, b1⟩
/-- a callee's own words -/
def yF (y : MethodName) (My : jM) (n : Nat) : Prop := Cond.code y My.2.1 My.2.2.1 My.2.2.2.1 ∈ tbG ∧ Cond.initialized y.cls ∈ tbG ∧ (y.cls ≠ "java/lang/invoke/MethodHandle" ∧ y.cls ≠ "java/lang/invoke/VarHandle" ∧ (parseMethodDescriptor y.desc).map (fun d => d.parameters.length) = some n)
theorem yF.good {n : Nat} (h : yF y My n) : GoodIn tbG (Cond.code y My.2.1 My.2.2.1 My.2.2.2.1 :: tbG) := fun w hw => (List.mem_cons.mp hw).elim (fun e => by rw [e]; exact tbG_good _ h.1) (tbG_good w)
/-- any call: what the machine's row must give -/
theorem Jo.call {av : List Value} (hK : jK E y My cvy av s oy)
    (h : ∀ (p : Program) (e : Env) (R : Room) (s0 : State) (m : MethodId) (args : Array Value) (below : List Frame) (meth : Method) (c : Code) (H : Heap) (locs : List Loc) (cells slots : Nat) (lsA : Array Slot) (r1 : β × hS),
      jCx E M p R s0 m args meth c → hs_H E s H → va_S (hs_A E) s0.heap H locs → lsA.size = M.2.2.1 → cells + (r1.2.1 - s.1) ≤ R.cells → slots + (r1.2.2.1 - s.2.1) ≤ R.slots → Met E.1 y (Cond.code y My.2.1 My.2.2.1 My.2.2.2.1 :: tbG) { frames := My.2.2.2.2.2.1, cells := r1.2.1 - s.1, slots := r1.2.2.1 - s.2.1, locals := My.2.2.2.2.2.2 } (va_Pc av (hs_W E s)) (jQ E (cvy r1.1) r1.2) (r1.2.1 - s.1) (r1.2.2.1 - s.2.1) (hs_A E) →
      va_Run p E.1 e R s0 m args below meth c H locs cells slots (r1.2.1 - s.1) (r1.2.2.1 - s.2.1) (F0 m pc lsA st) rest (jQ E (cvy r1.1) r1.2 av.toArray) (hs_A E))
    (kk : ∀ r1 : β × hS, Jo E M cv (pc + 3) ls ((cvy r1.1).toList ++ rest) r1.2 (g r1)) : Jo E M cv pc ls st s (oy.bind g) := by
  intro r hr
  cases ho : oy with
  | none => rw [ho] at hr; cases hr
  | some r1 =>
    rw [ho] at hr
    have k := kk r1 r hr
    obtain ⟨hle, hM⟩ := hK r1 ho
    refine ⟨hle.tr k.1, fun p e R s0 m args below meth c H locs cells slots lsA C hH hS h1 h2 hl => ?_⟩
    have a1 := hle.1
    have a2 := hle.2
    have b1 := k.1.1
    have b2 := k.1.2
    refine va_callJ (h p e R s0 m args below meth c H locs cells slots lsA r1 C hH hS hl.1 (by omega) (by omega) hM) hS fun H1 locs1 hH1 hS1 => ?_
    have e1 : cells + (r1.2.1 - s.1) + (r.2.1 - r1.2.1) = cells + (r.2.1 - s.1) := by omega
    have e2 : slots + (r1.2.2.1 - s.2.1) + (r.2.2.1 - r1.2.2.1) = slots + (r.2.2.1 - s.2.1) := by omega
    have h3 := k.2 p e R s0 m args below meth c H1 locs1 (cells + (r1.2.1 - s.1)) (slots + (r1.2.2.1 - s.2.1)) lsA C hH1 hS1 (by rw [e1]; exact h1) (by rw [e2]; exact h2) hl
    rw [e1, e2] at h3
    exact h3
theorem hs_pre {p : Program} {R : Room} {s0 : State} {m : MethodId} {args : Array Value} {meth : Method} {c : Code} {H : Heap} {locs : List Loc} {av : List Value} (C : jCx E M p R s0 m args meth c) (hH : hs_H E s H) (hS : va_S (hs_A E) s0.heap H locs) : ∀ U : State, U.heap = H → s0.WarmedH U.vm → va_Pc av (hs_W E s) av.toArray U := by
  intro U hU hW
  refine ⟨rfl, C.2.2.2.2.2.2.2.2.2.1.warm hW, ?_, by rw [hU]; exact hH⟩
  rw [hU]
  exact (C.2.2.2.2.2.2.2.2.2.2.1.moved hW.alike).kept (fun a h1 h2 => hS.2.1 a h1 h2)
theorem Jo_callV {a c idx n : Nat} {C : String} {T : u_T} {N : Nat} (As : List Value) (hc : classes[c]? = some (C, T, N) ∧ c < 8 ∧ C = y.cls) (hy : yF y My n) (hyv : Cond.instanceMethod y ∈ tbG ∧ Cond.selects y.cls y y ∈ tbG) (hl : Cond.methodLink M.1 idx y ∈ tbG) (hst : st = As.reverse ++ .ref a :: rest) (hn : As.length = n) (hroom : My.2.2.2.2.2.1 + 1 ≤ M.2.2.2.2.2.1 ∧ 8 + (My.2.2.1 + 11) + My.2.2.2.2.2.2 ≤ M.2.2.2.2.2.2 ∧ (rest.map fun v => v.category).sum ≤ 8) (hd : decode M.2.1 pc = .ok (.invokevirtual idx, 3)) (hK : jK E y My cvy (.ref a :: As) s oy)
    (kk : ∀ r1 : β × hS, Jo E M cv (pc + 3) ls ((cvy r1.1).toList ++ rest) r1.2 (g r1)) : Jo E M cv pc ls st s ((cV s a c oy).bind g) := by
  by_cases hk : (s.2.2.1 a).1 = c
  · rw [cV, if_pos hk]
    refine Jo.call hK (fun p e R s0 m args below meth cd H locs cells slots lsA r1 C0 hH hS hsz h1 h2 hM => ?_) kk
    have hts := C0.2.2.2.2.1
    have hK0 := C0.2.2.2.2.2.2.2.2.2.1.1
    have h8 := C0.2.2.2.2.2.2.2.1
    obtain ⟨hc1, hc2, rfl⟩ := hc
    refine va_runV (As := As) (rest := rest) (Ts := tbG) (C := y.cls) (n := n) ⟨C0.1, C0.2.1, C0.2.2.2.2.2.2.1, C0.2.2.2.1, hts⟩ hM ⟨callB_of n hts hy.good rfl rfl rfl (hts _ hy.2.1) (hts _ hl) hy.2.2 ⟨Nat.le_trans hroom.1 h8.1, Nat.le_trans hroom.2.1 h8.2⟩, hts _ hyv.1, hts _ hyv.2⟩ ⟨hs_blind E s _, ?_, hs_pre C0 hH hS⟩ rfl hn hsz hst (by show 2 * 0 + _ ≤ 8; have := hroom.2.2; omega) hd ⟨h1, h2⟩
    exact va_recv hK0 hH.2.2.1 hc1 (q0 := a - E.2.1) (fs := hs_fs s a c) (by rw [hs_in hH hk (by omega), hs_picO hk hc2])
  · rw [cV, if_neg hk]
    exact fun r h => by cases h
theorem Jo_callS {idx n : Nat} (As : List Value) (hy : yF y My n) (hys : Cond.static y ∈ tbG) (hl : Cond.methodLink M.1 idx y ∈ tbG) (hst : st = As.reverse ++ rest) (hn : As.length = n) (hroom : My.2.2.2.2.2.1 + 1 ≤ M.2.2.2.2.2.1 ∧ 8 + (My.2.2.1 + 11) + My.2.2.2.2.2.2 ≤ M.2.2.2.2.2.2 ∧ (rest.map fun v => v.category).sum ≤ 8) (hd : decode M.2.1 pc = .ok (.invokestatic idx, 3)) (hK : jK E y My cvy As s oy)
    (kk : ∀ r1 : β × hS, Jo E M cv (pc + 3) ls ((cvy r1.1).toList ++ rest) r1.2 (g r1)) : Jo E M cv pc ls st s (oy.bind g) := by
  refine Jo.call hK (fun p e R s0 m args below meth cd H locs cells slots lsA r1 C0 hH hS hsz h1 h2 hM => ?_) kk
  have hts := C0.2.2.2.2.1
  have h8 := C0.2.2.2.2.2.2.2.1
  exact va_runS (As := As) (rest := rest) (Ts := tbG) (n := n) ⟨C0.1, C0.2.1, C0.2.2.2.2.2.2.1, C0.2.2.2.1, hts⟩ hM ⟨callB_of n hts hy.good rfl rfl rfl (hts _ hy.2.1) (hts _ hl) hy.2.2 ⟨Nat.le_trans hroom.1 h8.1, Nat.le_trans hroom.2.1 h8.2⟩, hts _ hys⟩ ⟨hs_blind E s _, hs_pre C0 hH hS⟩ rfl hn hsz hst (by show 2 * 0 + _ ≤ 8; have := hroom.2.2; omega) hd ⟨h1, h2⟩
theorem Jo_callN {idx n : Nat} {host : String} (As : List Value) (hy : yF y My n) (hys : Cond.static y ∈ tbG) (hl : ∀ E U, hs_T E U → va_Nw (.methodLinkNest M.1 idx y host) U) (hst : st = As.reverse ++ rest) (hn : As.length = n) (hroom : My.2.2.2.2.2.1 + 1 ≤ M.2.2.2.2.2.1 ∧ 8 + (My.2.2.1 + 11) + My.2.2.2.2.2.2 ≤ M.2.2.2.2.2.2 ∧ (rest.map fun v => v.category).sum ≤ 8) (hd : decode M.2.1 pc = .ok (.invokestatic idx, 3)) (hK : jK E y My cvy As s oy)
    (kk : ∀ r1 : β × hS, Jo E M cv (pc + 3) ls ((cvy r1.1).toList ++ rest) r1.2 (g r1)) : Jo E M cv pc ls st s (oy.bind g) := by
  refine Jo.call hK (fun p e R s0 m args below meth cd H locs cells slots lsA r1 C0 hH hS hsz h1 h2 hM => ?_) kk
  have hts := C0.2.2.2.2.1
  have h8 := C0.2.2.2.2.2.2.2.1
  exact va_runSN (As := As) (rest := rest) (Ts := tbG) (n := n) ⟨C0.1, C0.2.1, C0.2.2.2.2.2.2.1, C0.2.2.2.1, hts⟩ hM ⟨va_cnB n hts hy.good rfl rfl rfl (hl E s0 C0.2.2.2.2.2.2.2.2.2.1) (hts _ hy.2.1) hy.2.2 ⟨Nat.le_trans hroom.1 h8.1, Nat.le_trans hroom.2.1 h8.2⟩, hts _ hys, trivial⟩ ⟨hs_blind E s _, hs_pre C0 hH hS⟩ rfl hn hsz hst (by show 2 * 0 + _ ≤ 8; have := hroom.2.2; omega) hd ⟨h1, h2⟩
theorem Jo_callC {a idx n : Nat} {nm : String} {nL fr lo : Nat} {own : String} {cc : ByteArray} (As : List Value) (hM : My = (own, cc, nL, none, nm, fr, lo)) (hy : yF y My n) (hyv : Cond.instanceMethod y ∈ tbG ∧ y.name = "<init>") (hl : Cond.methodLink M.1 idx y ∈ tbG) (hst : st = As.reverse ++ .ref a :: rest) (hn : As.length = n) (hroom : My.2.2.2.2.2.1 + 1 ≤ M.2.2.2.2.2.1 ∧ 8 + (My.2.2.1 + 11) + My.2.2.2.2.2.2 ≤ M.2.2.2.2.2.2 ∧ (rest.map fun v => v.category).sum ≤ 8) (hd : decode M.2.1 pc = .ok (.invokespecial idx, 3)) (hK : jK E y My cvy (.ref a :: As) s oy)
    (kk : ∀ r1 : β × hS, Jo E M cv (pc + 3) ls ((cvy r1.1).toList ++ rest) r1.2 (g r1)) : Jo E M cv pc ls st s (oy.bind g) := by
  subst hM
  refine Jo.call hK (fun p e R s0 m args below meth cd H locs cells slots lsA r1 C0 hH hS hsz h1 h2 hM => ?_) kk
  have hts := C0.2.2.2.2.1
  have h8 := C0.2.2.2.2.2.2.2.1
  exact va_runI (As := As) (rest := rest) (Ts := tbG) (n := n) ⟨C0.1, C0.2.1, C0.2.2.2.2.2.2.1, C0.2.2.2.1, hts⟩ hM ⟨callB_of n hts hy.good rfl rfl rfl (hts _ hy.2.1) (hts _ hl) hy.2.2 ⟨Nat.le_trans hroom.1 h8.1, Nat.le_trans hroom.2.1 h8.2⟩, hyv.2, hts _ hyv.1⟩ ⟨hs_blind E s _, hs_pre C0 hH hS⟩ rfl hn hsz hst (by show 2 * 0 + _ ≤ 8; have := hroom.2.2; omega) hd ⟨h1, h2⟩
end JC
end
section
section JX
variable {α : Type} {E : jE} {M : jM} {cv : α → Option Value} {pc q : Nat} {ls ls' : List (Nat × Value)} {st : List Value} {s : hS} {o : Option (α × hS)}
theorem i32ne {x v : Int32} (n : Int) (hv : v.toInt = n) (h : ¬ x = v) : x.toInt ≠ n := fun e => h (Int32.toInt_inj.mp (e.trans hv.symm))
theorem Jo_case {x v : Int32} {o1 o2 : Option (α × hS)} (k1 : Jo E M cv pc ls (.int v :: st) s o1) (k2 : ¬ x = v → Jo E M cv pc ls (.int x :: st) s o2) : Jo E M cv pc ls (.int x :: st) s (if x = v then o1 else o2) := by
  by_cases h : x = v
  · subst h
    rw [if_pos rfl]
    exact k1
  · rw [if_neg h]
    exact k2 h
theorem Jo_tabIn {dflt lo hi : Int} {offs : Array Int} {len : Nat} {v : Int32} {off : Int} (tgt : Nat) (hd : decode M.2.1 pc = .ok (.tableswitch dflt lo hi offs, len)) (h1 : ¬ v.toInt < lo) (h2 : ¬ hi < v.toInt) (ho : offs[(v.toInt - lo).toNat]? = some off) (ht : (pc : Int) + off = (tgt : Int)) (k : Jo E M cv tgt ls st s o) : Jo E M cv pc ls (.int v :: st) s o :=
  Jo.pure (fun _ _ _ _ _ _ _ _ _ _ _ _ _ lsA _ C _ hl0 _ _ kk => lv_tableIn C.1 C.2.1 hd h1 h2 ho ht (kk lsA hl0)) k
theorem Jo_tabOut {dflt lo hi : Int} {offs : Array Int} {len : Nat} {x : Int32} (tgt : Nat) (hd : decode M.2.1 pc = .ok (.tableswitch dflt lo hi offs, len)) (h : x.toInt < lo ∨ hi < x.toInt) (ht : (pc : Int) + dflt = (tgt : Int)) (k : Jo E M cv tgt ls st s o) : Jo E M cv pc ls (.int x :: st) s o :=
  Jo.pure (fun _ _ _ _ _ _ _ _ _ _ _ _ _ lsA _ C _ hl0 _ _ kk => lv_tableOut C.1 C.2.1 hd h ht (kk lsA hl0)) k
theorem Jo_look {dflt : Int} {ps : Array (Int × Int)} {len : Nat} {x : Int32} {off : Int} (tgt : Nat) (hd : decode M.2.1 pc = .ok (.lookupswitch dflt ps, len)) (hp : (ps.toList.zip (ps.toList.drop 1)).all (fun (a, next) => a.1 < next.1) = true) (ho : Op.lookupswitch.offset ps.toList dflt x.toInt = off) (ht : (pc : Int) + off = (tgt : Int)) (k : Jo E M cv tgt ls st s o) : Jo E M cv pc ls (.int x :: st) s o :=
  Jo.pure (fun _ _ _ _ _ _ _ _ _ _ _ _ _ lsA _ C _ hl0 _ _ kk => lv_lookup C.1 C.2.1 hd hp ho ht (kk lsA hl0)) k
theorem Jo_ifnonnull {a : Nat} {off : Int} (tgt : Nat) (hd : decode M.2.1 pc = .ok (.ifnonnull off, 3)) (ht : (pc : Int) + off = (tgt : Int)) (k : Jo E M cv tgt ls st s o) : Jo E M cv pc ls (.ref a :: st) s o :=
  Jo.pure (fun _ _ _ _ _ _ _ _ _ _ _ _ _ lsA _ C _ hl0 _ _ kk => lv_ifnonnull C.1 C.2.1 hd ht (kk lsA hl0)) k
theorem Jo_ifnull {a : Nat} {off : Int} (hd : decode M.2.1 pc = .ok (.ifnull off, 3)) (hq : pc + 3 = q) (k : Jo E M cv q ls st s o) : Jo E M cv pc ls (.ref a :: st) s o := by
  subst hq
  exact Jo.pure (fun _ _ _ _ _ _ _ _ _ _ _ _ _ lsA _ C _ hl0 _ _ kk => lv_ifnull C.1 C.2.1 hd (kk lsA hl0)) k
/-- the static array ABOVE, which nobody writes -/
theorem Jo_above {idx : Nat} (hd : dI M.2.1 pc q (.getstatic idx) 3) (hl : Cond.fieldLink M.1 idx "HeronTalk" "ABOVE" "[I" ∈ tbG) (k : Jo E M cv q ls (.ref E.2.2.2.2.1 :: st) s o) : Jo E M cv pc ls st s o := by
  obtain ⟨hd, rfl⟩ := hd
  exact Jo.pure (fun _ _ _ _ _ _ _ _ _ _ _ _ _ lsA _ C hS hl0 _ _ kk => va_gets C.1 C.2.1 C.2.2.2.2.2.2.2.2.2.2.1.1 hS C.2.2.2.1 (C.2.2.2.2.1 _ hl) (fun _ h => h) hd (kk lsA hl0)) k
theorem Jo_abovelen (hd : dI M.2.1 pc q .arraylength 1) (k : Jo E M cv q ls (.int 6 :: st) s o) : Jo E M cv pc ls (.ref E.2.2.2.2.1 :: st) s o := by
  obtain ⟨hd, rfl⟩ := hd
  exact Jo.pure (fun _ _ _ _ _ _ _ _ _ _ _ _ _ lsA _ C hS hl0 _ _ kk => va_tlen C.1 C.2.1 C.2.2.2.2.2.2.2.2.2.2.1.2.1 hS rfl hd (kk lsA hl0)) k
def abv (i : Int32) : Option Int32 := if i < 0 ∨ 6 ≤ i.toNatClampNeg then none else some (hs_above i.toNatClampNeg)
theorem Jo_aboveld {i : Int32} {g : Int32 → Option (α × hS)} (hd : dI M.2.1 pc q .iaload 1) (k : ∀ x, Jo E M cv q ls (.int x :: st) s (g x)) : Jo E M cv pc ls (.int i :: .ref E.2.2.2.2.1 :: st) s ((abv i).bind g) := by
  by_cases hc : i < 0 ∨ 6 ≤ i.toNatClampNeg
  · rw [abv, if_pos hc]; exact Jo_none
  · rw [abv, if_neg hc]
    obtain ⟨hd, rfl⟩ := hd
    exact Jo.pure (fun _ _ _ _ _ _ _ _ _ _ _ _ _ lsA _ C hS hl0 _ _ kk => va_ti C.1 C.2.1 C.2.2.2.2.2.2.2.2.2.2.1.2.1 hS hc rfl hd (kk lsA hl0)) (k _)
theorem Jo_max {x y : Int32} {idx : Nat} (hd : dI M.2.1 pc q (.invokestatic idx) 3) (hw : Cond.methodLink M.1 idx Lib.Math.max.name ∈ tbG ∧ Cond.static Lib.Math.max.name ∈ tbG ∧ Cond.initialized "java/lang/Math" ∈ tbG ∧ Cond.code Lib.Math.max.name Lib.Math.max.code 2 (some .int) ∈ tbG) (hr : 1 ≤ M.2.2.2.2.2.1 ∧ (st.map fun v => v.category).sum + 13 ≤ M.2.2.2.2.2.2) (k : Jo E M cv q ls (.int (if x < y then y else x) :: st) s o) : Jo E M cv pc ls (.int y :: .int x :: st) s o := by
  obtain ⟨hd, rfl⟩ := hd
  exact Jo.pure (fun _ _ _ _ _ _ _ _ _ _ _ _ _ lsA _ C _ hl0 h1 h2 kk => va_mmax C.1 C.2.1 (by rw [C.2.2.2.2.2.2.1]; exact hl0.1.symm) C.2.2.2.1 (C.2.2.2.2.1 _ hw.1) (C.2.2.2.2.1 _ hw.2.1) (C.2.2.2.2.1 _ hw.2.2.1) (C.2.2.2.2.1 _ hw.2.2.2) (Nat.le_trans hr.1 C.2.2.2.2.2.2.2.1.1) (Nat.le_trans hr.2 C.2.2.2.2.2.2.2.1.2) h1 h2 hd (kk lsA hl0)) k
theorem Jo_min {x y : Int32} {idx : Nat} (hd : dI M.2.1 pc q (.invokestatic idx) 3) (hw : Cond.methodLink M.1 idx Lib.Math.min.name ∈ tbG ∧ Cond.static Lib.Math.min.name ∈ tbG ∧ Cond.initialized "java/lang/Math" ∈ tbG ∧ Cond.code Lib.Math.min.name Lib.Math.min.code 2 (some .int) ∈ tbG) (hr : 1 ≤ M.2.2.2.2.2.1 ∧ (st.map fun v => v.category).sum + 13 ≤ M.2.2.2.2.2.2) (k : Jo E M cv q ls (.int (if y < x then y else x) :: st) s o) : Jo E M cv pc ls (.int y :: .int x :: st) s o := by
  obtain ⟨hd, rfl⟩ := hd
  exact Jo.pure (fun _ _ _ _ _ _ _ _ _ _ _ _ _ lsA _ C _ hl0 h1 h2 kk => va_mmin C.1 C.2.1 (by rw [C.2.2.2.2.2.2.1]; exact hl0.1.symm) C.2.2.2.1 (C.2.2.2.2.1 _ hw.1) (C.2.2.2.2.1 _ hw.2.1) (C.2.2.2.2.1 _ hw.2.2.1) (C.2.2.2.2.1 _ hw.2.2.2) (Nat.le_trans hr.1 C.2.2.2.2.2.2.2.1.1) (Nat.le_trans hr.2 C.2.2.2.2.2.2.2.1.2) h1 h2 hd (kk lsA hl0)) k
/-- ints of one row into another -/
def hcpy (s : hS) (a0 : Nat) (sp : Int32) (a : Nat) (dp n : Int32) : Option hS :=
  if ((s.2.2.1 a0).1 = 10 ∧ (s.2.2.1 a).1 = 10) ∧ (¬ sp < 0 ∧ ¬ dp < 0 ∧ ¬ n < 0) ∧ sp.toNatClampNeg + n.toNatClampNeg ≤ (s.2.2.1 a0).2 ∧ dp.toNatClampNeg + n.toNatClampNeg ≤ (s.2.2.1 a).2 then some (s.1, s.2.1, s.2.2.1, fun b => if b = a then va_cpy (s.2.2.2.1 a0) (s.2.2.2.1 a) sp.toNatClampNeg dp.toNatClampNeg n.toNatClampNeg else s.2.2.2.1 b, s.2.2.2.2) else none
theorem nn_i (z : Int32) (hz : ¬ z < 0) : z.toInt = (z.toNatClampNeg : Int) := by
  have hz0 : (0 : Int) ≤ z.toInt := by
    have := Int32.not_lt.mp hz
    simpa using Int32.le_iff_toInt_le.mp this
  show z.toInt = ((z.toInt.toNat : Nat) : Int)
  omega
theorem Jo_copy {a0 a idx : Nat} {sp dp n : Int32} {g : hS → Option (α × hS)} (hd : dI M.2.1 pc q (.invokestatic idx) 3) (hw : Cond.methodLink M.1 idx arraycopyName ∈ tbG ∧ Cond.native arraycopyName ∈ tbG ∧ Cond.static arraycopyName ∈ tbG ∧ Cond.initialized "java/lang/System" ∈ tbG) (hr : 1 ≤ M.2.2.2.2.2.1 ∧ (st.map fun v => v.category).sum + (nativeFrameWords "java/lang/System" "arraycopy" 5 + 11) ≤ M.2.2.2.2.2.2) (k : ∀ s', Jo E M cv q ls st s' (g s')) : Jo E M cv pc ls (.int n :: .int dp :: .ref a :: .int sp :: .ref a0 :: st) s ((hcpy s a0 sp a dp n).bind g) := by
  by_cases hc : ((s.2.2.1 a0).1 = 10 ∧ (s.2.2.1 a).1 = 10) ∧ (¬ sp < 0 ∧ ¬ dp < 0 ∧ ¬ n < 0) ∧ sp.toNatClampNeg + n.toNatClampNeg ≤ (s.2.2.1 a0).2 ∧ dp.toNatClampNeg + n.toNatClampNeg ≤ (s.2.2.1 a).2
  · rw [hcpy, if_pos hc]
    obtain ⟨⟨hk0, hk1⟩, ⟨h1, h2, h3⟩, h4, h5⟩ := hc
    obtain ⟨hd, rfl⟩ := hd
    refine Jo.write (s' := (s.1, s.2.1, s.2.2.1, fun b => if b = a then va_cpy (s.2.2.2.1 a0) (s.2.2.2.1 a) sp.toNatClampNeg dp.toNatClampNeg n.toNatClampNeg else s.2.2.2.1 b, s.2.2.2.2)) rfl rfl (fun p e R s0 m args below meth cd H locs cells slots lsA Q C hH hS hsz k9 => ?_) (k _)
    have hts := C.2.2.2.2.1
    have hK := C.2.2.2.2.2.2.2.2.2.1.1
    have h8 := C.2.2.2.2.2.2.2.1
    have hc0 := hH.at hk0 (by omega)
    have hc1 := hH.at hk1 (by omega)
    rw [hs_picI hk0 (by omega) (by omega)] at hc0
    rw [hs_picI hk1 (by omega) (by omega)] at hc1
    replace hc0 : H[a0]? = some (vp_cell (E.2.2.2.1 10) ((s.2.2.1 a0).2, .inl (s.2.2.2.1 a0))) := hc0
    replace hc1 : H[a]? = some (vp_cell (E.2.2.2.1 10) ((s.2.2.1 a).2, .inl (s.2.2.2.1 a))) := hc1
    obtain ⟨-, kA, hkA, cm, hkk⟩ := (hK.2 2 _ rfl).1 0 (fun _ => .int 0)
    have hbA := (hH.2.2.2 a (by omega)).1
    have hl : a < H.size := (Array.getElem?_eq_some_iff.mp hc1).1
    intro T hT X
    obtain ⟨vm', X', step⟩ := X.arraycopy C.1 C.2.2.2.1 (hts _ hw.1) (hts _ hw.2.1) (hts _ hw.2.2.1) (hts _ hw.2.2.2) (src := a0) (dst := a) (cs := vp_cell (E.2.2.2.1 10) ((s.2.2.1 a0).2, .inl (s.2.2.2.1 a0))) (cd := vp_cell (E.2.2.2.1 10) ((s.2.2.1 a).2, .inl (s.2.2.2.1 a))) (srcPos := sp) (destPos := dp) (n := n) (by rw [hT]; exact hc0) (by rw [hT]; exact hc1)
      (fun _ h => by cases h) (fun _ h => by cases h) (fun h => by cases h) (fun h => by cases h) hkA hkA hkk hkk (by simp [refKind]) h1 h2 h3
      (by rw [nn_i sp h1, nn_i n h3]; show ¬ _ > ((arrV _ _ (fun j => .int (s.2.2.2.1 a0 j))).slots.size : Int); rw [arrV_size]; omega)
      (by rw [nn_i dp h2, nn_i n h3]; show ¬ _ > ((arrV _ _ (fun j => .int (s.2.2.2.1 a j))).slots.size : Int); rw [arrV_size]; omega)
      (fun vm₁ _ i hi => by
        have e : (vp_cell (E.2.2.2.1 10) ((s.2.2.1 a0).2, .inl (s.2.2.2.1 a0))).slots.getD (sp.toNatClampNeg + i) .null = .int (s.2.2.2.1 a0 (sp.toNatClampNeg + i)) := by
          show (arrV _ _ (fun j => .int (s.2.2.2.1 a0 j))).slots.getD _ _ = _
          rw [Array.getD_eq_getD_getElem?, arrV_read _ _ (by omega)]
          rfl
        refine ⟨?_, ?_⟩
        · rw [e]; rfl
        · rw [e]; exact trivial)
      (g := F0 m pc lsA (.int n :: .int dp :: .ref a :: .int sp :: .ref a0 :: st)) rfl (by rw [C.2.2.2.2.2.2.1]; exact hsz) (rest := st) rfl (by rw [C.2.1]; exact hd) (Nat.le_trans hr.1 h8.1) (by show 2 * 0 + _ + _ ≤ _; have := hr.2; have := h8.2; omega)
    have e1 : copied (vp_cell (E.2.2.2.1 10) ((s.2.2.1 a0).2, .inl (s.2.2.2.1 a0))) (vp_cell (E.2.2.2.1 10) ((s.2.2.1 a).2, .inl (s.2.2.2.1 a))) sp dp n = vp_cell (E.2.2.2.1 10) ((s.2.2.1 a).2, .inl (va_cpy (s.2.2.2.1 a0) (s.2.2.2.1 a) sp.toNatClampNeg dp.toNatClampNeg n.toNatClampNeg)) := va_copied (fun z => .int z) _ _ _ _ h4
    rw [e1] at X' step
    generalize hcell : vp_cell (E.2.2.2.1 10) ((s.2.2.1 a).2, .inl (va_cpy (s.2.2.2.1 a0) (s.2.2.2.1 a) sp.toNatClampNeg dp.toNatClampNeg n.toNatClampNeg)) = cl at X' step
    have hheap : ((T.setVm vm').setCell a cl).heap = H.setIfInBounds a cl := by rw [← hT]; rfl
    have oq : ∀ q : Nat, q ≠ a → (H.setIfInBounds a cl)[q]? = H[q]? := fun q hq => by simp [Array.getElem?_setIfInBounds, Ne.symm hq]
    have z : (H.setIfInBounds a cl).size = H.size := by simp
    obtain ⟨t, a1, b1⟩ := k9 _ _ (hH.put (t := (s.1, s.2.1, s.2.2.1, fun b => if b = a then va_cpy (s.2.2.2.1 a0) (s.2.2.2.1 a) sp.toNatClampNeg dp.toNatClampNeg n.toNatClampNeg else s.2.2.2.1 b, s.2.2.2.2)) (a := a) rfl (fun _ => rfl) (fun b hb => hs_pic_congr rfl (by simp [hb]) rfl) z oq (by
        rw [hs_picI (s := (s.1, s.2.1, s.2.2.1, fun b => if b = a then va_cpy (s.2.2.2.1 a0) (s.2.2.2.1 a) sp.toNatClampNeg dp.toNatClampNeg n.toNatClampNeg else s.2.2.2.1 b, s.2.2.2.2)) (c := 10) hk1 (by omega) (by omega)]
        show (H.setIfInBounds a cl)[a]? = some (vp_cell _ _)
        rw [← hcell]
        simp [Array.getElem?_setIfInBounds, hl])) ⟨by rw [z]; exact hS.1, fun q g1 g2 => by
        rw [oq q (fun e => g2 (by rw [e]; exact hbA))]
        exact hS.2.1 q g1 g2, fun q hq => by
        rcases List.mem_append.mp hq with h | h
        · exact hS.2.2 q h
        · obtain ⟨z, -, hz⟩ := List.mem_map.mp h
          rw [← hz]
          exact hbA⟩ _ hheap X'
    exact ⟨t, step t a1, b1⟩
  · rw [hcpy, if_neg hc]; exact Jo_none
end JX
end
section
theorem w_0 : Cond.instanceMethod ⟨"java/lang/Object", "<init>", "()V"⟩ ∈ tbG := tbG_in (List.mem_append_right _ (List.mem_append_left _ (List.mem_of_getElem? (l := tables_1_1) (i := 22) rfl))) rfl
theorem w_1 : Cond.code ⟨"java/lang/Object", "<init>", "()V"⟩ object_method_1_code 1 (none : Option Jvm.ClassFile.FieldType) ∈ tbG := tbG_in (List.mem_append_right _ (List.mem_append_left _ (List.mem_of_getElem? (l := tables_1_1) (i := 23) rfl))) rfl
theorem w_2 : Cond.initialized "java/lang/Math" ∈ tbG := tbG_in (List.mem_append_right _ (List.mem_append_left _ (List.mem_of_getElem? (l := tables_1_1) (i := 9) rfl))) rfl
theorem w_3 : Cond.static ⟨"java/lang/Math", "max", "(II)I"⟩ ∈ tbG := tbG_in (List.mem_append_right _ (List.mem_append_right _ (List.mem_append_left _ (List.mem_of_getElem? (l := tables_1_2) (i := 130) rfl)))) rfl
theorem w_4 : Cond.code ⟨"java/lang/Math", "max", "(II)I"⟩ prog_11_method_65_code 2 (some .int) ∈ tbG := tbG_in (List.mem_append_right _ (List.mem_append_right _ (List.mem_append_left _ (List.mem_of_getElem? (l := tables_1_2) (i := 131) rfl)))) rfl
theorem w_5 : Cond.static ⟨"java/lang/Math", "min", "(II)I"⟩ ∈ tbG := tbG_in (List.mem_append_right _ (List.mem_append_right _ (List.mem_append_left _ (List.mem_of_getElem? (l := tables_1_2) (i := 127) rfl)))) rfl
theorem w_6 : Cond.code ⟨"java/lang/Math", "min", "(II)I"⟩ prog_11_method_69_code 2 (some .int) ∈ tbG := tbG_in (List.mem_append_right _ (List.mem_append_right _ (List.mem_append_left _ (List.mem_of_getElem? (l := tables_1_2) (i := 128) rfl)))) rfl
theorem w_7 : Cond.native ⟨"java/lang/System", "arraycopy", "(Ljava/lang/Object;ILjava/lang/Object;II)V"⟩ ∈ tbG := tbG_in (List.mem_append_right _ (List.mem_append_right _ (List.mem_append_right _ (List.mem_append_right _ (List.mem_append_left _ (List.mem_of_getElem? (l := tables_1_4) (i := 53) rfl)))))) rfl
theorem w_8 : Cond.static ⟨"java/lang/System", "arraycopy", "(Ljava/lang/Object;ILjava/lang/Object;II)V"⟩ ∈ tbG := tbG_in (List.mem_append_right _ (List.mem_append_right _ (List.mem_append_right _ (List.mem_append_right _ (List.mem_append_left _ (List.mem_of_getElem? (l := tables_1_4) (i := 52) rfl)))))) rfl
theorem w_9 : Cond.initialized "java/lang/System" ∈ tbG := tbG_in (List.mem_append_right _ (List.mem_append_left _ (List.mem_of_getElem? (l := tables_1_1) (i := 15) rfl))) rfl
theorem w_10 : Cond.constant "java/lang/Integer" 267 252645135 ∈ tbG := tbG_in (List.mem_append_right _ (List.mem_append_right _ (List.mem_append_left _ (List.mem_of_getElem? (l := tables_1_2) (i := 73) rfl)))) rfl
theorem w_11 : Cond.constant "java/lang/Integer" 266 858993459 ∈ tbG := tbG_in (List.mem_append_right _ (List.mem_append_right _ (List.mem_append_left _ (List.mem_of_getElem? (l := tables_1_2) (i := 72) rfl)))) rfl
theorem w_12 : Cond.constant "java/lang/Integer" 265 1431655765 ∈ tbG := tbG_in (List.mem_append_right _ (List.mem_append_right _ (List.mem_append_left _ (List.mem_of_getElem? (l := tables_1_2) (i := 71) rfl)))) rfl
theorem w_13 : Cond.code ⟨"java/lang/Integer", "bitCount", "(I)I"⟩ prog_10_method_49_code 1 (some .int) ∈ tbG := tbG_in (List.mem_append_right _ (List.mem_append_right _ (List.mem_append_left _ (List.mem_of_getElem? (l := tables_1_2) (i := 70) rfl)))) rfl
theorem w_14 : Cond.initialized "java/lang/Integer" ∈ tbG := tbG_in (List.mem_append_right _ (List.mem_append_left _ (List.mem_of_getElem? (l := tables_1_1) (i := 8) rfl))) rfl
theorem w_15 : Cond.static ⟨"java/lang/Integer", "bitCount", "(I)I"⟩ ∈ tbG := tbG_in (List.mem_append_right _ (List.mem_append_right _ (List.mem_append_left _ (List.mem_of_getElem? (l := tables_1_2) (i := 69) rfl)))) rfl
theorem w_16 : Cond.fieldLink "HeronTalk$Tape" 15 "HeronTalk$Tape" "length" "I" ∈ tbG := tbG_in (List.mem_append_right _ (List.mem_append_left _ (List.mem_of_getElem? (l := tables_1_1) (i := 117) rfl))) rfl
theorem w_17 : Cond.fieldLink "HeronTalk$Tape" 9 "HeronTalk$Tape" "bytes" "[B" ∈ tbG := tbG_in (List.mem_append_right _ (List.mem_append_left _ (List.mem_of_getElem? (l := tables_1_1) (i := 116) rfl))) rfl
theorem w_18 : Cond.arrayClass .byte ∈ tbG := tbG_in (List.mem_append_right _ (List.mem_append_left _ (List.mem_of_getElem? (l := tables_1_1) (i := 125) rfl))) rfl
theorem w_19 : Cond.methodLink "HeronTalk$Tape" 3 ⟨"java/lang/Object", "<init>", "()V"⟩ ∈ tbG := tbG_in (List.mem_append_right _ (List.mem_append_left _ (List.mem_of_getElem? (l := tables_1_1) (i := 115) rfl))) rfl
theorem w_20 : Cond.code ⟨"HeronTalk$Tape", "<init>", "()V"⟩ prog_5_method_1_code 1 (none : Option Jvm.ClassFile.FieldType) ∈ tbG := tbG_in (List.mem_append_right _ (List.mem_append_left _ (List.mem_of_getElem? (l := tables_1_1) (i := 114) rfl))) rfl
theorem w_21 : Cond.initialized "HeronTalk$Tape" ∈ tbG := tbG_in (List.mem_append_right _ (List.mem_append_left _ (List.mem_of_getElem? (l := tables_1_1) (i := 4) rfl))) rfl
theorem w_22 : Cond.instanceMethod ⟨"HeronTalk$Tape", "<init>", "()V"⟩ ∈ tbG := tbG_in (List.mem_append_right _ (List.mem_append_left _ (List.mem_of_getElem? (l := tables_1_1) (i := 113) rfl))) rfl
theorem w_23 : Cond.fieldLink "HeronTalk$Reader" 22 "HeronTalk$Reader" "pile" "[I" ∈ tbG := tbG_in (List.mem_append_right _ (List.mem_append_left _ (List.mem_of_getElem? (l := tables_1_1) (i := 130) rfl))) rfl
theorem w_24 : Cond.arrayClass .int ∈ tbG := tbG_in (List.mem_append_right _ (List.mem_append_left _ (List.mem_of_getElem? (l := tables_1_1) (i := 103) rfl))) rfl
theorem w_25 : Cond.fieldLink "HeronTalk$Reader" 18 "HeronTalk$Reader" "code" "[I" ∈ tbG := tbG_in (List.mem_append_right _ (List.mem_append_left _ (List.mem_of_getElem? (l := tables_1_1) (i := 128) rfl))) rfl
theorem w_26 : Cond.fieldLink "HeronTalk$Reader" 12 "HeronTalk$Reader" "tape" "LHeronTalk$Tape;" ∈ tbG := tbG_in (List.mem_append_right _ (List.mem_append_left _ (List.mem_of_getElem? (l := tables_1_1) (i := 126) rfl))) rfl
theorem w_27 : Cond.methodLink "HeronTalk$Reader" 11 ⟨"HeronTalk$Tape", "<init>", "()V"⟩ ∈ tbG := tbG_in (List.mem_append_right _ (List.mem_append_left _ (List.mem_of_getElem? (l := tables_1_1) (i := 112) rfl))) rfl
theorem w_28 : Cond.classLink "HeronTalk$Reader" 9 "HeronTalk$Tape" ∈ tbG := tbG_in (List.mem_append_right _ (List.mem_append_left _ (List.mem_of_getElem? (l := tables_1_1) (i := 110) rfl))) rfl
theorem w_29 : Cond.instantiable "HeronTalk$Tape" 2 ∈ tbG := tbG_in (List.mem_append_right _ (List.mem_append_left _ (List.mem_of_getElem? (l := tables_1_1) (i := 111) rfl))) rfl
theorem w_30 : Cond.methodLink "HeronTalk$Reader" 3 ⟨"java/lang/Object", "<init>", "()V"⟩ ∈ tbG := tbG_in (List.mem_append_right _ (List.mem_append_left _ (List.mem_of_getElem? (l := tables_1_1) (i := 109) rfl))) rfl
theorem w_31 : Cond.code ⟨"HeronTalk$Reader", "<init>", "()V"⟩ prog_2_method_1_code 1 (none : Option Jvm.ClassFile.FieldType) ∈ tbG := tbG_in (List.mem_append_right _ (List.mem_append_left _ (List.mem_of_getElem? (l := tables_1_1) (i := 108) rfl))) rfl
theorem w_32 : Cond.initialized "HeronTalk$Reader" ∈ tbG := tbG_in (List.mem_append_right _ (List.mem_append_left _ (List.mem_of_getElem? (l := tables_1_1) (i := 3) rfl))) rfl
theorem w_33 : Cond.instanceMethod ⟨"HeronTalk$Reader", "<init>", "()V"⟩ ∈ tbG := tbG_in (List.mem_append_right _ (List.mem_append_left _ (List.mem_of_getElem? (l := tables_1_1) (i := 107) rfl))) rfl
theorem w_34 : Cond.code ⟨"HeronTalk$Tape", "at", "(I)I"⟩ prog_5_method_3_code 2 (some .int) ∈ tbG := tbG_in (List.mem_append_right _ (List.mem_append_right _ (List.mem_append_right _ (List.mem_append_left _ (List.mem_of_getElem? (l := tables_1_3) (i := 83) rfl))))) rfl
theorem w_35 : Cond.instanceMethod ⟨"HeronTalk$Tape", "at", "(I)I"⟩ ∈ tbG := tbG_in (List.mem_append_right _ (List.mem_append_right _ (List.mem_append_right _ (List.mem_append_left _ (List.mem_of_getElem? (l := tables_1_3) (i := 81) rfl))))) rfl
theorem w_36 : Cond.selects "HeronTalk$Tape" ⟨"HeronTalk$Tape", "at", "(I)I"⟩ ⟨"HeronTalk$Tape", "at", "(I)I"⟩ ∈ tbG := tbG_in (List.mem_append_right _ (List.mem_append_right _ (List.mem_append_right _ (List.mem_append_left _ (List.mem_of_getElem? (l := tables_1_3) (i := 82) rfl))))) rfl
theorem w_37 : Cond.methodLink "HeronTalk$Tape" 19 ⟨"HeronTalk$Tape", "at", "(I)I"⟩ ∈ tbG := tbG_in (List.mem_append_right _ (List.mem_append_right _ (List.mem_append_right _ (List.mem_append_left _ (List.mem_of_getElem? (l := tables_1_3) (i := 80) rfl))))) rfl
theorem w_38 : Cond.code ⟨"HeronTalk$Tape", "behindBlanks", "(I)I"⟩ prog_5_method_6_code 3 (some .int) ∈ tbG := tbG_in (List.mem_append_right _ (List.mem_append_right _ (List.mem_append_right _ (List.mem_append_left _ (List.mem_of_getElem? (l := tables_1_3) (i := 79) rfl))))) rfl
theorem w_39 : Cond.instanceMethod ⟨"HeronTalk$Tape", "behindBlanks", "(I)I"⟩ ∈ tbG := tbG_in (List.mem_append_right _ (List.mem_append_right _ (List.mem_append_right _ (List.mem_append_left _ (List.mem_of_getElem? (l := tables_1_3) (i := 77) rfl))))) rfl
theorem w_40 : Cond.selects "HeronTalk$Tape" ⟨"HeronTalk$Tape", "behindBlanks", "(I)I"⟩ ⟨"HeronTalk$Tape", "behindBlanks", "(I)I"⟩ ∈ tbG := tbG_in (List.mem_append_right _ (List.mem_append_right _ (List.mem_append_right _ (List.mem_append_left _ (List.mem_of_getElem? (l := tables_1_3) (i := 78) rfl))))) rfl
theorem w_41 : Cond.code ⟨"HeronTalk$Tape", "hasLetter", "(I)Z"⟩ prog_5_method_4_code 2 (some .boolean) ∈ tbG := tbG_in (List.mem_append_right _ (List.mem_append_right _ (List.mem_append_right _ (List.mem_append_left _ (List.mem_of_getElem? (l := tables_1_3) (i := 91) rfl))))) rfl
theorem w_42 : Cond.instanceMethod ⟨"HeronTalk$Tape", "hasLetter", "(I)Z"⟩ ∈ tbG := tbG_in (List.mem_append_right _ (List.mem_append_right _ (List.mem_append_right _ (List.mem_append_left _ (List.mem_of_getElem? (l := tables_1_3) (i := 89) rfl))))) rfl
theorem w_43 : Cond.selects "HeronTalk$Tape" ⟨"HeronTalk$Tape", "hasLetter", "(I)Z"⟩ ⟨"HeronTalk$Tape", "hasLetter", "(I)Z"⟩ ∈ tbG := tbG_in (List.mem_append_right _ (List.mem_append_right _ (List.mem_append_right _ (List.mem_append_left _ (List.mem_of_getElem? (l := tables_1_3) (i := 90) rfl))))) rfl
theorem w_44 : Cond.code ⟨"HeronTalk$Tape", "hasDigit", "(I)Z"⟩ prog_5_method_5_code 2 (some .boolean) ∈ tbG := tbG_in (List.mem_append_right _ (List.mem_append_right _ (List.mem_append_right _ (List.mem_append_left _ (List.mem_of_getElem? (l := tables_1_3) (i := 95) rfl))))) rfl
theorem w_45 : Cond.instanceMethod ⟨"HeronTalk$Tape", "hasDigit", "(I)Z"⟩ ∈ tbG := tbG_in (List.mem_append_right _ (List.mem_append_right _ (List.mem_append_right _ (List.mem_append_left _ (List.mem_of_getElem? (l := tables_1_3) (i := 93) rfl))))) rfl
theorem w_46 : Cond.selects "HeronTalk$Tape" ⟨"HeronTalk$Tape", "hasDigit", "(I)Z"⟩ ⟨"HeronTalk$Tape", "hasDigit", "(I)Z"⟩ ∈ tbG := tbG_in (List.mem_append_right _ (List.mem_append_right _ (List.mem_append_right _ (List.mem_append_left _ (List.mem_of_getElem? (l := tables_1_3) (i := 94) rfl))))) rfl
theorem w_47 : Cond.methodLink "HeronTalk$Tape" 27 ⟨"HeronTalk$Tape", "hasDigit", "(I)Z"⟩ ∈ tbG := tbG_in (List.mem_append_right _ (List.mem_append_right _ (List.mem_append_right _ (List.mem_append_left _ (List.mem_of_getElem? (l := tables_1_3) (i := 92) rfl))))) rfl
theorem w_48 : Cond.methodLink "HeronTalk$Tape" 23 ⟨"HeronTalk$Tape", "hasLetter", "(I)Z"⟩ ∈ tbG := tbG_in (List.mem_append_right _ (List.mem_append_right _ (List.mem_append_right _ (List.mem_append_left _ (List.mem_of_getElem? (l := tables_1_3) (i := 88) rfl))))) rfl
theorem w_49 : Cond.methodLink "HeronTalk$Tape" 30 ⟨"java/lang/Math", "min", "(II)I"⟩ ∈ tbG := tbG_in (List.mem_append_right _ (List.mem_append_right _ (List.mem_append_right _ (List.mem_append_left _ (List.mem_of_getElem? (l := tables_1_3) (i := 96) rfl))))) rfl
theorem w_50 : Cond.code ⟨"HeronTalk$Tape", "behindWord", "(I)I"⟩ prog_5_method_7_code 3 (some .int) ∈ tbG := tbG_in (List.mem_append_right _ (List.mem_append_right _ (List.mem_append_right _ (List.mem_append_left _ (List.mem_of_getElem? (l := tables_1_3) (i := 87) rfl))))) rfl
theorem w_51 : Cond.instanceMethod ⟨"HeronTalk$Tape", "behindWord", "(I)I"⟩ ∈ tbG := tbG_in (List.mem_append_right _ (List.mem_append_right _ (List.mem_append_right _ (List.mem_append_left _ (List.mem_of_getElem? (l := tables_1_3) (i := 85) rfl))))) rfl
theorem w_52 : Cond.selects "HeronTalk$Tape" ⟨"HeronTalk$Tape", "behindWord", "(I)I"⟩ ⟨"HeronTalk$Tape", "behindWord", "(I)I"⟩ ∈ tbG := tbG_in (List.mem_append_right _ (List.mem_append_right _ (List.mem_append_right _ (List.mem_append_left _ (List.mem_of_getElem? (l := tables_1_3) (i := 86) rfl))))) rfl
theorem w_53 : Cond.methodLink "HeronTalk$Tape" 41 ⟨"java/lang/String", "charAt", "(I)C"⟩ ∈ tbG := tbG_in (List.mem_append_right _ (List.mem_append_right _ (List.mem_append_right _ (List.mem_append_left _ (List.mem_of_getElem? (l := tables_1_3) (i := 116) rfl))))) rfl
theorem w_54 : Cond.methodLink "HeronTalk$Tape" 36 ⟨"java/lang/String", "length", "()I"⟩ ∈ tbG := tbG_in (List.mem_append_right _ (List.mem_append_right _ (List.mem_append_right _ (List.mem_append_left _ (List.mem_of_getElem? (l := tables_1_3) (i := 106) rfl))))) rfl
theorem w_55 : Cond.code ⟨"HeronTalk$Tape", "hasWord", "(Ljava/lang/String;II)Z"⟩ prog_5_method_8_code 5 (some .boolean) ∈ tbG := tbG_in (List.mem_append_right _ (List.mem_append_right _ (List.mem_append_right _ (List.mem_append_left _ (List.mem_of_getElem? (l := tables_1_3) (i := 105) rfl))))) rfl
theorem w_56 : Cond.instanceMethod ⟨"HeronTalk$Tape", "hasWord", "(Ljava/lang/String;II)Z"⟩ ∈ tbG := tbG_in (List.mem_append_right _ (List.mem_append_right _ (List.mem_append_right _ (List.mem_append_left _ (List.mem_of_getElem? (l := tables_1_3) (i := 103) rfl))))) rfl
theorem w_57 : Cond.selects "HeronTalk$Tape" ⟨"HeronTalk$Tape", "hasWord", "(Ljava/lang/String;II)Z"⟩ ⟨"HeronTalk$Tape", "hasWord", "(Ljava/lang/String;II)Z"⟩ ∈ tbG := tbG_in (List.mem_append_right _ (List.mem_append_right _ (List.mem_append_right _ (List.mem_append_left _ (List.mem_of_getElem? (l := tables_1_3) (i := 104) rfl))))) rfl
theorem w_58 : Cond.methodLink "HeronTalk$Reader" 83 ⟨"HeronTalk$Tape", "hasWord", "(Ljava/lang/String;II)Z"⟩ ∈ tbG := tbG_in (List.mem_append_right _ (List.mem_append_right _ (List.mem_append_right _ (List.mem_append_left _ (List.mem_of_getElem? (l := tables_1_3) (i := 102) rfl))))) rfl
theorem w_59 : Cond.code ⟨"HeronTalk$Reader", "keyAt", "(II)I"⟩ prog_2_method_4_code 3 (some .int) ∈ tbG := tbG_in (List.mem_append_right _ (List.mem_append_right _ (List.mem_append_right _ (List.mem_append_left _ (List.mem_of_getElem? (l := tables_1_3) (i := 100) rfl))))) rfl
theorem w_60 : Cond.instanceMethod ⟨"HeronTalk$Reader", "keyAt", "(II)I"⟩ ∈ tbG := tbG_in (List.mem_append_right _ (List.mem_append_right _ (List.mem_append_right _ (List.mem_append_left _ (List.mem_of_getElem? (l := tables_1_3) (i := 98) rfl))))) rfl
theorem w_61 : Cond.selects "HeronTalk$Reader" ⟨"HeronTalk$Reader", "keyAt", "(II)I"⟩ ⟨"HeronTalk$Reader", "keyAt", "(II)I"⟩ ∈ tbG := tbG_in (List.mem_append_right _ (List.mem_append_right _ (List.mem_append_right _ (List.mem_append_left _ (List.mem_of_getElem? (l := tables_1_3) (i := 99) rfl))))) rfl
theorem w_62 : Cond.code ⟨"HeronTalk$Tape", "numberAt", "(II)I"⟩ prog_5_method_9_code 5 (some .int) ∈ tbG := tbG_in (List.mem_append_right _ (List.mem_append_right _ (List.mem_append_right _ (List.mem_append_left _ (List.mem_of_getElem? (l := tables_1_3) (i := 165) rfl))))) rfl
theorem w_63 : Cond.instanceMethod ⟨"HeronTalk$Tape", "numberAt", "(II)I"⟩ ∈ tbG := tbG_in (List.mem_append_right _ (List.mem_append_right _ (List.mem_append_right _ (List.mem_append_left _ (List.mem_of_getElem? (l := tables_1_3) (i := 163) rfl))))) rfl
theorem w_64 : Cond.selects "HeronTalk$Tape" ⟨"HeronTalk$Tape", "numberAt", "(II)I"⟩ ⟨"HeronTalk$Tape", "numberAt", "(II)I"⟩ ∈ tbG := tbG_in (List.mem_append_right _ (List.mem_append_right _ (List.mem_append_right _ (List.mem_append_left _ (List.mem_of_getElem? (l := tables_1_3) (i := 164) rfl))))) rfl
theorem w_65 : Cond.fieldLink "HeronTalk$Reader" 25 "HeronTalk$Reader" "codes" "I" ∈ tbG := tbG_in (List.mem_append_right _ (List.mem_append_left _ (List.mem_of_getElem? (l := tables_1_1) (i := 129) rfl))) rfl
theorem w_66 : Cond.code ⟨"HeronTalk$Reader", "put", "(I)V"⟩ prog_2_method_11_code 2 (none : Option Jvm.ClassFile.FieldType) ∈ tbG := tbG_in (List.mem_append_right _ (List.mem_append_right _ (List.mem_append_right _ (List.mem_append_left _ (List.mem_of_getElem? (l := tables_1_3) (i := 173) rfl))))) rfl
theorem w_67 : Cond.instanceMethod ⟨"HeronTalk$Reader", "put", "(I)V"⟩ ∈ tbG := tbG_in (List.mem_append_right _ (List.mem_append_right _ (List.mem_append_right _ (List.mem_append_left _ (List.mem_of_getElem? (l := tables_1_3) (i := 171) rfl))))) rfl
theorem w_68 : Cond.selects "HeronTalk$Reader" ⟨"HeronTalk$Reader", "put", "(I)V"⟩ ⟨"HeronTalk$Reader", "put", "(I)V"⟩ ∈ tbG := tbG_in (List.mem_append_right _ (List.mem_append_right _ (List.mem_append_right _ (List.mem_append_left _ (List.mem_of_getElem? (l := tables_1_3) (i := 172) rfl))))) rfl
theorem w_69 : Cond.methodLink "HeronTalk$Reader" 119 ⟨"HeronTalk$Reader", "put", "(I)V"⟩ ∈ tbG := tbG_in (List.mem_append_right _ (List.mem_append_right _ (List.mem_append_right _ (List.mem_append_left _ (List.mem_of_getElem? (l := tables_1_3) (i := 170) rfl))))) rfl
theorem w_70 : Cond.fieldLink "HeronTalk$Reader" 38 "HeronTalk$Reader" "nots" "I" ∈ tbG := tbG_in (List.mem_append_right _ (List.mem_append_left _ (List.mem_of_getElem? (l := tables_1_1) (i := 135) rfl))) rfl
theorem w_71 : Cond.fieldLink "HeronTalk$Reader" 29 "HeronTalk$Reader" "piled" "I" ∈ tbG := tbG_in (List.mem_append_right _ (List.mem_append_left _ (List.mem_of_getElem? (l := tables_1_1) (i := 131) rfl))) rfl
theorem w_72 : Cond.fieldLink "HeronTalk$Reader" 41 "HeronTalk$Reader" "wantsPiece" "Z" ∈ tbG := tbG_in (List.mem_append_right _ (List.mem_append_left _ (List.mem_of_getElem? (l := tables_1_1) (i := 136) rfl))) rfl
theorem w_73 : Cond.code ⟨"HeronTalk$Reader", "endPiece", "()V"⟩ prog_2_method_14_code 1 (none : Option Jvm.ClassFile.FieldType) ∈ tbG := tbG_in (List.mem_append_right _ (List.mem_append_right _ (List.mem_append_right _ (List.mem_append_left _ (List.mem_of_getElem? (l := tables_1_3) (i := 177) rfl))))) rfl
theorem w_74 : Cond.instanceMethod ⟨"HeronTalk$Reader", "endPiece", "()V"⟩ ∈ tbG := tbG_in (List.mem_append_right _ (List.mem_append_right _ (List.mem_append_right _ (List.mem_append_left _ (List.mem_of_getElem? (l := tables_1_3) (i := 175) rfl))))) rfl
theorem w_75 : Cond.selects "HeronTalk$Reader" ⟨"HeronTalk$Reader", "endPiece", "()V"⟩ ⟨"HeronTalk$Reader", "endPiece", "()V"⟩ ∈ tbG := tbG_in (List.mem_append_right _ (List.mem_append_right _ (List.mem_append_right _ (List.mem_append_left _ (List.mem_of_getElem? (l := tables_1_3) (i := 176) rfl))))) rfl
theorem w_76 : Cond.methodLink "HeronTalk$Reader" 109 ⟨"HeronTalk$Reader", "endPiece", "()V"⟩ ∈ tbG := tbG_in (List.mem_append_right _ (List.mem_append_right _ (List.mem_append_right _ (List.mem_append_left _ (List.mem_of_getElem? (l := tables_1_3) (i := 174) rfl))))) rfl
theorem w_77 : Cond.fieldLink "HeronTalk$Reader" 32 "HeronTalk$Reader" "leaves" "I" ∈ tbG := tbG_in (List.mem_append_right _ (List.mem_append_left _ (List.mem_of_getElem? (l := tables_1_1) (i := 133) rfl))) rfl
theorem w_78 : Cond.code ⟨"HeronTalk$Reader", "putLeaf", "(I)V"⟩ prog_2_method_12_code 2 (none : Option Jvm.ClassFile.FieldType) ∈ tbG := tbG_in (List.mem_append_right _ (List.mem_append_right _ (List.mem_append_right _ (List.mem_append_left _ (List.mem_of_getElem? (l := tables_1_3) (i := 169) rfl))))) rfl
theorem w_79 : Cond.instanceMethod ⟨"HeronTalk$Reader", "putLeaf", "(I)V"⟩ ∈ tbG := tbG_in (List.mem_append_right _ (List.mem_append_right _ (List.mem_append_right _ (List.mem_append_left _ (List.mem_of_getElem? (l := tables_1_3) (i := 167) rfl))))) rfl
theorem w_80 : Cond.selects "HeronTalk$Reader" ⟨"HeronTalk$Reader", "putLeaf", "(I)V"⟩ ⟨"HeronTalk$Reader", "putLeaf", "(I)V"⟩ ∈ tbG := tbG_in (List.mem_append_right _ (List.mem_append_right _ (List.mem_append_right _ (List.mem_append_left _ (List.mem_of_getElem? (l := tables_1_3) (i := 168) rfl))))) rfl
theorem w_81 : Cond.fieldLink "HeronTalk$Reader" 56 "HeronTalk$Reader" "key" "I" ∈ tbG := tbG_in (List.mem_append_right _ (List.mem_append_left _ (List.mem_of_getElem? (l := tables_1_1) (i := 132) rfl))) rfl
theorem w_82 : Cond.code ⟨"HeronTalk$Reader", "nameOf", "(I)I"⟩ prog_2_method_5_code 2 (some .int) ∈ tbG := tbG_in (List.mem_append_right _ (List.mem_append_right _ (List.mem_append_right _ (List.mem_append_left _ (List.mem_of_getElem? (l := tables_1_3) (i := 182) rfl))))) rfl
theorem w_83 : Cond.instanceMethod ⟨"HeronTalk$Reader", "nameOf", "(I)I"⟩ ∈ tbG := tbG_in (List.mem_append_right _ (List.mem_append_right _ (List.mem_append_right _ (List.mem_append_left _ (List.mem_of_getElem? (l := tables_1_3) (i := 180) rfl))))) rfl
theorem w_84 : Cond.selects "HeronTalk$Reader" ⟨"HeronTalk$Reader", "nameOf", "(I)I"⟩ ⟨"HeronTalk$Reader", "nameOf", "(I)I"⟩ ∈ tbG := tbG_in (List.mem_append_right _ (List.mem_append_right _ (List.mem_append_right _ (List.mem_append_left _ (List.mem_of_getElem? (l := tables_1_3) (i := 181) rfl))))) rfl
theorem w_85 : Cond.code ⟨"HeronTalk$Reader", "pileUp", "(I)V"⟩ prog_2_method_10_code 2 (none : Option Jvm.ClassFile.FieldType) ∈ tbG := tbG_in (List.mem_append_right _ (List.mem_append_right _ (List.mem_append_right _ (List.mem_append_left _ (List.mem_of_getElem? (l := tables_1_3) (i := 186) rfl))))) rfl
theorem w_86 : Cond.instanceMethod ⟨"HeronTalk$Reader", "pileUp", "(I)V"⟩ ∈ tbG := tbG_in (List.mem_append_right _ (List.mem_append_right _ (List.mem_append_right _ (List.mem_append_left _ (List.mem_of_getElem? (l := tables_1_3) (i := 184) rfl))))) rfl
theorem w_87 : Cond.selects "HeronTalk$Reader" ⟨"HeronTalk$Reader", "pileUp", "(I)V"⟩ ⟨"HeronTalk$Reader", "pileUp", "(I)V"⟩ ∈ tbG := tbG_in (List.mem_append_right _ (List.mem_append_right _ (List.mem_append_right _ (List.mem_append_left _ (List.mem_of_getElem? (l := tables_1_3) (i := 185) rfl))))) rfl
theorem w_88 : Cond.methodLink "HeronTalk$Reader" 106 ⟨"HeronTalk$Reader", "pileUp", "(I)V"⟩ ∈ tbG := tbG_in (List.mem_append_right _ (List.mem_append_right _ (List.mem_append_right _ (List.mem_append_left _ (List.mem_of_getElem? (l := tables_1_3) (i := 183) rfl))))) rfl
theorem w_89 : Cond.fieldLink "HeronTalk$Reader" 35 "HeronTalk$Reader" "brackets" "I" ∈ tbG := tbG_in (List.mem_append_right _ (List.mem_append_left _ (List.mem_of_getElem? (l := tables_1_1) (i := 134) rfl))) rfl
theorem w_90 : Cond.methodLink "HeronTalk$Reader" 97 ⟨"HeronTalk$Reader", "putLeaf", "(I)V"⟩ ∈ tbG := tbG_in (List.mem_append_right _ (List.mem_append_right _ (List.mem_append_right _ (List.mem_append_left _ (List.mem_of_getElem? (l := tables_1_3) (i := 166) rfl))))) rfl
theorem w_91 : Cond.methodLink "HeronTalk$Reader" 103 ⟨"HeronTalk$Reader", "nameOf", "(I)I"⟩ ∈ tbG := tbG_in (List.mem_append_right _ (List.mem_append_right _ (List.mem_append_right _ (List.mem_append_left _ (List.mem_of_getElem? (l := tables_1_3) (i := 179) rfl))))) rfl
theorem w_92 : Cond.methodLink "HeronTalk$Reader" 100 ⟨"HeronTalk$Tape", "hasLetter", "(I)Z"⟩ ∈ tbG := tbG_in (List.mem_append_right _ (List.mem_append_right _ (List.mem_append_right _ (List.mem_append_left _ (List.mem_of_getElem? (l := tables_1_3) (i := 178) rfl))))) rfl
theorem w_93 : Cond.methodLink "HeronTalk$Reader" 94 ⟨"HeronTalk$Tape", "numberAt", "(II)I"⟩ ∈ tbG := tbG_in (List.mem_append_right _ (List.mem_append_right _ (List.mem_append_right _ (List.mem_append_left _ (List.mem_of_getElem? (l := tables_1_3) (i := 162) rfl))))) rfl
theorem w_94 : Cond.methodLink "HeronTalk$Reader" 59 ⟨"HeronTalk$Tape", "hasDigit", "(I)Z"⟩ ∈ tbG := tbG_in (List.mem_append_right _ (List.mem_append_right _ (List.mem_append_right _ (List.mem_append_left _ (List.mem_of_getElem? (l := tables_1_3) (i := 156) rfl))))) rfl
theorem w_95 : Cond.methodLink "HeronTalk$Reader" 91 ⟨"HeronTalk$Tape", "at", "(I)I"⟩ ∈ tbG := tbG_in (List.mem_append_right _ (List.mem_append_right _ (List.mem_append_right _ (List.mem_append_left _ (List.mem_of_getElem? (l := tables_1_3) (i := 161) rfl))))) rfl
theorem w_96 : Cond.methodLink "HeronTalk$Reader" 49 ⟨"HeronTalk$Tape", "behindWord", "(I)I"⟩ ∈ tbG := tbG_in (List.mem_append_right _ (List.mem_append_right _ (List.mem_append_right _ (List.mem_append_left _ (List.mem_of_getElem? (l := tables_1_3) (i := 84) rfl))))) rfl
theorem w_97 : Cond.code ⟨"HeronTalk$Reader", "takePiece", "(I)I"⟩ prog_2_method_6_code 4 (some .int) ∈ tbG := tbG_in (List.mem_append_right _ (List.mem_append_right _ (List.mem_append_right _ (List.mem_append_left _ (List.mem_of_getElem? (l := tables_1_3) (i := 160) rfl))))) rfl
theorem w_98 : Cond.instanceMethod ⟨"HeronTalk$Reader", "takePiece", "(I)I"⟩ ∈ tbG := tbG_in (List.mem_append_right _ (List.mem_append_right _ (List.mem_append_right _ (List.mem_append_left _ (List.mem_of_getElem? (l := tables_1_3) (i := 158) rfl))))) rfl
theorem w_99 : Cond.selects "HeronTalk$Reader" ⟨"HeronTalk$Reader", "takePiece", "(I)I"⟩ ⟨"HeronTalk$Reader", "takePiece", "(I)I"⟩ ∈ tbG := tbG_in (List.mem_append_right _ (List.mem_append_right _ (List.mem_append_right _ (List.mem_append_left _ (List.mem_of_getElem? (l := tables_1_3) (i := 159) rfl))))) rfl
theorem w_100 : Cond.code ⟨"HeronTalk$Reader", "rankOf", "(I)I"⟩ prog_2_method_8_code 2 (some .int) ∈ tbG := tbG_in (List.mem_append_right _ (List.mem_append_right _ (List.mem_append_right _ (List.mem_append_left _ (List.mem_of_getElem? (l := tables_1_3) (i := 202) rfl))))) rfl
theorem w_101 : Cond.instanceMethod ⟨"HeronTalk$Reader", "rankOf", "(I)I"⟩ ∈ tbG := tbG_in (List.mem_append_right _ (List.mem_append_right _ (List.mem_append_right _ (List.mem_append_left _ (List.mem_of_getElem? (l := tables_1_3) (i := 200) rfl))))) rfl
theorem w_102 : Cond.selects "HeronTalk$Reader" ⟨"HeronTalk$Reader", "rankOf", "(I)I"⟩ ⟨"HeronTalk$Reader", "rankOf", "(I)I"⟩ ∈ tbG := tbG_in (List.mem_append_right _ (List.mem_append_right _ (List.mem_append_right _ (List.mem_append_left _ (List.mem_of_getElem? (l := tables_1_3) (i := 201) rfl))))) rfl
theorem w_103 : Cond.methodLink "HeronTalk$Reader" 112 ⟨"HeronTalk$Reader", "rankOf", "(I)I"⟩ ∈ tbG := tbG_in (List.mem_append_right _ (List.mem_append_right _ (List.mem_append_right _ (List.mem_append_left _ (List.mem_of_getElem? (l := tables_1_3) (i := 199) rfl))))) rfl
theorem w_104 : Cond.code ⟨"HeronTalk$Reader", "topRank", "()I"⟩ prog_2_method_9_code 1 (some .int) ∈ tbG := tbG_in (List.mem_append_right _ (List.mem_append_right _ (List.mem_append_right _ (List.mem_append_left _ (List.mem_of_getElem? (l := tables_1_3) (i := 198) rfl))))) rfl
theorem w_105 : Cond.instanceMethod ⟨"HeronTalk$Reader", "topRank", "()I"⟩ ∈ tbG := tbG_in (List.mem_append_right _ (List.mem_append_right _ (List.mem_append_right _ (List.mem_append_left _ (List.mem_of_getElem? (l := tables_1_3) (i := 196) rfl))))) rfl
theorem w_106 : Cond.selects "HeronTalk$Reader" ⟨"HeronTalk$Reader", "topRank", "()I"⟩ ⟨"HeronTalk$Reader", "topRank", "()I"⟩ ∈ tbG := tbG_in (List.mem_append_right _ (List.mem_append_right _ (List.mem_append_right _ (List.mem_append_left _ (List.mem_of_getElem? (l := tables_1_3) (i := 197) rfl))))) rfl
theorem w_107 : Cond.methodLink "HeronTalk$Reader" 115 ⟨"HeronTalk$Reader", "topRank", "()I"⟩ ∈ tbG := tbG_in (List.mem_append_right _ (List.mem_append_right _ (List.mem_append_right _ (List.mem_append_left _ (List.mem_of_getElem? (l := tables_1_3) (i := 195) rfl))))) rfl
theorem w_108 : Cond.code ⟨"HeronTalk$Reader", "release", "(I)V"⟩ prog_2_method_13_code 2 (none : Option Jvm.ClassFile.FieldType) ∈ tbG := tbG_in (List.mem_append_right _ (List.mem_append_right _ (List.mem_append_right _ (List.mem_append_left _ (List.mem_of_getElem? (l := tables_1_3) (i := 194) rfl))))) rfl
theorem w_109 : Cond.instanceMethod ⟨"HeronTalk$Reader", "release", "(I)V"⟩ ∈ tbG := tbG_in (List.mem_append_right _ (List.mem_append_right _ (List.mem_append_right _ (List.mem_append_left _ (List.mem_of_getElem? (l := tables_1_3) (i := 192) rfl))))) rfl
theorem w_110 : Cond.selects "HeronTalk$Reader" ⟨"HeronTalk$Reader", "release", "(I)V"⟩ ⟨"HeronTalk$Reader", "release", "(I)V"⟩ ∈ tbG := tbG_in (List.mem_append_right _ (List.mem_append_right _ (List.mem_append_right _ (List.mem_append_left _ (List.mem_of_getElem? (l := tables_1_3) (i := 193) rfl))))) rfl
theorem w_111 : Cond.methodLink "HeronTalk$Reader" 72 ⟨"HeronTalk$Reader", "release", "(I)V"⟩ ∈ tbG := tbG_in (List.mem_append_right _ (List.mem_append_right _ (List.mem_append_right _ (List.mem_append_left _ (List.mem_of_getElem? (l := tables_1_3) (i := 191) rfl))))) rfl
theorem w_112 : Cond.code ⟨"HeronTalk$Reader", "takeSign", "(I)I"⟩ prog_2_method_7_code 4 (some .int) ∈ tbG := tbG_in (List.mem_append_right _ (List.mem_append_right _ (List.mem_append_right _ (List.mem_append_left _ (List.mem_of_getElem? (l := tables_1_3) (i := 190) rfl))))) rfl
theorem w_113 : Cond.instanceMethod ⟨"HeronTalk$Reader", "takeSign", "(I)I"⟩ ∈ tbG := tbG_in (List.mem_append_right _ (List.mem_append_right _ (List.mem_append_right _ (List.mem_append_left _ (List.mem_of_getElem? (l := tables_1_3) (i := 188) rfl))))) rfl
theorem w_114 : Cond.selects "HeronTalk$Reader" ⟨"HeronTalk$Reader", "takeSign", "(I)I"⟩ ⟨"HeronTalk$Reader", "takeSign", "(I)I"⟩ ∈ tbG := tbG_in (List.mem_append_right _ (List.mem_append_right _ (List.mem_append_right _ (List.mem_append_left _ (List.mem_of_getElem? (l := tables_1_3) (i := 189) rfl))))) rfl
theorem w_115 : Cond.fieldLink "HeronTalk$Reader" 63 "HeronTalk$Tape" "length" "I" ∈ tbG := tbG_in (List.mem_append_right _ (List.mem_append_left _ (List.mem_of_getElem? (l := tables_1_1) (i := 118) rfl))) rfl
theorem w_116 : Cond.methodLink "HeronTalk$Reader" 69 ⟨"HeronTalk$Reader", "takeSign", "(I)I"⟩ ∈ tbG := tbG_in (List.mem_append_right _ (List.mem_append_right _ (List.mem_append_right _ (List.mem_append_left _ (List.mem_of_getElem? (l := tables_1_3) (i := 187) rfl))))) rfl
theorem w_117 : Cond.methodLink "HeronTalk$Reader" 66 ⟨"HeronTalk$Reader", "takePiece", "(I)I"⟩ ∈ tbG := tbG_in (List.mem_append_right _ (List.mem_append_right _ (List.mem_append_right _ (List.mem_append_left _ (List.mem_of_getElem? (l := tables_1_3) (i := 157) rfl))))) rfl
theorem w_118 : Cond.methodLink "HeronTalk$Reader" 45 ⟨"HeronTalk$Tape", "behindBlanks", "(I)I"⟩ ∈ tbG := tbG_in (List.mem_append_right _ (List.mem_append_right _ (List.mem_append_right _ (List.mem_append_left _ (List.mem_of_getElem? (l := tables_1_3) (i := 76) rfl))))) rfl
theorem w_119 : Cond.methodLink "HeronTalk$Reader" 52 ⟨"HeronTalk$Reader", "keyAt", "(II)I"⟩ ∈ tbG := tbG_in (List.mem_append_right _ (List.mem_append_right _ (List.mem_append_right _ (List.mem_append_left _ (List.mem_of_getElem? (l := tables_1_3) (i := 97) rfl))))) rfl
theorem w_120 : Cond.code ⟨"HeronTalk$Reader", "findFault", "()I"⟩ prog_2_method_2_code 4 (some .int) ∈ tbG := tbG_in (List.mem_append_right _ (List.mem_append_right _ (List.mem_append_right _ (List.mem_append_left _ (List.mem_of_getElem? (l := tables_1_3) (i := 75) rfl))))) rfl
theorem w_121 : Cond.instanceMethod ⟨"HeronTalk$Reader", "findFault", "()I"⟩ ∈ tbG := tbG_in (List.mem_append_right _ (List.mem_append_right _ (List.mem_append_right _ (List.mem_append_left _ (List.mem_of_getElem? (l := tables_1_3) (i := 73) rfl))))) rfl
theorem w_122 : Cond.selects "HeronTalk$Reader" ⟨"HeronTalk$Reader", "findFault", "()I"⟩ ⟨"HeronTalk$Reader", "findFault", "()I"⟩ ∈ tbG := tbG_in (List.mem_append_right _ (List.mem_append_right _ (List.mem_append_right _ (List.mem_append_left _ (List.mem_of_getElem? (l := tables_1_3) (i := 74) rfl))))) rfl
theorem w_123 : Cond.fieldLink "HeronTalk$Text" 22 "HeronTalk$Text" "pile" "[I" ∈ tbG := tbG_in (List.mem_append_right _ (List.mem_append_right _ (List.mem_append_right _ (List.mem_append_left _ (List.mem_of_getElem? (l := tables_1_3) (i := 219) rfl))))) rfl
theorem w_124 : Cond.fieldLink "HeronTalk$Text" 18 "HeronTalk$Text" "code" "[I" ∈ tbG := tbG_in (List.mem_append_right _ (List.mem_append_right _ (List.mem_append_right _ (List.mem_append_left _ (List.mem_of_getElem? (l := tables_1_3) (i := 218) rfl))))) rfl
theorem w_125 : Cond.fieldLink "HeronTalk$Text" 15 "HeronTalk$Text" "leaves" "I" ∈ tbG := tbG_in (List.mem_append_right _ (List.mem_append_right _ (List.mem_append_right _ (List.mem_append_left _ (List.mem_of_getElem? (l := tables_1_3) (i := 216) rfl))))) rfl
theorem w_126 : Cond.fieldLink "HeronTalk$Text" 9 "HeronTalk$Text" "key" "I" ∈ tbG := tbG_in (List.mem_append_right _ (List.mem_append_right _ (List.mem_append_right _ (List.mem_append_left _ (List.mem_of_getElem? (l := tables_1_3) (i := 213) rfl))))) rfl
theorem w_127 : Cond.methodLink "HeronTalk$Text" 3 ⟨"java/lang/Object", "<init>", "()V"⟩ ∈ tbG := tbG_in (List.mem_append_right _ (List.mem_append_right _ (List.mem_append_right _ (List.mem_append_left _ (List.mem_of_getElem? (l := tables_1_3) (i := 212) rfl))))) rfl
theorem w_128 : Cond.code ⟨"HeronTalk$Text", "<init>", "(II[I)V"⟩ prog_6_method_1_code 4 (none : Option Jvm.ClassFile.FieldType) ∈ tbG := tbG_in (List.mem_append_right _ (List.mem_append_right _ (List.mem_append_right _ (List.mem_append_left _ (List.mem_of_getElem? (l := tables_1_3) (i := 211) rfl))))) rfl
theorem w_129 : Cond.initialized "HeronTalk$Text" ∈ tbG := tbG_in (List.mem_append_right _ (List.mem_append_left _ (List.mem_of_getElem? (l := tables_1_1) (i := 14) rfl))) rfl
theorem w_130 : Cond.instanceMethod ⟨"HeronTalk$Text", "<init>", "(II[I)V"⟩ ∈ tbG := tbG_in (List.mem_append_right _ (List.mem_append_right _ (List.mem_append_right _ (List.mem_append_left _ (List.mem_of_getElem? (l := tables_1_3) (i := 210) rfl))))) rfl
theorem w_131 : Cond.methodLink "HeronTalk$Reader" 78 ⟨"HeronTalk$Text", "<init>", "(II[I)V"⟩ ∈ tbG := tbG_in (List.mem_append_right _ (List.mem_append_right _ (List.mem_append_right _ (List.mem_append_left _ (List.mem_of_getElem? (l := tables_1_3) (i := 209) rfl))))) rfl
theorem w_132 : Cond.classLink "HeronTalk$Reader" 76 "HeronTalk$Text" ∈ tbG := tbG_in (List.mem_append_right _ (List.mem_append_right _ (List.mem_append_right _ (List.mem_append_left _ (List.mem_of_getElem? (l := tables_1_3) (i := 207) rfl))))) rfl
theorem w_133 : Cond.instantiable "HeronTalk$Text" 4 ∈ tbG := tbG_in (List.mem_append_right _ (List.mem_append_right _ (List.mem_append_right _ (List.mem_append_left _ (List.mem_of_getElem? (l := tables_1_3) (i := 208) rfl))))) rfl
theorem w_134 : Cond.code ⟨"HeronTalk$Reader", "makeText", "()LHeronTalk$Text;"⟩ prog_2_method_3_code 3 (some (.object "HeronTalk$Text")) ∈ tbG := tbG_in (List.mem_append_right _ (List.mem_append_right _ (List.mem_append_right _ (List.mem_append_left _ (List.mem_of_getElem? (l := tables_1_3) (i := 206) rfl))))) rfl
theorem w_135 : Cond.instanceMethod ⟨"HeronTalk$Reader", "makeText", "()LHeronTalk$Text;"⟩ ∈ tbG := tbG_in (List.mem_append_right _ (List.mem_append_right _ (List.mem_append_right _ (List.mem_append_left _ (List.mem_of_getElem? (l := tables_1_3) (i := 204) rfl))))) rfl
theorem w_136 : Cond.selects "HeronTalk$Reader" ⟨"HeronTalk$Reader", "makeText", "()LHeronTalk$Text;"⟩ ⟨"HeronTalk$Reader", "makeText", "()LHeronTalk$Text;"⟩ ∈ tbG := tbG_in (List.mem_append_right _ (List.mem_append_right _ (List.mem_append_right _ (List.mem_append_left _ (List.mem_of_getElem? (l := tables_1_3) (i := 205) rfl))))) rfl
theorem w_137 : Cond.fieldLink "HeronTalk$Sheet" 18 "HeronTalk$Sheet" "places" "[I" ∈ tbG := tbG_in (List.mem_append_right _ (List.mem_append_left _ (List.mem_of_getElem? (l := tables_1_1) (i := 169) rfl))) rfl
theorem w_138 : Cond.fieldLink "HeronTalk$Sheet" 15 "HeronTalk$Sheet" "size" "I" ∈ tbG := tbG_in (List.mem_append_right _ (List.mem_append_left _ (List.mem_of_getElem? (l := tables_1_1) (i := 167) rfl))) rfl
theorem w_139 : Cond.fieldLink "HeronTalk$Sheet" 9 "HeronTalk$Sheet" "sort" "I" ∈ tbG := tbG_in (List.mem_append_right _ (List.mem_append_left _ (List.mem_of_getElem? (l := tables_1_1) (i := 165) rfl))) rfl
theorem w_140 : Cond.methodLink "HeronTalk$Sheet" 3 ⟨"java/lang/Object", "<init>", "()V"⟩ ∈ tbG := tbG_in (List.mem_append_right _ (List.mem_append_left _ (List.mem_of_getElem? (l := tables_1_1) (i := 164) rfl))) rfl
theorem w_141 : Cond.code ⟨"HeronTalk$Sheet", "<init>", "()V"⟩ prog_3_method_1_code 1 (none : Option Jvm.ClassFile.FieldType) ∈ tbG := tbG_in (List.mem_append_right _ (List.mem_append_left _ (List.mem_of_getElem? (l := tables_1_1) (i := 163) rfl))) rfl
theorem w_142 : Cond.initialized "HeronTalk$Sheet" ∈ tbG := tbG_in (List.mem_append_right _ (List.mem_append_left _ (List.mem_of_getElem? (l := tables_1_1) (i := 5) rfl))) rfl
theorem w_143 : Cond.instanceMethod ⟨"HeronTalk$Sheet", "<init>", "()V"⟩ ∈ tbG := tbG_in (List.mem_append_right _ (List.mem_append_left _ (List.mem_of_getElem? (l := tables_1_1) (i := 162) rfl))) rfl
theorem w_144 : Cond.code ⟨"HeronTalk$Sheet", "lieAnew", "(II)V"⟩ prog_3_method_2_code 4 (none : Option Jvm.ClassFile.FieldType) ∈ tbG := tbG_in (List.mem_append_right _ (List.mem_append_right _ (List.mem_append_right _ (List.mem_append_right _ (List.mem_append_left _ (List.mem_of_getElem? (l := tables_1_4) (i := 13) rfl)))))) rfl
theorem w_145 : Cond.instanceMethod ⟨"HeronTalk$Sheet", "lieAnew", "(II)V"⟩ ∈ tbG := tbG_in (List.mem_append_right _ (List.mem_append_right _ (List.mem_append_right _ (List.mem_append_right _ (List.mem_append_left _ (List.mem_of_getElem? (l := tables_1_4) (i := 11) rfl)))))) rfl
theorem w_146 : Cond.selects "HeronTalk$Sheet" ⟨"HeronTalk$Sheet", "lieAnew", "(II)V"⟩ ⟨"HeronTalk$Sheet", "lieAnew", "(II)V"⟩ ∈ tbG := tbG_in (List.mem_append_right _ (List.mem_append_right _ (List.mem_append_right _ (List.mem_append_right _ (List.mem_append_left _ (List.mem_of_getElem? (l := tables_1_4) (i := 12) rfl)))))) rfl
theorem w_147 : Cond.code ⟨"HeronTalk$Sheet", "becomes", "(LHeronTalk$Sheet;)V"⟩ prog_3_method_3_code 3 (none : Option Jvm.ClassFile.FieldType) ∈ tbG := tbG_in (List.mem_append_right _ (List.mem_append_right _ (List.mem_append_right _ (List.mem_append_right _ (List.mem_append_left _ (List.mem_of_getElem? (l := tables_1_4) (i := 68) rfl)))))) rfl
theorem w_148 : Cond.instanceMethod ⟨"HeronTalk$Sheet", "becomes", "(LHeronTalk$Sheet;)V"⟩ ∈ tbG := tbG_in (List.mem_append_right _ (List.mem_append_right _ (List.mem_append_right _ (List.mem_append_right _ (List.mem_append_left _ (List.mem_of_getElem? (l := tables_1_4) (i := 66) rfl)))))) rfl
theorem w_149 : Cond.selects "HeronTalk$Sheet" ⟨"HeronTalk$Sheet", "becomes", "(LHeronTalk$Sheet;)V"⟩ ⟨"HeronTalk$Sheet", "becomes", "(LHeronTalk$Sheet;)V"⟩ ∈ tbG := tbG_in (List.mem_append_right _ (List.mem_append_right _ (List.mem_append_right _ (List.mem_append_right _ (List.mem_append_left _ (List.mem_of_getElem? (l := tables_1_4) (i := 67) rfl)))))) rfl
theorem w_150 : Cond.code ⟨"HeronTalk$Sheet", "hasNoPlace", "(I)Z"⟩ prog_3_method_4_code 2 (some .boolean) ∈ tbG := tbG_in (List.mem_append_right _ (List.mem_append_right _ (List.mem_append_right _ (List.mem_append_right _ (List.mem_append_left _ (List.mem_of_getElem? (l := tables_1_4) (i := 22) rfl)))))) rfl
theorem w_151 : Cond.instanceMethod ⟨"HeronTalk$Sheet", "hasNoPlace", "(I)Z"⟩ ∈ tbG := tbG_in (List.mem_append_right _ (List.mem_append_right _ (List.mem_append_right _ (List.mem_append_right _ (List.mem_append_left _ (List.mem_of_getElem? (l := tables_1_4) (i := 20) rfl)))))) rfl
theorem w_152 : Cond.selects "HeronTalk$Sheet" ⟨"HeronTalk$Sheet", "hasNoPlace", "(I)Z"⟩ ⟨"HeronTalk$Sheet", "hasNoPlace", "(I)Z"⟩ ∈ tbG := tbG_in (List.mem_append_right _ (List.mem_append_right _ (List.mem_append_right _ (List.mem_append_right _ (List.mem_append_left _ (List.mem_of_getElem? (l := tables_1_4) (i := 21) rfl)))))) rfl
theorem w_153 : Cond.code ⟨"HeronTalk$Sheet", "hasNoRow", "(II)Z"⟩ prog_3_method_5_code 3 (some .boolean) ∈ tbG := tbG_in (List.mem_append_right _ (List.mem_append_right _ (List.mem_append_right _ (List.mem_append_right _ (List.mem_append_left _ (List.mem_of_getElem? (l := tables_1_4) (i := 50) rfl)))))) rfl
theorem w_154 : Cond.instanceMethod ⟨"HeronTalk$Sheet", "hasNoRow", "(II)Z"⟩ ∈ tbG := tbG_in (List.mem_append_right _ (List.mem_append_right _ (List.mem_append_right _ (List.mem_append_right _ (List.mem_append_left _ (List.mem_of_getElem? (l := tables_1_4) (i := 48) rfl)))))) rfl
theorem w_155 : Cond.selects "HeronTalk$Sheet" ⟨"HeronTalk$Sheet", "hasNoRow", "(II)Z"⟩ ⟨"HeronTalk$Sheet", "hasNoRow", "(II)Z"⟩ ∈ tbG := tbG_in (List.mem_append_right _ (List.mem_append_right _ (List.mem_append_right _ (List.mem_append_right _ (List.mem_append_left _ (List.mem_of_getElem? (l := tables_1_4) (i := 49) rfl)))))) rfl
theorem w_156 : Cond.fieldLink "HeronTalk$Slot" 18 "HeronTalk$Slot" "sheet" "LHeronTalk$Sheet;" ∈ tbG := tbG_in (List.mem_append_right _ (List.mem_append_left _ (List.mem_of_getElem? (l := tables_1_1) (i := 197) rfl))) rfl
theorem w_157 : Cond.methodLink "HeronTalk$Slot" 17 ⟨"HeronTalk$Sheet", "<init>", "()V"⟩ ∈ tbG := tbG_in (List.mem_append_right _ (List.mem_append_left _ (List.mem_of_getElem? (l := tables_1_1) (i := 187) rfl))) rfl
theorem w_158 : Cond.classLink "HeronTalk$Slot" 15 "HeronTalk$Sheet" ∈ tbG := tbG_in (List.mem_append_right _ (List.mem_append_left _ (List.mem_of_getElem? (l := tables_1_1) (i := 186) rfl))) rfl
theorem w_159 : Cond.instantiable "HeronTalk$Sheet" 3 ∈ tbG := tbG_in (List.mem_append_right _ (List.mem_append_left _ (List.mem_of_getElem? (l := tables_1_1) (i := 160) rfl))) rfl
theorem w_160 : Cond.fieldLink "HeronTalk$Slot" 9 "HeronTalk$Slot" "holds" "I" ∈ tbG := tbG_in (List.mem_append_right _ (List.mem_append_left _ (List.mem_of_getElem? (l := tables_1_1) (i := 188) rfl))) rfl
theorem w_161 : Cond.methodLink "HeronTalk$Slot" 3 ⟨"java/lang/Object", "<init>", "()V"⟩ ∈ tbG := tbG_in (List.mem_append_right _ (List.mem_append_left _ (List.mem_of_getElem? (l := tables_1_1) (i := 185) rfl))) rfl
theorem w_162 : Cond.code ⟨"HeronTalk$Slot", "<init>", "()V"⟩ prog_4_method_1_code 1 (none : Option Jvm.ClassFile.FieldType) ∈ tbG := tbG_in (List.mem_append_right _ (List.mem_append_left _ (List.mem_of_getElem? (l := tables_1_1) (i := 184) rfl))) rfl
theorem w_163 : Cond.initialized "HeronTalk$Slot" ∈ tbG := tbG_in (List.mem_append_right _ (List.mem_append_left _ (List.mem_of_getElem? (l := tables_1_1) (i := 6) rfl))) rfl
theorem w_164 : Cond.instanceMethod ⟨"HeronTalk$Slot", "<init>", "()V"⟩ ∈ tbG := tbG_in (List.mem_append_right _ (List.mem_append_left _ (List.mem_of_getElem? (l := tables_1_1) (i := 183) rfl))) rfl
theorem w_165 : Cond.fieldLink "HeronTalk$Slot" 28 "HeronTalk$Slot" "asked" "I" ∈ tbG := tbG_in (List.mem_append_right _ (List.mem_append_left _ (List.mem_of_getElem? (l := tables_1_1) (i := 194) rfl))) rfl
theorem w_166 : Cond.fieldLink "HeronTalk$Slot" 25 "HeronTalk$Slot" "asker" "I" ∈ tbG := tbG_in (List.mem_append_right _ (List.mem_append_left _ (List.mem_of_getElem? (l := tables_1_1) (i := 192) rfl))) rfl
theorem w_167 : Cond.fieldLink "HeronTalk$Slot" 22 "HeronTalk$Slot" "kind" "I" ∈ tbG := tbG_in (List.mem_append_right _ (List.mem_append_left _ (List.mem_of_getElem? (l := tables_1_1) (i := 190) rfl))) rfl
theorem w_168 : Cond.code ⟨"HeronTalk$Slot", "holdTalk", "(III)V"⟩ prog_4_method_2_code 4 (none : Option Jvm.ClassFile.FieldType) ∈ tbG := tbG_in (List.mem_append_right _ (List.mem_append_right _ (List.mem_append_right _ (List.mem_append_right _ (List.mem_append_left _ (List.mem_of_getElem? (l := tables_1_4) (i := 64) rfl)))))) rfl
theorem w_169 : Cond.instanceMethod ⟨"HeronTalk$Slot", "holdTalk", "(III)V"⟩ ∈ tbG := tbG_in (List.mem_append_right _ (List.mem_append_right _ (List.mem_append_right _ (List.mem_append_right _ (List.mem_append_left _ (List.mem_of_getElem? (l := tables_1_4) (i := 62) rfl)))))) rfl
theorem w_170 : Cond.selects "HeronTalk$Slot" ⟨"HeronTalk$Slot", "holdTalk", "(III)V"⟩ ⟨"HeronTalk$Slot", "holdTalk", "(III)V"⟩ ∈ tbG := tbG_in (List.mem_append_right _ (List.mem_append_right _ (List.mem_append_right _ (List.mem_append_right _ (List.mem_append_left _ (List.mem_of_getElem? (l := tables_1_4) (i := 63) rfl)))))) rfl
theorem w_171 : Cond.code ⟨"HeronTalk$Tape", "add", "(I)V"⟩ prog_5_method_2_code 3 (none : Option Jvm.ClassFile.FieldType) ∈ tbG := tbG_in (List.mem_append_right _ (List.mem_append_right _ (List.mem_append_right _ (List.mem_append_left _ (List.mem_of_getElem? (l := tables_1_3) (i := 63) rfl))))) rfl
theorem w_172 : Cond.instanceMethod ⟨"HeronTalk$Tape", "add", "(I)V"⟩ ∈ tbG := tbG_in (List.mem_append_right _ (List.mem_append_right _ (List.mem_append_right _ (List.mem_append_left _ (List.mem_of_getElem? (l := tables_1_3) (i := 61) rfl))))) rfl
theorem w_173 : Cond.selects "HeronTalk$Tape" ⟨"HeronTalk$Tape", "add", "(I)V"⟩ ⟨"HeronTalk$Tape", "add", "(I)V"⟩ ∈ tbG := tbG_in (List.mem_append_right _ (List.mem_append_right _ (List.mem_append_right _ (List.mem_append_left _ (List.mem_of_getElem? (l := tables_1_3) (i := 62) rfl))))) rfl
theorem w_174 : Cond.code ⟨"HeronTalk$Text", "valueFor", "(III)I"⟩ prog_6_method_2_code 9 (some .int) ∈ tbG := tbG_in (List.mem_append_right _ (List.mem_append_right _ (List.mem_append_left _ (List.mem_of_getElem? (l := tables_1_2) (i := 122) rfl)))) rfl
theorem w_175 : Cond.instanceMethod ⟨"HeronTalk$Text", "valueFor", "(III)I"⟩ ∈ tbG := tbG_in (List.mem_append_right _ (List.mem_append_right _ (List.mem_append_left _ (List.mem_of_getElem? (l := tables_1_2) (i := 120) rfl)))) rfl
theorem w_176 : Cond.selects "HeronTalk$Text" ⟨"HeronTalk$Text", "valueFor", "(III)I"⟩ ⟨"HeronTalk$Text", "valueFor", "(III)I"⟩ ∈ tbG := tbG_in (List.mem_append_right _ (List.mem_append_right _ (List.mem_append_left _ (List.mem_of_getElem? (l := tables_1_2) (i := 121) rfl)))) rfl
theorem w_177 : Cond.fieldLink "HeronTalk$Town" 66 "HeronTalk$Town" "laws" "[LHeronTalk$Text;" ∈ tbG := tbG_in (List.mem_append_right _ (List.mem_append_left _ (List.mem_of_getElem? (l := tables_1_1) (i := 64) rfl))) rfl
theorem w_178 : Cond.classLink "HeronTalk$Town" 64 "HeronTalk$Text" ∈ tbG := tbG_in (List.mem_append_right _ (List.mem_append_left _ (List.mem_of_getElem? (l := tables_1_1) (i := 30) rfl))) rfl
theorem w_179 : Cond.fieldLink "HeronTalk$Town" 61 "HeronTalk$Town" "asked" "[I" ∈ tbG := tbG_in (List.mem_append_right _ (List.mem_append_left _ (List.mem_of_getElem? (l := tables_1_1) (i := 62) rfl))) rfl
theorem w_180 : Cond.fieldLink "HeronTalk$Town" 58 "HeronTalk$Town" "askers" "[I" ∈ tbG := tbG_in (List.mem_append_right _ (List.mem_append_left _ (List.mem_of_getElem? (l := tables_1_1) (i := 60) rfl))) rfl
theorem w_181 : Cond.fieldLink "HeronTalk$Town" 55 "HeronTalk$Town" "kinds" "[I" ∈ tbG := tbG_in (List.mem_append_right _ (List.mem_append_left _ (List.mem_of_getElem? (l := tables_1_1) (i := 58) rfl))) rfl
theorem w_182 : Cond.fieldLink "HeronTalk$Town" 52 "HeronTalk$Town" "ruleGives" "[I" ∈ tbG := tbG_in (List.mem_append_right _ (List.mem_append_left _ (List.mem_of_getElem? (l := tables_1_1) (i := 57) rfl))) rfl
theorem w_183 : Cond.fieldLink "HeronTalk$Town" 49 "HeronTalk$Town" "ruleNeeds" "[I" ∈ tbG := tbG_in (List.mem_append_right _ (List.mem_append_left _ (List.mem_of_getElem? (l := tables_1_1) (i := 56) rfl))) rfl
theorem w_184 : Cond.fieldLink "HeronTalk$Town" 46 "HeronTalk$Town" "needs" "[I" ∈ tbG := tbG_in (List.mem_append_right _ (List.mem_append_left _ (List.mem_of_getElem? (l := tables_1_1) (i := 54) rfl))) rfl
theorem w_185 : Cond.fieldLink "HeronTalk$Town" 43 "HeronTalk$Town" "knows" "[I" ∈ tbG := tbG_in (List.mem_append_right _ (List.mem_append_left _ (List.mem_of_getElem? (l := tables_1_1) (i := 52) rfl))) rfl
theorem w_186 : Cond.fieldLink "HeronTalk$Town" 40 "HeronTalk$Town" "till" "[I" ∈ tbG := tbG_in (List.mem_append_right _ (List.mem_append_left _ (List.mem_of_getElem? (l := tables_1_1) (i := 50) rfl))) rfl
theorem w_187 : Cond.fieldLink "HeronTalk$Town" 36 "HeronTalk$Town" "worth" "[I" ∈ tbG := tbG_in (List.mem_append_right _ (List.mem_append_left _ (List.mem_of_getElem? (l := tables_1_1) (i := 48) rfl))) rfl
theorem w_188 : Cond.fieldLink "HeronTalk$Town" 33 "HeronTalk$Town" "z" "I" ∈ tbG := tbG_in (List.mem_append_right _ (List.mem_append_left _ (List.mem_of_getElem? (l := tables_1_1) (i := 46) rfl))) rfl
theorem w_189 : Cond.fieldLink "HeronTalk$Town" 30 "HeronTalk$Town" "said" "I" ∈ tbG := tbG_in (List.mem_append_right _ (List.mem_append_left _ (List.mem_of_getElem? (l := tables_1_1) (i := 44) rfl))) rfl
theorem w_190 : Cond.fieldLink "HeronTalk$Town" 27 "HeronTalk$Town" "hour" "I" ∈ tbG := tbG_in (List.mem_append_right _ (List.mem_append_left _ (List.mem_of_getElem? (l := tables_1_1) (i := 42) rfl))) rfl
theorem w_191 : Cond.fieldLink "HeronTalk$Town" 24 "HeronTalk$Town" "texts" "I" ∈ tbG := tbG_in (List.mem_append_right _ (List.mem_append_left _ (List.mem_of_getElem? (l := tables_1_1) (i := 40) rfl))) rfl
theorem w_192 : Cond.fieldLink "HeronTalk$Town" 21 "HeronTalk$Town" "talks" "I" ∈ tbG := tbG_in (List.mem_append_right _ (List.mem_append_left _ (List.mem_of_getElem? (l := tables_1_1) (i := 38) rfl))) rfl
theorem w_193 : Cond.fieldLink "HeronTalk$Town" 18 "HeronTalk$Town" "rules" "I" ∈ tbG := tbG_in (List.mem_append_right _ (List.mem_append_left _ (List.mem_of_getElem? (l := tables_1_1) (i := 36) rfl))) rfl
theorem w_194 : Cond.fieldLink "HeronTalk$Town" 15 "HeronTalk$Town" "people" "I" ∈ tbG := tbG_in (List.mem_append_right _ (List.mem_append_left _ (List.mem_of_getElem? (l := tables_1_1) (i := 34) rfl))) rfl
theorem w_195 : Cond.fieldLink "HeronTalk$Town" 9 "HeronTalk$Town" "facts" "I" ∈ tbG := tbG_in (List.mem_append_right _ (List.mem_append_left _ (List.mem_of_getElem? (l := tables_1_1) (i := 32) rfl))) rfl
theorem w_196 : Cond.methodLink "HeronTalk$Town" 3 ⟨"java/lang/Object", "<init>", "()V"⟩ ∈ tbG := tbG_in (List.mem_append_right _ (List.mem_append_left _ (List.mem_of_getElem? (l := tables_1_1) (i := 29) rfl))) rfl
theorem w_197 : Cond.code ⟨"HeronTalk$Town", "<init>", "()V"⟩ prog_7_method_1_code 1 (none : Option Jvm.ClassFile.FieldType) ∈ tbG := tbG_in (List.mem_append_right _ (List.mem_append_left _ (List.mem_of_getElem? (l := tables_1_1) (i := 28) rfl))) rfl
theorem w_198 : Cond.initialized "HeronTalk$Town" ∈ tbG := tbG_in (List.mem_append_right _ (List.mem_append_left _ (List.mem_of_getElem? (l := tables_1_1) (i := 2) rfl))) rfl
theorem w_199 : Cond.instanceMethod ⟨"HeronTalk$Town", "<init>", "()V"⟩ ∈ tbG := tbG_in (List.mem_append_right _ (List.mem_append_left _ (List.mem_of_getElem? (l := tables_1_1) (i := 27) rfl))) rfl
theorem w_200 : Cond.code ⟨"HeronTalk$Town", "becomes", "(LHeronTalk$Town;)V"⟩ prog_7_method_2_code 3 (none : Option Jvm.ClassFile.FieldType) ∈ tbG := tbG_in (List.mem_append_right _ (List.mem_append_right _ (List.mem_append_right _ (List.mem_append_left _ (List.mem_of_getElem? (l := tables_1_3) (i := 18) rfl))))) rfl
theorem w_201 : Cond.instanceMethod ⟨"HeronTalk$Town", "becomes", "(LHeronTalk$Town;)V"⟩ ∈ tbG := tbG_in (List.mem_append_right _ (List.mem_append_right _ (List.mem_append_right _ (List.mem_append_left _ (List.mem_of_getElem? (l := tables_1_3) (i := 16) rfl))))) rfl
theorem w_202 : Cond.selects "HeronTalk$Town" ⟨"HeronTalk$Town", "becomes", "(LHeronTalk$Town;)V"⟩ ⟨"HeronTalk$Town", "becomes", "(LHeronTalk$Town;)V"⟩ ∈ tbG := tbG_in (List.mem_append_right _ (List.mem_append_right _ (List.mem_append_right _ (List.mem_append_left _ (List.mem_of_getElem? (l := tables_1_3) (i := 17) rfl))))) rfl
theorem w_203 : Cond.code ⟨"HeronTalk$Town", "addFact", "(I)I"⟩ prog_7_method_3_code 3 (some .int) ∈ tbG := tbG_in (List.mem_append_right _ (List.mem_append_right _ (List.mem_append_left _ (List.mem_of_getElem? (l := tables_1_2) (i := 18) rfl)))) rfl
theorem w_204 : Cond.instanceMethod ⟨"HeronTalk$Town", "addFact", "(I)I"⟩ ∈ tbG := tbG_in (List.mem_append_right _ (List.mem_append_right _ (List.mem_append_left _ (List.mem_of_getElem? (l := tables_1_2) (i := 16) rfl)))) rfl
theorem w_205 : Cond.selects "HeronTalk$Town" ⟨"HeronTalk$Town", "addFact", "(I)I"⟩ ⟨"HeronTalk$Town", "addFact", "(I)I"⟩ ∈ tbG := tbG_in (List.mem_append_right _ (List.mem_append_right _ (List.mem_append_left _ (List.mem_of_getElem? (l := tables_1_2) (i := 17) rfl)))) rfl
theorem w_206 : Cond.code ⟨"HeronTalk$Town", "addPerson", "()I"⟩ prog_7_method_4_code 2 (some .int) ∈ tbG := tbG_in (List.mem_append_right _ (List.mem_append_right _ (List.mem_append_left _ (List.mem_of_getElem? (l := tables_1_2) (i := 50) rfl)))) rfl
theorem w_207 : Cond.instanceMethod ⟨"HeronTalk$Town", "addPerson", "()I"⟩ ∈ tbG := tbG_in (List.mem_append_right _ (List.mem_append_right _ (List.mem_append_left _ (List.mem_of_getElem? (l := tables_1_2) (i := 48) rfl)))) rfl
theorem w_208 : Cond.selects "HeronTalk$Town" ⟨"HeronTalk$Town", "addPerson", "()I"⟩ ⟨"HeronTalk$Town", "addPerson", "()I"⟩ ∈ tbG := tbG_in (List.mem_append_right _ (List.mem_append_right _ (List.mem_append_left _ (List.mem_of_getElem? (l := tables_1_2) (i := 49) rfl)))) rfl
theorem w_209 : Cond.code ⟨"HeronTalk$Town", "withWhatFollows", "(I)I"⟩ prog_7_method_18_code 6 (some .int) ∈ tbG := tbG_in (List.mem_append_right _ (List.mem_append_right _ (List.mem_append_left _ (List.mem_of_getElem? (l := tables_1_2) (i := 89) rfl)))) rfl
theorem w_210 : Cond.instanceMethod ⟨"HeronTalk$Town", "withWhatFollows", "(I)I"⟩ ∈ tbG := tbG_in (List.mem_append_right _ (List.mem_append_right _ (List.mem_append_left _ (List.mem_of_getElem? (l := tables_1_2) (i := 87) rfl)))) rfl
theorem w_211 : Cond.selects "HeronTalk$Town" ⟨"HeronTalk$Town", "withWhatFollows", "(I)I"⟩ ⟨"HeronTalk$Town", "withWhatFollows", "(I)I"⟩ ∈ tbG := tbG_in (List.mem_append_right _ (List.mem_append_right _ (List.mem_append_left _ (List.mem_of_getElem? (l := tables_1_2) (i := 88) rfl)))) rfl
theorem w_212 : Cond.methodLink "HeronTalk$Town" 95 ⟨"HeronTalk$Town", "withWhatFollows", "(I)I"⟩ ∈ tbG := tbG_in (List.mem_append_right _ (List.mem_append_right _ (List.mem_append_left _ (List.mem_of_getElem? (l := tables_1_2) (i := 102) rfl)))) rfl
theorem w_213 : Cond.code ⟨"HeronTalk$Town", "learn", "(II)V"⟩ prog_7_method_19_code 3 (none : Option Jvm.ClassFile.FieldType) ∈ tbG := tbG_in (List.mem_append_right _ (List.mem_append_right _ (List.mem_append_left _ (List.mem_of_getElem? (l := tables_1_2) (i := 101) rfl)))) rfl
theorem w_214 : Cond.instanceMethod ⟨"HeronTalk$Town", "learn", "(II)V"⟩ ∈ tbG := tbG_in (List.mem_append_right _ (List.mem_append_right _ (List.mem_append_left _ (List.mem_of_getElem? (l := tables_1_2) (i := 99) rfl)))) rfl
theorem w_215 : Cond.selects "HeronTalk$Town" ⟨"HeronTalk$Town", "learn", "(II)V"⟩ ⟨"HeronTalk$Town", "learn", "(II)V"⟩ ∈ tbG := tbG_in (List.mem_append_right _ (List.mem_append_right _ (List.mem_append_left _ (List.mem_of_getElem? (l := tables_1_2) (i := 100) rfl)))) rfl
theorem w_216 : Cond.methodLink "HeronTalk$Town" 70 ⟨"HeronTalk$Town", "learn", "(II)V"⟩ ∈ tbG := tbG_in (List.mem_append_right _ (List.mem_append_right _ (List.mem_append_left _ (List.mem_of_getElem? (l := tables_1_2) (i := 98) rfl)))) rfl
theorem w_217 : Cond.code ⟨"HeronTalk$Town", "addRule", "(III)I"⟩ prog_7_method_5_code 5 (some .int) ∈ tbG := tbG_in (List.mem_append_right _ (List.mem_append_right _ (List.mem_append_left _ (List.mem_of_getElem? (l := tables_1_2) (i := 97) rfl)))) rfl
theorem w_218 : Cond.instanceMethod ⟨"HeronTalk$Town", "addRule", "(III)I"⟩ ∈ tbG := tbG_in (List.mem_append_right _ (List.mem_append_right _ (List.mem_append_left _ (List.mem_of_getElem? (l := tables_1_2) (i := 95) rfl)))) rfl
theorem w_219 : Cond.selects "HeronTalk$Town" ⟨"HeronTalk$Town", "addRule", "(III)I"⟩ ⟨"HeronTalk$Town", "addRule", "(III)I"⟩ ∈ tbG := tbG_in (List.mem_append_right _ (List.mem_append_right _ (List.mem_append_left _ (List.mem_of_getElem? (l := tables_1_2) (i := 96) rfl)))) rfl
theorem w_220 : Cond.code ⟨"HeronTalk$Town", "addTalk", "(III)I"⟩ prog_7_method_6_code 5 (some .int) ∈ tbG := tbG_in (List.mem_append_right _ (List.mem_append_right _ (List.mem_append_left _ (List.mem_of_getElem? (l := tables_1_2) (i := 169) rfl)))) rfl
theorem w_221 : Cond.instanceMethod ⟨"HeronTalk$Town", "addTalk", "(III)I"⟩ ∈ tbG := tbG_in (List.mem_append_right _ (List.mem_append_right _ (List.mem_append_left _ (List.mem_of_getElem? (l := tables_1_2) (i := 167) rfl)))) rfl
theorem w_222 : Cond.selects "HeronTalk$Town" ⟨"HeronTalk$Town", "addTalk", "(III)I"⟩ ⟨"HeronTalk$Town", "addTalk", "(III)I"⟩ ∈ tbG := tbG_in (List.mem_append_right _ (List.mem_append_right _ (List.mem_append_left _ (List.mem_of_getElem? (l := tables_1_2) (i := 168) rfl)))) rfl
theorem w_223 : Cond.code ⟨"HeronTalk$Town", "addText", "(LHeronTalk$Text;)I"⟩ prog_7_method_7_code 3 (some .int) ∈ tbG := tbG_in (List.mem_append_right _ (List.mem_append_right _ (List.mem_append_right _ (List.mem_append_left _ (List.mem_of_getElem? (l := tables_1_3) (i := 232) rfl))))) rfl
theorem w_224 : Cond.instanceMethod ⟨"HeronTalk$Town", "addText", "(LHeronTalk$Text;)I"⟩ ∈ tbG := tbG_in (List.mem_append_right _ (List.mem_append_right _ (List.mem_append_right _ (List.mem_append_left _ (List.mem_of_getElem? (l := tables_1_3) (i := 230) rfl))))) rfl
theorem w_225 : Cond.selects "HeronTalk$Town" ⟨"HeronTalk$Town", "addText", "(LHeronTalk$Text;)I"⟩ ⟨"HeronTalk$Town", "addText", "(LHeronTalk$Text;)I"⟩ ∈ tbG := tbG_in (List.mem_append_right _ (List.mem_append_right _ (List.mem_append_right _ (List.mem_append_left _ (List.mem_of_getElem? (l := tables_1_3) (i := 231) rfl))))) rfl
theorem w_226 : Cond.code ⟨"HeronTalk$Town", "allFacts", "()I"⟩ prog_7_method_8_code 1 (some .int) ∈ tbG := tbG_in (List.mem_append_right _ (List.mem_append_right _ (List.mem_append_left _ (List.mem_of_getElem? (l := tables_1_2) (i := 85) rfl)))) rfl
theorem w_227 : Cond.instanceMethod ⟨"HeronTalk$Town", "allFacts", "()I"⟩ ∈ tbG := tbG_in (List.mem_append_right _ (List.mem_append_right _ (List.mem_append_left _ (List.mem_of_getElem? (l := tables_1_2) (i := 83) rfl)))) rfl
theorem w_228 : Cond.selects "HeronTalk$Town" ⟨"HeronTalk$Town", "allFacts", "()I"⟩ ⟨"HeronTalk$Town", "allFacts", "()I"⟩ ∈ tbG := tbG_in (List.mem_append_right _ (List.mem_append_right _ (List.mem_append_left _ (List.mem_of_getElem? (l := tables_1_2) (i := 84) rfl)))) rfl
theorem w_229 : Cond.code ⟨"HeronTalk$Town", "isFresh", "(I)Z"⟩ prog_7_method_9_code 2 (some .boolean) ∈ tbG := tbG_in (List.mem_append_right _ (List.mem_append_right _ (List.mem_append_left _ (List.mem_of_getElem? (l := tables_1_2) (i := 30) rfl)))) rfl
theorem w_230 : Cond.instanceMethod ⟨"HeronTalk$Town", "isFresh", "(I)Z"⟩ ∈ tbG := tbG_in (List.mem_append_right _ (List.mem_append_right _ (List.mem_append_left _ (List.mem_of_getElem? (l := tables_1_2) (i := 28) rfl)))) rfl
theorem w_231 : Cond.selects "HeronTalk$Town" ⟨"HeronTalk$Town", "isFresh", "(I)Z"⟩ ⟨"HeronTalk$Town", "isFresh", "(I)Z"⟩ ∈ tbG := tbG_in (List.mem_append_right _ (List.mem_append_right _ (List.mem_append_left _ (List.mem_of_getElem? (l := tables_1_2) (i := 29) rfl)))) rfl
theorem w_232 : Cond.methodLink "HeronTalk$Town" 74 ⟨"HeronTalk$Town", "isFresh", "(I)Z"⟩ ∈ tbG := tbG_in (List.mem_append_right _ (List.mem_append_right _ (List.mem_append_left _ (List.mem_of_getElem? (l := tables_1_2) (i := 67) rfl)))) rfl
theorem w_233 : Cond.code ⟨"HeronTalk$Town", "freshFacts", "()I"⟩ prog_7_method_10_code 3 (some .int) ∈ tbG := tbG_in (List.mem_append_right _ (List.mem_append_right _ (List.mem_append_left _ (List.mem_of_getElem? (l := tables_1_2) (i := 66) rfl)))) rfl
theorem w_234 : Cond.instanceMethod ⟨"HeronTalk$Town", "freshFacts", "()I"⟩ ∈ tbG := tbG_in (List.mem_append_right _ (List.mem_append_right _ (List.mem_append_left _ (List.mem_of_getElem? (l := tables_1_2) (i := 64) rfl)))) rfl
theorem w_235 : Cond.selects "HeronTalk$Town" ⟨"HeronTalk$Town", "freshFacts", "()I"⟩ ⟨"HeronTalk$Town", "freshFacts", "()I"⟩ ∈ tbG := tbG_in (List.mem_append_right _ (List.mem_append_right _ (List.mem_append_left _ (List.mem_of_getElem? (l := tables_1_2) (i := 65) rfl)))) rfl
theorem w_236 : Cond.code ⟨"HeronTalk$Town", "isKnown", "(II)Z"⟩ prog_7_method_11_code 3 (some .boolean) ∈ tbG := tbG_in (List.mem_append_right _ (List.mem_append_right _ (List.mem_append_left _ (List.mem_of_getElem? (l := tables_1_2) (i := 38) rfl)))) rfl
theorem w_237 : Cond.instanceMethod ⟨"HeronTalk$Town", "isKnown", "(II)Z"⟩ ∈ tbG := tbG_in (List.mem_append_right _ (List.mem_append_right _ (List.mem_append_left _ (List.mem_of_getElem? (l := tables_1_2) (i := 36) rfl)))) rfl
theorem w_238 : Cond.selects "HeronTalk$Town" ⟨"HeronTalk$Town", "isKnown", "(II)Z"⟩ ⟨"HeronTalk$Town", "isKnown", "(II)Z"⟩ ∈ tbG := tbG_in (List.mem_append_right _ (List.mem_append_right _ (List.mem_append_left _ (List.mem_of_getElem? (l := tables_1_2) (i := 37) rfl)))) rfl
theorem w_239 : Cond.methodLink "HeronTalk$Town" 78 ⟨"HeronTalk$Town", "isKnown", "(II)Z"⟩ ∈ tbG := tbG_in (List.mem_append_right _ (List.mem_append_right _ (List.mem_append_left _ (List.mem_of_getElem? (l := tables_1_2) (i := 35) rfl)))) rfl
theorem w_240 : Cond.code ⟨"HeronTalk$Town", "knowersOf", "(I)I"⟩ prog_7_method_12_code 4 (some .int) ∈ tbG := tbG_in (List.mem_append_right _ (List.mem_append_right _ (List.mem_append_left _ (List.mem_of_getElem? (l := tables_1_2) (i := 34) rfl)))) rfl
theorem w_241 : Cond.instanceMethod ⟨"HeronTalk$Town", "knowersOf", "(I)I"⟩ ∈ tbG := tbG_in (List.mem_append_right _ (List.mem_append_right _ (List.mem_append_left _ (List.mem_of_getElem? (l := tables_1_2) (i := 32) rfl)))) rfl
theorem w_242 : Cond.selects "HeronTalk$Town" ⟨"HeronTalk$Town", "knowersOf", "(I)I"⟩ ⟨"HeronTalk$Town", "knowersOf", "(I)I"⟩ ∈ tbG := tbG_in (List.mem_append_right _ (List.mem_append_right _ (List.mem_append_left _ (List.mem_of_getElem? (l := tables_1_2) (i := 33) rfl)))) rfl
theorem w_243 : Cond.code ⟨"HeronTalk$Town", "howManyKnow", "(I)I"⟩ prog_7_method_13_code 4 (some .int) ∈ tbG := tbG_in (List.mem_append_right _ (List.mem_append_right _ (List.mem_append_left _ (List.mem_of_getElem? (l := tables_1_2) (i := 118) rfl)))) rfl
theorem w_244 : Cond.instanceMethod ⟨"HeronTalk$Town", "howManyKnow", "(I)I"⟩ ∈ tbG := tbG_in (List.mem_append_right _ (List.mem_append_right _ (List.mem_append_left _ (List.mem_of_getElem? (l := tables_1_2) (i := 116) rfl)))) rfl
theorem w_245 : Cond.selects "HeronTalk$Town" ⟨"HeronTalk$Town", "howManyKnow", "(I)I"⟩ ⟨"HeronTalk$Town", "howManyKnow", "(I)I"⟩ ∈ tbG := tbG_in (List.mem_append_right _ (List.mem_append_right _ (List.mem_append_left _ (List.mem_of_getElem? (l := tables_1_2) (i := 117) rfl)))) rfl
theorem w_246 : Cond.methodLink "HeronTalk$Town" 82 ⟨"java/lang/Integer", "bitCount", "(I)I"⟩ ∈ tbG := tbG_in (List.mem_append_right _ (List.mem_append_right _ (List.mem_append_left _ (List.mem_of_getElem? (l := tables_1_2) (i := 68) rfl)))) rfl
theorem w_247 : Cond.code ⟨"HeronTalk$Town", "knownTogether", "()I"⟩ prog_7_method_14_code 3 (some .int) ∈ tbG := tbG_in (List.mem_append_right _ (List.mem_append_right _ (List.mem_append_left _ (List.mem_of_getElem? (l := tables_1_2) (i := 150) rfl)))) rfl
theorem w_248 : Cond.instanceMethod ⟨"HeronTalk$Town", "knownTogether", "()I"⟩ ∈ tbG := tbG_in (List.mem_append_right _ (List.mem_append_right _ (List.mem_append_left _ (List.mem_of_getElem? (l := tables_1_2) (i := 148) rfl)))) rfl
theorem w_249 : Cond.selects "HeronTalk$Town" ⟨"HeronTalk$Town", "knownTogether", "()I"⟩ ⟨"HeronTalk$Town", "knownTogether", "()I"⟩ ∈ tbG := tbG_in (List.mem_append_right _ (List.mem_append_right _ (List.mem_append_left _ (List.mem_of_getElem? (l := tables_1_2) (i := 149) rfl)))) rfl
theorem w_250 : Cond.methodLink "HeronTalk$Town" 88 ⟨"HeronTalk$Town", "freshFacts", "()I"⟩ ∈ tbG := tbG_in (List.mem_append_right _ (List.mem_append_right _ (List.mem_append_left _ (List.mem_of_getElem? (l := tables_1_2) (i := 63) rfl)))) rfl
theorem w_251 : Cond.code ⟨"HeronTalk$Town", "newsOf", "(I)I"⟩ prog_7_method_15_code 4 (some .int) ∈ tbG := tbG_in (List.mem_append_right _ (List.mem_append_right _ (List.mem_append_left _ (List.mem_of_getElem? (l := tables_1_2) (i := 62) rfl)))) rfl
theorem w_252 : Cond.instanceMethod ⟨"HeronTalk$Town", "newsOf", "(I)I"⟩ ∈ tbG := tbG_in (List.mem_append_right _ (List.mem_append_right _ (List.mem_append_left _ (List.mem_of_getElem? (l := tables_1_2) (i := 60) rfl)))) rfl
theorem w_253 : Cond.selects "HeronTalk$Town" ⟨"HeronTalk$Town", "newsOf", "(I)I"⟩ ⟨"HeronTalk$Town", "newsOf", "(I)I"⟩ ∈ tbG := tbG_in (List.mem_append_right _ (List.mem_append_right _ (List.mem_append_left _ (List.mem_of_getElem? (l := tables_1_2) (i := 61) rfl)))) rfl
theorem w_254 : Cond.code ⟨"HeronTalk$Town", "richesOf", "(I)I"⟩ prog_7_method_16_code 4 (some .int) ∈ tbG := tbG_in (List.mem_append_right _ (List.mem_append_right _ (List.mem_append_left _ (List.mem_of_getElem? (l := tables_1_2) (i := 77) rfl)))) rfl
theorem w_255 : Cond.instanceMethod ⟨"HeronTalk$Town", "richesOf", "(I)I"⟩ ∈ tbG := tbG_in (List.mem_append_right _ (List.mem_append_right _ (List.mem_append_left _ (List.mem_of_getElem? (l := tables_1_2) (i := 75) rfl)))) rfl
theorem w_256 : Cond.selects "HeronTalk$Town" ⟨"HeronTalk$Town", "richesOf", "(I)I"⟩ ⟨"HeronTalk$Town", "richesOf", "(I)I"⟩ ∈ tbG := tbG_in (List.mem_append_right _ (List.mem_append_right _ (List.mem_append_left _ (List.mem_of_getElem? (l := tables_1_2) (i := 76) rfl)))) rfl
theorem w_257 : Cond.methodLink "HeronTalk$Town" 92 ⟨"HeronTalk$Town", "richesOf", "(I)I"⟩ ∈ tbG := tbG_in (List.mem_append_right _ (List.mem_append_right _ (List.mem_append_right _ (List.mem_append_left _ (List.mem_of_getElem? (l := tables_1_3) (i := 10) rfl))))) rfl
theorem w_258 : Cond.code ⟨"HeronTalk$Town", "richestOne", "()I"⟩ prog_7_method_17_code 5 (some .int) ∈ tbG := tbG_in (List.mem_append_right _ (List.mem_append_right _ (List.mem_append_right _ (List.mem_append_left _ (List.mem_of_getElem? (l := tables_1_3) (i := 9) rfl))))) rfl
theorem w_259 : Cond.instanceMethod ⟨"HeronTalk$Town", "richestOne", "()I"⟩ ∈ tbG := tbG_in (List.mem_append_right _ (List.mem_append_right _ (List.mem_append_right _ (List.mem_append_left _ (List.mem_of_getElem? (l := tables_1_3) (i := 7) rfl))))) rfl
theorem w_260 : Cond.selects "HeronTalk$Town" ⟨"HeronTalk$Town", "richestOne", "()I"⟩ ⟨"HeronTalk$Town", "richestOne", "()I"⟩ ∈ tbG := tbG_in (List.mem_append_right _ (List.mem_append_right _ (List.mem_append_right _ (List.mem_append_left _ (List.mem_of_getElem? (l := tables_1_3) (i := 8) rfl))))) rfl
theorem w_261 : Cond.constant "HeronTalk$Town" 98 1103515245 ∈ tbG := tbG_in (List.mem_append_right _ (List.mem_append_right _ (List.mem_append_left _ (List.mem_of_getElem? (l := tables_1_2) (i := 144) rfl)))) rfl
theorem w_262 : Cond.code ⟨"HeronTalk$Town", "drawOne", "()I"⟩ prog_7_method_20_code 1 (some .int) ∈ tbG := tbG_in (List.mem_append_right _ (List.mem_append_right _ (List.mem_append_left _ (List.mem_of_getElem? (l := tables_1_2) (i := 143) rfl)))) rfl
theorem w_263 : Cond.instanceMethod ⟨"HeronTalk$Town", "drawOne", "()I"⟩ ∈ tbG := tbG_in (List.mem_append_right _ (List.mem_append_right _ (List.mem_append_left _ (List.mem_of_getElem? (l := tables_1_2) (i := 141) rfl)))) rfl
theorem w_264 : Cond.selects "HeronTalk$Town" ⟨"HeronTalk$Town", "drawOne", "()I"⟩ ⟨"HeronTalk$Town", "drawOne", "()I"⟩ ∈ tbG := tbG_in (List.mem_append_right _ (List.mem_append_right _ (List.mem_append_left _ (List.mem_of_getElem? (l := tables_1_2) (i := 142) rfl)))) rfl
theorem w_265 : Cond.methodLink "HeronTalk$Town" 103 ⟨"HeronTalk$Town", "allFacts", "()I"⟩ ∈ tbG := tbG_in (List.mem_append_right _ (List.mem_append_right _ (List.mem_append_left _ (List.mem_of_getElem? (l := tables_1_2) (i := 146) rfl)))) rfl
theorem w_266 : Cond.constant "HeronTalk$Town" 102 65536 ∈ tbG := tbG_in (List.mem_append_right _ (List.mem_append_right _ (List.mem_append_left _ (List.mem_of_getElem? (l := tables_1_2) (i := 145) rfl)))) rfl
theorem w_267 : Cond.methodLink "HeronTalk$Town" 99 ⟨"HeronTalk$Town", "drawOne", "()I"⟩ ∈ tbG := tbG_in (List.mem_append_right _ (List.mem_append_right _ (List.mem_append_left _ (List.mem_of_getElem? (l := tables_1_2) (i := 140) rfl)))) rfl
theorem w_268 : Cond.code ⟨"HeronTalk$Town", "drawAll", "()V"⟩ prog_7_method_21_code 2 (none : Option Jvm.ClassFile.FieldType) ∈ tbG := tbG_in (List.mem_append_right _ (List.mem_append_right _ (List.mem_append_left _ (List.mem_of_getElem? (l := tables_1_2) (i := 139) rfl)))) rfl
theorem w_269 : Cond.instanceMethod ⟨"HeronTalk$Town", "drawAll", "()V"⟩ ∈ tbG := tbG_in (List.mem_append_right _ (List.mem_append_right _ (List.mem_append_left _ (List.mem_of_getElem? (l := tables_1_2) (i := 137) rfl)))) rfl
theorem w_270 : Cond.selects "HeronTalk$Town" ⟨"HeronTalk$Town", "drawAll", "()V"⟩ ⟨"HeronTalk$Town", "drawAll", "()V"⟩ ∈ tbG := tbG_in (List.mem_append_right _ (List.mem_append_right _ (List.mem_append_left _ (List.mem_of_getElem? (l := tables_1_2) (i := 138) rfl)))) rfl
theorem w_271 : Cond.fieldLink "HeronTalk$Town" 106 "HeronTalk$Text" "key" "I" ∈ tbG := tbG_in (List.mem_append_right _ (List.mem_append_right _ (List.mem_append_right _ (List.mem_append_left _ (List.mem_of_getElem? (l := tables_1_3) (i := 214) rfl))))) rfl
theorem w_272 : Cond.code ⟨"HeronTalk$Town", "lastTextOf", "(I)I"⟩ prog_7_method_22_code 3 (some .int) ∈ tbG := tbG_in (List.mem_append_right _ (List.mem_append_right _ (List.mem_append_left _ (List.mem_of_getElem? (l := tables_1_2) (i := 114) rfl)))) rfl
theorem w_273 : Cond.instanceMethod ⟨"HeronTalk$Town", "lastTextOf", "(I)I"⟩ ∈ tbG := tbG_in (List.mem_append_right _ (List.mem_append_right _ (List.mem_append_left _ (List.mem_of_getElem? (l := tables_1_2) (i := 112) rfl)))) rfl
theorem w_274 : Cond.selects "HeronTalk$Town" ⟨"HeronTalk$Town", "lastTextOf", "(I)I"⟩ ⟨"HeronTalk$Town", "lastTextOf", "(I)I"⟩ ∈ tbG := tbG_in (List.mem_append_right _ (List.mem_append_right _ (List.mem_append_left _ (List.mem_of_getElem? (l := tables_1_2) (i := 113) rfl)))) rfl
theorem w_275 : Cond.methodLink "HeronTalk" 330 ⟨"java/lang/Math", "max", "(II)I"⟩ ∈ tbG := tbG_in (List.mem_append_right _ (List.mem_append_right _ (List.mem_append_left _ (List.mem_of_getElem? (l := tables_1_2) (i := 129) rfl)))) rfl
theorem w_276 : Cond.methodLink "HeronTalk" 210 ⟨"java/lang/Math", "min", "(II)I"⟩ ∈ tbG := tbG_in (List.mem_append_right _ (List.mem_append_right _ (List.mem_append_left _ (List.mem_of_getElem? (l := tables_1_2) (i := 126) rfl)))) rfl
theorem w_277 : Cond.code ⟨"HeronTalk", "held", "(III)I"⟩ prog_1_method_53_code 3 (some .int) ∈ tbG := tbG_in (List.mem_append_right _ (List.mem_append_right _ (List.mem_append_left _ (List.mem_of_getElem? (l := tables_1_2) (i := 125) rfl)))) rfl
theorem w_278 : Cond.initialized "HeronTalk" ∈ tbG := tbG_in (List.mem_append_right _ (List.mem_append_left _ (List.mem_of_getElem? (l := tables_1_1) (i := 1) rfl))) rfl
theorem w_279 : Cond.static ⟨"HeronTalk", "held", "(III)I"⟩ ∈ tbG := tbG_in (List.mem_append_right _ (List.mem_append_right _ (List.mem_append_left _ (List.mem_of_getElem? (l := tables_1_2) (i := 124) rfl)))) rfl
theorem w_280 : Cond.methodLink "HeronTalk$Town" 115 ⟨"HeronTalk$Text", "valueFor", "(III)I"⟩ ∈ tbG := tbG_in (List.mem_append_right _ (List.mem_append_right _ (List.mem_append_left _ (List.mem_of_getElem? (l := tables_1_2) (i := 119) rfl)))) rfl
theorem w_281 : Cond.methodLink "HeronTalk$Town" 112 ⟨"HeronTalk$Town", "howManyKnow", "(I)I"⟩ ∈ tbG := tbG_in (List.mem_append_right _ (List.mem_append_right _ (List.mem_append_left _ (List.mem_of_getElem? (l := tables_1_2) (i := 115) rfl)))) rfl
theorem w_282 : Cond.methodLink "HeronTalk$Town" 109 ⟨"HeronTalk$Town", "lastTextOf", "(I)I"⟩ ∈ tbG := tbG_in (List.mem_append_right _ (List.mem_append_right _ (List.mem_append_left _ (List.mem_of_getElem? (l := tables_1_2) (i := 111) rfl)))) rfl
theorem w_283 : Cond.code ⟨"HeronTalk$Town", "priceOf", "(II)I"⟩ prog_7_method_23_code 6 (some .int) ∈ tbG := tbG_in (List.mem_append_right _ (List.mem_append_right _ (List.mem_append_left _ (List.mem_of_getElem? (l := tables_1_2) (i := 110) rfl)))) rfl
theorem w_284 : Cond.instanceMethod ⟨"HeronTalk$Town", "priceOf", "(II)I"⟩ ∈ tbG := tbG_in (List.mem_append_right _ (List.mem_append_right _ (List.mem_append_left _ (List.mem_of_getElem? (l := tables_1_2) (i := 108) rfl)))) rfl
theorem w_285 : Cond.selects "HeronTalk$Town" ⟨"HeronTalk$Town", "priceOf", "(II)I"⟩ ⟨"HeronTalk$Town", "priceOf", "(II)I"⟩ ∈ tbG := tbG_in (List.mem_append_right _ (List.mem_append_right _ (List.mem_append_left _ (List.mem_of_getElem? (l := tables_1_2) (i := 109) rfl)))) rfl
theorem w_286 : Cond.code ⟨"HeronTalk$Town", "lookFor", "(I)I"⟩ prog_7_method_24_code 5 (some .int) ∈ tbG := tbG_in (List.mem_append_right _ (List.mem_append_right _ (List.mem_append_right _ (List.mem_append_left _ (List.mem_of_getElem? (l := tables_1_3) (i := 30) rfl))))) rfl
theorem w_287 : Cond.instanceMethod ⟨"HeronTalk$Town", "lookFor", "(I)I"⟩ ∈ tbG := tbG_in (List.mem_append_right _ (List.mem_append_right _ (List.mem_append_right _ (List.mem_append_left _ (List.mem_of_getElem? (l := tables_1_3) (i := 28) rfl))))) rfl
theorem w_288 : Cond.selects "HeronTalk$Town" ⟨"HeronTalk$Town", "lookFor", "(I)I"⟩ ⟨"HeronTalk$Town", "lookFor", "(I)I"⟩ ∈ tbG := tbG_in (List.mem_append_right _ (List.mem_append_right _ (List.mem_append_right _ (List.mem_append_left _ (List.mem_of_getElem? (l := tables_1_3) (i := 29) rfl))))) rfl
theorem w_289 : Cond.code ⟨"HeronTalk$Town", "fineNow", "()I"⟩ prog_7_method_25_code 2 (some .int) ∈ tbG := tbG_in (List.mem_append_right _ (List.mem_append_right _ (List.mem_append_right _ (List.mem_append_left _ (List.mem_of_getElem? (l := tables_1_3) (i := 55) rfl))))) rfl
theorem w_290 : Cond.instanceMethod ⟨"HeronTalk$Town", "fineNow", "()I"⟩ ∈ tbG := tbG_in (List.mem_append_right _ (List.mem_append_right _ (List.mem_append_right _ (List.mem_append_left _ (List.mem_of_getElem? (l := tables_1_3) (i := 53) rfl))))) rfl
theorem w_291 : Cond.selects "HeronTalk$Town" ⟨"HeronTalk$Town", "fineNow", "()I"⟩ ⟨"HeronTalk$Town", "fineNow", "()I"⟩ ∈ tbG := tbG_in (List.mem_append_right _ (List.mem_append_right _ (List.mem_append_right _ (List.mem_append_left _ (List.mem_of_getElem? (l := tables_1_3) (i := 54) rfl))))) rfl
theorem w_292 : Cond.methodLink "HeronTalk$Town" 122 ⟨"HeronTalk$Town", "priceOf", "(II)I"⟩ ∈ tbG := tbG_in (List.mem_append_right _ (List.mem_append_right _ (List.mem_append_left _ (List.mem_of_getElem? (l := tables_1_2) (i := 191) rfl)))) rfl
theorem w_293 : Cond.code ⟨"HeronTalk$Town", "pick", "(IIZI)I"⟩ prog_7_method_26_code 10 (some .int) ∈ tbG := tbG_in (List.mem_append_right _ (List.mem_append_right _ (List.mem_append_left _ (List.mem_of_getElem? (l := tables_1_2) (i := 190) rfl)))) rfl
theorem w_294 : Cond.instanceMethod ⟨"HeronTalk$Town", "pick", "(IIZI)I"⟩ ∈ tbG := tbG_in (List.mem_append_right _ (List.mem_append_right _ (List.mem_append_left _ (List.mem_of_getElem? (l := tables_1_2) (i := 188) rfl)))) rfl
theorem w_295 : Cond.selects "HeronTalk$Town" ⟨"HeronTalk$Town", "pick", "(IIZI)I"⟩ ⟨"HeronTalk$Town", "pick", "(IIZI)I"⟩ ∈ tbG := tbG_in (List.mem_append_right _ (List.mem_append_right _ (List.mem_append_left _ (List.mem_of_getElem? (l := tables_1_2) (i := 189) rfl)))) rfl
theorem w_296 : Cond.fieldLink "HeronTalk" 333 "HeronTalk" "ABOVE" "[I" ∈ tbG := tbG_in (List.mem_append_right _ (List.mem_append_right _ (List.mem_append_left _ (List.mem_of_getElem? (l := tables_1_2) (i := 185) rfl)))) rfl
theorem w_297 : Cond.code ⟨"HeronTalk", "isOfKind", "(II)Z"⟩ prog_1_method_54_code 4 (some .boolean) ∈ tbG := tbG_in (List.mem_append_right _ (List.mem_append_right _ (List.mem_append_left _ (List.mem_of_getElem? (l := tables_1_2) (i := 184) rfl)))) rfl
theorem w_298 : Cond.static ⟨"HeronTalk", "isOfKind", "(II)Z"⟩ ∈ tbG := tbG_in (List.mem_append_right _ (List.mem_append_right _ (List.mem_append_left _ (List.mem_of_getElem? (l := tables_1_2) (i := 183) rfl)))) rfl
theorem w_299 : Cond.methodLink "HeronTalk$Town" 129 ⟨"HeronTalk$Town", "pick", "(IIZI)I"⟩ ∈ tbG := tbG_in (List.mem_append_right _ (List.mem_append_right _ (List.mem_append_left _ (List.mem_of_getElem? (l := tables_1_2) (i := 187) rfl)))) rfl
theorem w_300 : Cond.code ⟨"HeronTalk$Town", "givenOf", "(III)I"⟩ prog_7_method_27_code 5 (some .int) ∈ tbG := tbG_in (List.mem_append_right _ (List.mem_append_right _ (List.mem_append_left _ (List.mem_of_getElem? (l := tables_1_2) (i := 181) rfl)))) rfl
theorem w_301 : Cond.instanceMethod ⟨"HeronTalk$Town", "givenOf", "(III)I"⟩ ∈ tbG := tbG_in (List.mem_append_right _ (List.mem_append_right _ (List.mem_append_left _ (List.mem_of_getElem? (l := tables_1_2) (i := 179) rfl)))) rfl
theorem w_302 : Cond.selects "HeronTalk$Town" ⟨"HeronTalk$Town", "givenOf", "(III)I"⟩ ⟨"HeronTalk$Town", "givenOf", "(III)I"⟩ ∈ tbG := tbG_in (List.mem_append_right _ (List.mem_append_right _ (List.mem_append_left _ (List.mem_of_getElem? (l := tables_1_2) (i := 180) rfl)))) rfl
theorem w_303 : Cond.code ⟨"HeronTalk$Town", "gotOf", "(IIII)I"⟩ prog_7_method_28_code 7 (some .int) ∈ tbG := tbG_in (List.mem_append_right _ (List.mem_append_right _ (List.mem_append_left _ (List.mem_of_getElem? (l := tables_1_2) (i := 195) rfl)))) rfl
theorem w_304 : Cond.instanceMethod ⟨"HeronTalk$Town", "gotOf", "(IIII)I"⟩ ∈ tbG := tbG_in (List.mem_append_right _ (List.mem_append_right _ (List.mem_append_left _ (List.mem_of_getElem? (l := tables_1_2) (i := 193) rfl)))) rfl
theorem w_305 : Cond.selects "HeronTalk$Town" ⟨"HeronTalk$Town", "gotOf", "(IIII)I"⟩ ⟨"HeronTalk$Town", "gotOf", "(IIII)I"⟩ ∈ tbG := tbG_in (List.mem_append_right _ (List.mem_append_right _ (List.mem_append_left _ (List.mem_of_getElem? (l := tables_1_2) (i := 194) rfl)))) rfl
theorem w_306 : Cond.methodLink "HeronTalk$Town" 136 ⟨"HeronTalk$Town", "gotOf", "(IIII)I"⟩ ∈ tbG := tbG_in (List.mem_append_right _ (List.mem_append_right _ (List.mem_append_left _ (List.mem_of_getElem? (l := tables_1_2) (i := 209) rfl)))) rfl
theorem w_307 : Cond.methodLink "HeronTalk$Town" 133 ⟨"HeronTalk$Town", "givenOf", "(III)I"⟩ ∈ tbG := tbG_in (List.mem_append_right _ (List.mem_append_right _ (List.mem_append_left _ (List.mem_of_getElem? (l := tables_1_2) (i := 208) rfl)))) rfl
theorem w_308 : Cond.code ⟨"HeronTalk$Town", "worthOf", "(III)I"⟩ prog_7_method_29_code 8 (some .int) ∈ tbG := tbG_in (List.mem_append_right _ (List.mem_append_right _ (List.mem_append_left _ (List.mem_of_getElem? (l := tables_1_2) (i := 207) rfl)))) rfl
theorem w_309 : Cond.instanceMethod ⟨"HeronTalk$Town", "worthOf", "(III)I"⟩ ∈ tbG := tbG_in (List.mem_append_right _ (List.mem_append_right _ (List.mem_append_left _ (List.mem_of_getElem? (l := tables_1_2) (i := 205) rfl)))) rfl
theorem w_310 : Cond.selects "HeronTalk$Town" ⟨"HeronTalk$Town", "worthOf", "(III)I"⟩ ⟨"HeronTalk$Town", "worthOf", "(III)I"⟩ ∈ tbG := tbG_in (List.mem_append_right _ (List.mem_append_right _ (List.mem_append_left _ (List.mem_of_getElem? (l := tables_1_2) (i := 206) rfl)))) rfl
theorem w_311 : Cond.methodLink "HeronTalk" 180 ⟨"HeronTalk", "isOfKind", "(II)Z"⟩ ∈ tbG := tbG_in (List.mem_append_right _ (List.mem_append_right _ (List.mem_append_left _ (List.mem_of_getElem? (l := tables_1_2) (i := 203) rfl)))) rfl
theorem w_312 : Cond.code ⟨"HeronTalk", "goes", "(III)Z"⟩ prog_1_method_55_code 3 (some .boolean) ∈ tbG := tbG_in (List.mem_append_right _ (List.mem_append_right _ (List.mem_append_left _ (List.mem_of_getElem? (l := tables_1_2) (i := 202) rfl)))) rfl
theorem w_313 : Cond.static ⟨"HeronTalk", "goes", "(III)Z"⟩ ∈ tbG := tbG_in (List.mem_append_right _ (List.mem_append_right _ (List.mem_append_left _ (List.mem_of_getElem? (l := tables_1_2) (i := 201) rfl)))) rfl
theorem w_314 : Cond.code ⟨"HeronTalk$Town", "converse", "(III)Z"⟩ prog_7_method_30_code 7 (some .boolean) ∈ tbG := tbG_in (List.mem_append_right _ (List.mem_append_right _ (List.mem_append_left _ (List.mem_of_getElem? (l := tables_1_2) (i := 226) rfl)))) rfl
theorem w_315 : Cond.instanceMethod ⟨"HeronTalk$Town", "converse", "(III)Z"⟩ ∈ tbG := tbG_in (List.mem_append_right _ (List.mem_append_right _ (List.mem_append_left _ (List.mem_of_getElem? (l := tables_1_2) (i := 224) rfl)))) rfl
theorem w_316 : Cond.selects "HeronTalk$Town" ⟨"HeronTalk$Town", "converse", "(III)Z"⟩ ⟨"HeronTalk$Town", "converse", "(III)Z"⟩ ∈ tbG := tbG_in (List.mem_append_right _ (List.mem_append_right _ (List.mem_append_left _ (List.mem_of_getElem? (l := tables_1_2) (i := 225) rfl)))) rfl
theorem w_317 : Cond.methodLink "HeronTalk$Town" 144 ⟨"HeronTalk$Town", "converse", "(III)Z"⟩ ∈ tbG := tbG_in (List.mem_append_right _ (List.mem_append_right _ (List.mem_append_left _ (List.mem_of_getElem? (l := tables_1_2) (i := 237) rfl)))) rfl
theorem w_318 : Cond.code ⟨"HeronTalk$Town", "goRound", "()I"⟩ prog_7_method_31_code 3 (some .int) ∈ tbG := tbG_in (List.mem_append_right _ (List.mem_append_right _ (List.mem_append_left _ (List.mem_of_getElem? (l := tables_1_2) (i := 236) rfl)))) rfl
theorem w_319 : Cond.instanceMethod ⟨"HeronTalk$Town", "goRound", "()I"⟩ ∈ tbG := tbG_in (List.mem_append_right _ (List.mem_append_right _ (List.mem_append_left _ (List.mem_of_getElem? (l := tables_1_2) (i := 234) rfl)))) rfl
theorem w_320 : Cond.selects "HeronTalk$Town" ⟨"HeronTalk$Town", "goRound", "()I"⟩ ⟨"HeronTalk$Town", "goRound", "()I"⟩ ∈ tbG := tbG_in (List.mem_append_right _ (List.mem_append_right _ (List.mem_append_left _ (List.mem_of_getElem? (l := tables_1_2) (i := 235) rfl)))) rfl
theorem w_321 : Cond.code ⟨"HeronTalk$Town", "pricesForOthers", "(I)I"⟩ prog_7_method_33_code 4 (some .int) ∈ tbG := tbG_in (List.mem_append_right _ (List.mem_append_right _ (List.mem_append_right _ (List.mem_append_left _ (List.mem_of_getElem? (l := tables_1_3) (i := 47) rfl))))) rfl
theorem w_322 : Cond.instanceMethod ⟨"HeronTalk$Town", "pricesForOthers", "(I)I"⟩ ∈ tbG := tbG_in (List.mem_append_right _ (List.mem_append_right _ (List.mem_append_right _ (List.mem_append_left _ (List.mem_of_getElem? (l := tables_1_3) (i := 45) rfl))))) rfl
theorem w_323 : Cond.selects "HeronTalk$Town" ⟨"HeronTalk$Town", "pricesForOthers", "(I)I"⟩ ⟨"HeronTalk$Town", "pricesForOthers", "(I)I"⟩ ∈ tbG := tbG_in (List.mem_append_right _ (List.mem_append_right _ (List.mem_append_right _ (List.mem_append_left _ (List.mem_of_getElem? (l := tables_1_3) (i := 46) rfl))))) rfl
theorem w_324 : Cond.methodLink "HeronTalk$Town" 147 ⟨"HeronTalk$Town", "pricesForOthers", "(I)I"⟩ ∈ tbG := tbG_in (List.mem_append_right _ (List.mem_append_right _ (List.mem_append_right _ (List.mem_append_left _ (List.mem_of_getElem? (l := tables_1_3) (i := 44) rfl))))) rfl
theorem w_325 : Cond.code ⟨"HeronTalk$Town", "bestToKeep", "(I)I"⟩ prog_7_method_32_code 7 (some .int) ∈ tbG := tbG_in (List.mem_append_right _ (List.mem_append_right _ (List.mem_append_right _ (List.mem_append_left _ (List.mem_of_getElem? (l := tables_1_3) (i := 43) rfl))))) rfl
theorem w_326 : Cond.instanceMethod ⟨"HeronTalk$Town", "bestToKeep", "(I)I"⟩ ∈ tbG := tbG_in (List.mem_append_right _ (List.mem_append_right _ (List.mem_append_right _ (List.mem_append_left _ (List.mem_of_getElem? (l := tables_1_3) (i := 41) rfl))))) rfl
theorem w_327 : Cond.selects "HeronTalk$Town" ⟨"HeronTalk$Town", "bestToKeep", "(I)I"⟩ ⟨"HeronTalk$Town", "bestToKeep", "(I)I"⟩ ∈ tbG := tbG_in (List.mem_append_right _ (List.mem_append_right _ (List.mem_append_right _ (List.mem_append_left _ (List.mem_of_getElem? (l := tables_1_3) (i := 42) rfl))))) rfl
theorem w_328 : Cond.constant "HeronTalk$Town" 158 (-1000000005) ∈ tbG := tbG_in (List.mem_append_right _ (List.mem_append_right _ (List.mem_append_right _ (List.mem_append_right _ (List.mem_append_left _ (List.mem_of_getElem? (l := tables_1_4) (i := 34) rfl)))))) rfl
theorem w_329 : Cond.fieldLink "HeronTalk$Town" 155 "HeronTalk$Sheet" "places" "[I" ∈ tbG := tbG_in (List.mem_append_right _ (List.mem_append_left _ (List.mem_of_getElem? (l := tables_1_1) (i := 171) rfl))) rfl
theorem w_330 : Cond.fieldLink "HeronTalk$Town" 150 "HeronTalk$Sheet" "size" "I" ∈ tbG := tbG_in (List.mem_append_right _ (List.mem_append_left _ (List.mem_of_getElem? (l := tables_1_1) (i := 168) rfl))) rfl
theorem w_331 : Cond.code ⟨"HeronTalk$Town", "takeWorths", "(LHeronTalk$Sheet;)I"⟩ prog_7_method_34_code 6 (some .int) ∈ tbG := tbG_in (List.mem_append_right _ (List.mem_append_right _ (List.mem_append_right _ (List.mem_append_right _ (List.mem_append_left _ (List.mem_of_getElem? (l := tables_1_4) (i := 33) rfl)))))) rfl
theorem w_332 : Cond.instanceMethod ⟨"HeronTalk$Town", "takeWorths", "(LHeronTalk$Sheet;)I"⟩ ∈ tbG := tbG_in (List.mem_append_right _ (List.mem_append_right _ (List.mem_append_right _ (List.mem_append_right _ (List.mem_append_left _ (List.mem_of_getElem? (l := tables_1_4) (i := 31) rfl)))))) rfl
theorem w_333 : Cond.selects "HeronTalk$Town" ⟨"HeronTalk$Town", "takeWorths", "(LHeronTalk$Sheet;)I"⟩ ⟨"HeronTalk$Town", "takeWorths", "(LHeronTalk$Sheet;)I"⟩ ∈ tbG := tbG_in (List.mem_append_right _ (List.mem_append_right _ (List.mem_append_right _ (List.mem_append_right _ (List.mem_append_left _ (List.mem_of_getElem? (l := tables_1_4) (i := 32) rfl)))))) rfl
theorem w_334 : Cond.code ⟨"HeronTalk$Town", "firstOtherwise", "(LHeronTalk$Sheet;)I"⟩ prog_7_method_35_code 4 (some .int) ∈ tbG := tbG_in (List.mem_append_right _ (List.mem_append_right _ (List.mem_append_right _ (List.mem_append_right _ (List.mem_append_left _ (List.mem_of_getElem? (l := tables_1_4) (i := 42) rfl)))))) rfl
theorem w_335 : Cond.instanceMethod ⟨"HeronTalk$Town", "firstOtherwise", "(LHeronTalk$Sheet;)I"⟩ ∈ tbG := tbG_in (List.mem_append_right _ (List.mem_append_right _ (List.mem_append_right _ (List.mem_append_right _ (List.mem_append_left _ (List.mem_of_getElem? (l := tables_1_4) (i := 40) rfl)))))) rfl
theorem w_336 : Cond.selects "HeronTalk$Town" ⟨"HeronTalk$Town", "firstOtherwise", "(LHeronTalk$Sheet;)I"⟩ ⟨"HeronTalk$Town", "firstOtherwise", "(LHeronTalk$Sheet;)I"⟩ ∈ tbG := tbG_in (List.mem_append_right _ (List.mem_append_right _ (List.mem_append_right _ (List.mem_append_right _ (List.mem_append_left _ (List.mem_of_getElem? (l := tables_1_4) (i := 41) rfl)))))) rfl
theorem w_337 : Cond.fieldLink "HeronTalk" 60 "HeronTalk" "row" "[I" ∈ tbG := tbG_in (List.mem_append_right _ (List.mem_append_left _ (List.mem_of_getElem? (l := tables_1_1) (i := 222) rfl))) rfl
theorem w_338 : Cond.fieldLink "HeronTalk" 56 "HeronTalk" "waits" "I" ∈ tbG := tbG_in (List.mem_append_right _ (List.mem_append_left _ (List.mem_of_getElem? (l := tables_1_1) (i := 221) rfl))) rfl
theorem w_339 : Cond.fieldLink "HeronTalk" 52 "HeronTalk" "waiting" "[I" ∈ tbG := tbG_in (List.mem_append_right _ (List.mem_append_left _ (List.mem_of_getElem? (l := tables_1_1) (i := 220) rfl))) rfl
theorem w_340 : Cond.methodLink "HeronTalk" 51 ⟨"HeronTalk$Slot", "<init>", "()V"⟩ ∈ tbG := tbG_in (List.mem_append_right _ (List.mem_append_left _ (List.mem_of_getElem? (l := tables_1_1) (i := 182) rfl))) rfl
theorem w_341 : Cond.classLink "HeronTalk" 45 "HeronTalk$Slot" ∈ tbG := tbG_in (List.mem_append_right _ (List.mem_append_left _ (List.mem_of_getElem? (l := tables_1_1) (i := 179) rfl))) rfl
theorem w_342 : Cond.instantiable "HeronTalk$Slot" 6 ∈ tbG := tbG_in (List.mem_append_right _ (List.mem_append_left _ (List.mem_of_getElem? (l := tables_1_1) (i := 181) rfl))) rfl
theorem w_343 : Cond.fieldLink "HeronTalk" 47 "HeronTalk" "slots" "[LHeronTalk$Slot;" ∈ tbG := tbG_in (List.mem_append_right _ (List.mem_append_left _ (List.mem_of_getElem? (l := tables_1_1) (i := 219) rfl))) rfl
theorem w_344 : Cond.methodLink "HeronTalk" 44 ⟨"HeronTalk$Sheet", "<init>", "()V"⟩ ∈ tbG := tbG_in (List.mem_append_right _ (List.mem_append_left _ (List.mem_of_getElem? (l := tables_1_1) (i := 161) rfl))) rfl
theorem w_345 : Cond.classLink "HeronTalk" 38 "HeronTalk$Sheet" ∈ tbG := tbG_in (List.mem_append_right _ (List.mem_append_left _ (List.mem_of_getElem? (l := tables_1_1) (i := 158) rfl))) rfl
theorem w_346 : Cond.fieldLink "HeronTalk" 40 "HeronTalk" "sheets" "[LHeronTalk$Sheet;" ∈ tbG := tbG_in (List.mem_append_right _ (List.mem_append_left _ (List.mem_of_getElem? (l := tables_1_1) (i := 218) rfl))) rfl
theorem w_347 : Cond.fieldLink "HeronTalk" 37 "HeronTalk" "tape" "LHeronTalk$Tape;" ∈ tbG := tbG_in (List.mem_append_right _ (List.mem_append_left _ (List.mem_of_getElem? (l := tables_1_1) (i := 216) rfl))) rfl
theorem w_348 : Cond.fieldLink "HeronTalk" 33 "HeronTalk$Reader" "tape" "LHeronTalk$Tape;" ∈ tbG := tbG_in (List.mem_append_right _ (List.mem_append_left _ (List.mem_of_getElem? (l := tables_1_1) (i := 127) rfl))) rfl
theorem w_349 : Cond.fieldLink "HeronTalk" 29 "HeronTalk" "reader" "LHeronTalk$Reader;" ∈ tbG := tbG_in (List.mem_append_right _ (List.mem_append_left _ (List.mem_of_getElem? (l := tables_1_1) (i := 217) rfl))) rfl
theorem w_350 : Cond.methodLink "HeronTalk" 28 ⟨"HeronTalk$Reader", "<init>", "()V"⟩ ∈ tbG := tbG_in (List.mem_append_right _ (List.mem_append_left _ (List.mem_of_getElem? (l := tables_1_1) (i := 106) rfl))) rfl
theorem w_351 : Cond.classLink "HeronTalk" 26 "HeronTalk$Reader" ∈ tbG := tbG_in (List.mem_append_right _ (List.mem_append_left _ (List.mem_of_getElem? (l := tables_1_1) (i := 104) rfl))) rfl
theorem w_352 : Cond.instantiable "HeronTalk$Reader" 10 ∈ tbG := tbG_in (List.mem_append_right _ (List.mem_append_left _ (List.mem_of_getElem? (l := tables_1_1) (i := 105) rfl))) rfl
theorem w_353 : Cond.fieldLink "HeronTalk" 22 "HeronTalk" "hasImage" "Z" ∈ tbG := tbG_in (List.mem_append_right _ (List.mem_append_left _ (List.mem_of_getElem? (l := tables_1_1) (i := 215) rfl))) rfl
theorem w_354 : Cond.fieldLink "HeronTalk" 19 "HeronTalk" "thought" "LHeronTalk$Town;" ∈ tbG := tbG_in (List.mem_append_right _ (List.mem_append_left _ (List.mem_of_getElem? (l := tables_1_1) (i := 214) rfl))) rfl
theorem w_355 : Cond.methodLink "HeronTalk" 9 ⟨"HeronTalk$Town", "<init>", "()V"⟩ ∈ tbG := tbG_in (List.mem_append_right _ (List.mem_append_left _ (List.mem_of_getElem? (l := tables_1_1) (i := 26) rfl))) rfl
theorem w_356 : Cond.classLink "HeronTalk" 7 "HeronTalk$Town" ∈ tbG := tbG_in (List.mem_append_right _ (List.mem_append_left _ (List.mem_of_getElem? (l := tables_1_1) (i := 24) rfl))) rfl
theorem w_357 : Cond.instantiable "HeronTalk$Town" 18 ∈ tbG := tbG_in (List.mem_append_right _ (List.mem_append_left _ (List.mem_of_getElem? (l := tables_1_1) (i := 25) rfl))) rfl
theorem w_358 : Cond.fieldLink "HeronTalk" 16 "HeronTalk" "image" "LHeronTalk$Town;" ∈ tbG := tbG_in (List.mem_append_right _ (List.mem_append_left _ (List.mem_of_getElem? (l := tables_1_1) (i := 213) rfl))) rfl
theorem w_359 : Cond.fieldLink "HeronTalk" 10 "HeronTalk" "town" "LHeronTalk$Town;" ∈ tbG := tbG_in (List.mem_append_right _ (List.mem_append_left _ (List.mem_of_getElem? (l := tables_1_1) (i := 212) rfl))) rfl
theorem w_360 : Cond.methodLink "HeronTalk" 1 ⟨"java/lang/Object", "<init>", "()V"⟩ ∈ tbG := tbG_in (List.mem_append_right _ (List.mem_append_left _ (List.mem_of_getElem? (l := tables_1_1) (i := 21) rfl))) rfl
theorem w_361 : Cond.code ⟨"HeronTalk", "<init>", "()V"⟩ prog_1_method_1_code 2 (none : Option Jvm.ClassFile.FieldType) ∈ tbG := tbG_in (List.mem_append_right _ (List.mem_append_left _ (List.mem_of_getElem? (l := tables_1_1) (i := 20) rfl))) rfl
theorem w_362 : Cond.instanceMethod ⟨"HeronTalk", "<init>", "()V"⟩ ∈ tbG := tbG_in (List.mem_append_right _ (List.mem_append_left _ (List.mem_of_getElem? (l := tables_1_1) (i := 19) rfl))) rfl
theorem w_363 : Cond.code ⟨"HeronTalk", "isOutside", "(III)Z"⟩ prog_1_method_51_code 3 (some .boolean) ∈ tbG := tbG_in (List.mem_append_right _ (List.mem_append_right _ (List.mem_append_left _ (List.mem_of_getElem? (l := tables_1_2) (i := 12) rfl)))) rfl
theorem w_364 : Cond.static ⟨"HeronTalk", "isOutside", "(III)Z"⟩ ∈ tbG := tbG_in (List.mem_append_right _ (List.mem_append_right _ (List.mem_append_left _ (List.mem_of_getElem? (l := tables_1_2) (i := 11) rfl)))) rfl
theorem w_365 : Cond.methodLink "HeronTalk" 72 ⟨"HeronTalk$Town", "addFact", "(I)I"⟩ ∈ tbG := tbG_in (List.mem_append_right _ (List.mem_append_right _ (List.mem_append_left _ (List.mem_of_getElem? (l := tables_1_2) (i := 15) rfl)))) rfl
theorem w_366 : Cond.constant "HeronTalk" 71 (-1000000003) ∈ tbG := tbG_in (List.mem_append_right _ (List.mem_append_right _ (List.mem_append_left _ (List.mem_of_getElem? (l := tables_1_2) (i := 14) rfl)))) rfl
theorem w_367 : Cond.fieldLink "HeronTalk" 68 "HeronTalk$Town" "facts" "I" ∈ tbG := tbG_in (List.mem_append_right _ (List.mem_append_left _ (List.mem_of_getElem? (l := tables_1_1) (i := 33) rfl))) rfl
theorem w_368 : Cond.constant "HeronTalk" 67 (-1000000001) ∈ tbG := tbG_in (List.mem_append_right _ (List.mem_append_right _ (List.mem_append_left _ (List.mem_of_getElem? (l := tables_1_2) (i := 13) rfl)))) rfl
theorem w_369 : Cond.methodLink "HeronTalk" 63 ⟨"HeronTalk", "isOutside", "(III)Z"⟩ ∈ tbG := tbG_in (List.mem_append_right _ (List.mem_append_right _ (List.mem_append_left _ (List.mem_of_getElem? (l := tables_1_2) (i := 10) rfl)))) rfl
theorem w_370 : Cond.code ⟨"HeronTalk", "fact", "(I)I"⟩ prog_1_method_2_code 2 (some .int) ∈ tbG := tbG_in (List.mem_append_right _ (List.mem_append_right _ (List.mem_append_left _ (List.mem_of_getElem? (l := tables_1_2) (i := 9) rfl)))) rfl
theorem w_371 : Cond.instanceMethod ⟨"HeronTalk", "fact", "(I)I"⟩ ∈ tbG := tbG_in (List.mem_append_right _ (List.mem_append_right _ (List.mem_append_left _ (List.mem_of_getElem? (l := tables_1_2) (i := 7) rfl)))) rfl
theorem w_372 : Cond.selects "HeronTalk" ⟨"HeronTalk", "fact", "(I)I"⟩ ⟨"HeronTalk", "fact", "(I)I"⟩ ∈ tbG := tbG_in (List.mem_append_right _ (List.mem_append_right _ (List.mem_append_left _ (List.mem_of_getElem? (l := tables_1_2) (i := 8) rfl)))) rfl
theorem w_373 : Cond.code ⟨"HeronTalk", "isNoFact", "(I)Z"⟩ prog_1_method_45_code 2 (some .boolean) ∈ tbG := tbG_in (List.mem_append_right _ (List.mem_append_right _ (List.mem_append_left _ (List.mem_of_getElem? (l := tables_1_2) (i := 26) rfl)))) rfl
theorem w_374 : Cond.instanceMethod ⟨"HeronTalk", "isNoFact", "(I)Z"⟩ ∈ tbG := tbG_in (List.mem_append_right _ (List.mem_append_right _ (List.mem_append_left _ (List.mem_of_getElem? (l := tables_1_2) (i := 25) rfl)))) rfl
theorem w_375 : Cond.selects "HeronTalk" ⟨"HeronTalk", "isNoFact", "(I)Z"⟩ ⟨"HeronTalk", "isNoFact", "(I)Z"⟩ ∈ tbG := tbG_in (List.mem_append_left _ (List.mem_of_getElem? (l := k2_sels lw_privs) (i := 0) rfl)) rfl
theorem w_376 : Cond.fieldLink "HeronTalk" 80 "HeronTalk$Town" "worth" "[I" ∈ tbG := tbG_in (List.mem_append_right _ (List.mem_append_left _ (List.mem_of_getElem? (l := tables_1_1) (i := 49) rfl))) rfl
theorem w_377 : Cond.fieldLink "HeronTalk" 83 "HeronTalk$Town" "till" "[I" ∈ tbG := tbG_in (List.mem_append_right _ (List.mem_append_left _ (List.mem_of_getElem? (l := tables_1_1) (i := 51) rfl))) rfl
theorem w_378 : Cond.methodLink "HeronTalk" 86 ⟨"HeronTalk$Town", "isFresh", "(I)Z"⟩ ∈ tbG := tbG_in (List.mem_append_right _ (List.mem_append_right _ (List.mem_append_left _ (List.mem_of_getElem? (l := tables_1_2) (i := 27) rfl)))) rfl
theorem w_379 : Cond.methodLink "HeronTalk" 89 ⟨"HeronTalk$Town", "knowersOf", "(I)I"⟩ ∈ tbG := tbG_in (List.mem_append_right _ (List.mem_append_right _ (List.mem_append_left _ (List.mem_of_getElem? (l := tables_1_2) (i := 31) rfl)))) rfl
theorem w_380 : Cond.methodLink "HeronTalk" 76 ⟨"HeronTalk", "isNoFact", "(I)Z"⟩ ∈ tbG := tbG_in (List.mem_append_right _ (List.mem_append_right _ (List.mem_append_left _ (List.mem_of_getElem? (l := tables_1_2) (i := 23) rfl)))) rfl
theorem w_381 : Cond.code ⟨"HeronTalk", "factTold", "(II)I"⟩ prog_1_method_3_code 3 (some .int) ∈ tbG := tbG_in (List.mem_append_right _ (List.mem_append_right _ (List.mem_append_left _ (List.mem_of_getElem? (l := tables_1_2) (i := 22) rfl)))) rfl
theorem w_382 : Cond.instanceMethod ⟨"HeronTalk", "factTold", "(II)I"⟩ ∈ tbG := tbG_in (List.mem_append_right _ (List.mem_append_right _ (List.mem_append_left _ (List.mem_of_getElem? (l := tables_1_2) (i := 20) rfl)))) rfl
theorem w_383 : Cond.selects "HeronTalk" ⟨"HeronTalk", "factTold", "(II)I"⟩ ⟨"HeronTalk", "factTold", "(II)I"⟩ ∈ tbG := tbG_in (List.mem_append_right _ (List.mem_append_right _ (List.mem_append_left _ (List.mem_of_getElem? (l := tables_1_2) (i := 21) rfl)))) rfl
theorem w_384 : Cond.code ⟨"HeronTalk", "set", "(III)I"⟩ prog_1_method_4_code 5 (some .int) ∈ tbG := tbG_in (List.mem_append_right _ (List.mem_append_right _ (List.mem_append_left _ (List.mem_of_getElem? (l := tables_1_2) (i := 42) rfl)))) rfl
theorem w_385 : Cond.instanceMethod ⟨"HeronTalk", "set", "(III)I"⟩ ∈ tbG := tbG_in (List.mem_append_right _ (List.mem_append_right _ (List.mem_append_left _ (List.mem_of_getElem? (l := tables_1_2) (i := 40) rfl)))) rfl
theorem w_386 : Cond.selects "HeronTalk" ⟨"HeronTalk", "set", "(III)I"⟩ ⟨"HeronTalk", "set", "(III)I"⟩ ∈ tbG := tbG_in (List.mem_append_right _ (List.mem_append_right _ (List.mem_append_left _ (List.mem_of_getElem? (l := tables_1_2) (i := 41) rfl)))) rfl
theorem w_387 : Cond.methodLink "HeronTalk" 95 ⟨"HeronTalk$Town", "addPerson", "()I"⟩ ∈ tbG := tbG_in (List.mem_append_right _ (List.mem_append_right _ (List.mem_append_left _ (List.mem_of_getElem? (l := tables_1_2) (i := 47) rfl)))) rfl
theorem w_388 : Cond.fieldLink "HeronTalk" 92 "HeronTalk$Town" "people" "I" ∈ tbG := tbG_in (List.mem_append_right _ (List.mem_append_left _ (List.mem_of_getElem? (l := tables_1_1) (i := 35) rfl))) rfl
theorem w_389 : Cond.code ⟨"HeronTalk", "person", "()I"⟩ prog_1_method_5_code 1 (some .int) ∈ tbG := tbG_in (List.mem_append_right _ (List.mem_append_right _ (List.mem_append_left _ (List.mem_of_getElem? (l := tables_1_2) (i := 46) rfl)))) rfl
theorem w_390 : Cond.instanceMethod ⟨"HeronTalk", "person", "()I"⟩ ∈ tbG := tbG_in (List.mem_append_right _ (List.mem_append_right _ (List.mem_append_left _ (List.mem_of_getElem? (l := tables_1_2) (i := 44) rfl)))) rfl
theorem w_391 : Cond.selects "HeronTalk" ⟨"HeronTalk", "person", "()I"⟩ ⟨"HeronTalk", "person", "()I"⟩ ∈ tbG := tbG_in (List.mem_append_right _ (List.mem_append_right _ (List.mem_append_left _ (List.mem_of_getElem? (l := tables_1_2) (i := 45) rfl)))) rfl
theorem w_392 : Cond.code ⟨"HeronTalk", "isNobody", "(I)Z"⟩ prog_1_method_46_code 2 (some .boolean) ∈ tbG := tbG_in (List.mem_append_right _ (List.mem_append_right _ (List.mem_append_left _ (List.mem_of_getElem? (l := tables_1_2) (i := 58) rfl)))) rfl
theorem w_393 : Cond.instanceMethod ⟨"HeronTalk", "isNobody", "(I)Z"⟩ ∈ tbG := tbG_in (List.mem_append_right _ (List.mem_append_right _ (List.mem_append_left _ (List.mem_of_getElem? (l := tables_1_2) (i := 57) rfl)))) rfl
theorem w_394 : Cond.selects "HeronTalk" ⟨"HeronTalk", "isNobody", "(I)Z"⟩ ⟨"HeronTalk", "isNobody", "(I)Z"⟩ ∈ tbG := tbG_in (List.mem_append_left _ (List.mem_of_getElem? (l := k2_sels lw_privs) (i := 1) rfl)) rfl
theorem w_395 : Cond.fieldLink "HeronTalk" 102 "HeronTalk$Town" "knows" "[I" ∈ tbG := tbG_in (List.mem_append_right _ (List.mem_append_left _ (List.mem_of_getElem? (l := tables_1_1) (i := 53) rfl))) rfl
theorem w_396 : Cond.fieldLink "HeronTalk" 105 "HeronTalk$Town" "needs" "[I" ∈ tbG := tbG_in (List.mem_append_right _ (List.mem_append_left _ (List.mem_of_getElem? (l := tables_1_1) (i := 55) rfl))) rfl
theorem w_397 : Cond.methodLink "HeronTalk" 108 ⟨"HeronTalk$Town", "newsOf", "(I)I"⟩ ∈ tbG := tbG_in (List.mem_append_right _ (List.mem_append_right _ (List.mem_append_left _ (List.mem_of_getElem? (l := tables_1_2) (i := 59) rfl)))) rfl
theorem w_398 : Cond.methodLink "HeronTalk" 111 ⟨"HeronTalk$Town", "richesOf", "(I)I"⟩ ∈ tbG := tbG_in (List.mem_append_right _ (List.mem_append_right _ (List.mem_append_left _ (List.mem_of_getElem? (l := tables_1_2) (i := 74) rfl)))) rfl
theorem w_399 : Cond.methodLink "HeronTalk" 99 ⟨"HeronTalk", "isNobody", "(I)Z"⟩ ∈ tbG := tbG_in (List.mem_append_right _ (List.mem_append_right _ (List.mem_append_left _ (List.mem_of_getElem? (l := tables_1_2) (i := 55) rfl)))) rfl
theorem w_400 : Cond.code ⟨"HeronTalk", "personTold", "(II)I"⟩ prog_1_method_6_code 3 (some .int) ∈ tbG := tbG_in (List.mem_append_right _ (List.mem_append_right _ (List.mem_append_left _ (List.mem_of_getElem? (l := tables_1_2) (i := 54) rfl)))) rfl
theorem w_401 : Cond.instanceMethod ⟨"HeronTalk", "personTold", "(II)I"⟩ ∈ tbG := tbG_in (List.mem_append_right _ (List.mem_append_right _ (List.mem_append_left _ (List.mem_of_getElem? (l := tables_1_2) (i := 52) rfl)))) rfl
theorem w_402 : Cond.selects "HeronTalk" ⟨"HeronTalk", "personTold", "(II)I"⟩ ⟨"HeronTalk", "personTold", "(II)I"⟩ ∈ tbG := tbG_in (List.mem_append_right _ (List.mem_append_right _ (List.mem_append_left _ (List.mem_of_getElem? (l := tables_1_2) (i := 53) rfl)))) rfl
theorem w_403 : Cond.methodLink "HeronTalk" 117 ⟨"HeronTalk$Town", "withWhatFollows", "(I)I"⟩ ∈ tbG := tbG_in (List.mem_append_right _ (List.mem_append_right _ (List.mem_append_left _ (List.mem_of_getElem? (l := tables_1_2) (i := 86) rfl)))) rfl
theorem w_404 : Cond.methodLink "HeronTalk" 114 ⟨"HeronTalk$Town", "allFacts", "()I"⟩ ∈ tbG := tbG_in (List.mem_append_right _ (List.mem_append_right _ (List.mem_append_left _ (List.mem_of_getElem? (l := tables_1_2) (i := 82) rfl)))) rfl
theorem w_405 : Cond.code ⟨"HeronTalk", "knows", "(III)I"⟩ prog_1_method_7_code 5 (some .int) ∈ tbG := tbG_in (List.mem_append_right _ (List.mem_append_right _ (List.mem_append_left _ (List.mem_of_getElem? (l := tables_1_2) (i := 81) rfl)))) rfl
theorem w_406 : Cond.instanceMethod ⟨"HeronTalk", "knows", "(III)I"⟩ ∈ tbG := tbG_in (List.mem_append_right _ (List.mem_append_right _ (List.mem_append_left _ (List.mem_of_getElem? (l := tables_1_2) (i := 79) rfl)))) rfl
theorem w_407 : Cond.selects "HeronTalk" ⟨"HeronTalk", "knows", "(III)I"⟩ ⟨"HeronTalk", "knows", "(III)I"⟩ ∈ tbG := tbG_in (List.mem_append_right _ (List.mem_append_right _ (List.mem_append_left _ (List.mem_of_getElem? (l := tables_1_2) (i := 80) rfl)))) rfl
theorem w_408 : Cond.methodLink "HeronTalk" 123 ⟨"HeronTalk$Town", "addRule", "(III)I"⟩ ∈ tbG := tbG_in (List.mem_append_right _ (List.mem_append_right _ (List.mem_append_left _ (List.mem_of_getElem? (l := tables_1_2) (i := 94) rfl)))) rfl
theorem w_409 : Cond.fieldLink "HeronTalk" 120 "HeronTalk$Town" "rules" "I" ∈ tbG := tbG_in (List.mem_append_right _ (List.mem_append_left _ (List.mem_of_getElem? (l := tables_1_1) (i := 37) rfl))) rfl
theorem w_410 : Cond.code ⟨"HeronTalk", "follows", "(III)I"⟩ prog_1_method_8_code 4 (some .int) ∈ tbG := tbG_in (List.mem_append_right _ (List.mem_append_right _ (List.mem_append_left _ (List.mem_of_getElem? (l := tables_1_2) (i := 93) rfl)))) rfl
theorem w_411 : Cond.instanceMethod ⟨"HeronTalk", "follows", "(III)I"⟩ ∈ tbG := tbG_in (List.mem_append_right _ (List.mem_append_right _ (List.mem_append_left _ (List.mem_of_getElem? (l := tables_1_2) (i := 91) rfl)))) rfl
theorem w_412 : Cond.selects "HeronTalk" ⟨"HeronTalk", "follows", "(III)I"⟩ ⟨"HeronTalk", "follows", "(III)I"⟩ ∈ tbG := tbG_in (List.mem_append_right _ (List.mem_append_right _ (List.mem_append_left _ (List.mem_of_getElem? (l := tables_1_2) (i := 92) rfl)))) rfl
theorem w_413 : Cond.methodLink "HeronTalk" 127 ⟨"HeronTalk$Town", "priceOf", "(II)I"⟩ ∈ tbG := tbG_in (List.mem_append_right _ (List.mem_append_right _ (List.mem_append_left _ (List.mem_of_getElem? (l := tables_1_2) (i := 107) rfl)))) rfl
theorem w_414 : Cond.code ⟨"HeronTalk", "price", "(II)I"⟩ prog_1_method_9_code 3 (some .int) ∈ tbG := tbG_in (List.mem_append_right _ (List.mem_append_right _ (List.mem_append_left _ (List.mem_of_getElem? (l := tables_1_2) (i := 106) rfl)))) rfl
theorem w_415 : Cond.instanceMethod ⟨"HeronTalk", "price", "(II)I"⟩ ∈ tbG := tbG_in (List.mem_append_right _ (List.mem_append_right _ (List.mem_append_left _ (List.mem_of_getElem? (l := tables_1_2) (i := 104) rfl)))) rfl
theorem w_416 : Cond.selects "HeronTalk" ⟨"HeronTalk", "price", "(II)I"⟩ ⟨"HeronTalk", "price", "(II)I"⟩ ∈ tbG := tbG_in (List.mem_append_right _ (List.mem_append_right _ (List.mem_append_left _ (List.mem_of_getElem? (l := tables_1_2) (i := 105) rfl)))) rfl
theorem w_417 : Cond.methodLink "HeronTalk" 134 ⟨"HeronTalk$Town", "knownTogether", "()I"⟩ ∈ tbG := tbG_in (List.mem_append_right _ (List.mem_append_right _ (List.mem_append_left _ (List.mem_of_getElem? (l := tables_1_2) (i := 147) rfl)))) rfl
theorem w_418 : Cond.methodLink "HeronTalk" 131 ⟨"HeronTalk$Town", "drawAll", "()V"⟩ ∈ tbG := tbG_in (List.mem_append_right _ (List.mem_append_right _ (List.mem_append_left _ (List.mem_of_getElem? (l := tables_1_2) (i := 136) rfl)))) rfl
theorem w_419 : Cond.code ⟨"HeronTalk", "deal", "()I"⟩ prog_1_method_10_code 1 (some .int) ∈ tbG := tbG_in (List.mem_append_right _ (List.mem_append_right _ (List.mem_append_left _ (List.mem_of_getElem? (l := tables_1_2) (i := 135) rfl)))) rfl
theorem w_420 : Cond.instanceMethod ⟨"HeronTalk", "deal", "()I"⟩ ∈ tbG := tbG_in (List.mem_append_right _ (List.mem_append_right _ (List.mem_append_left _ (List.mem_of_getElem? (l := tables_1_2) (i := 133) rfl)))) rfl
theorem w_421 : Cond.selects "HeronTalk" ⟨"HeronTalk", "deal", "()I"⟩ ⟨"HeronTalk", "deal", "()I"⟩ ∈ tbG := tbG_in (List.mem_append_right _ (List.mem_append_right _ (List.mem_append_left _ (List.mem_of_getElem? (l := tables_1_2) (i := 134) rfl)))) rfl
theorem w_422 : Cond.fieldLink "HeronTalk" 137 "HeronTalk$Town" "z" "I" ∈ tbG := tbG_in (List.mem_append_right _ (List.mem_append_left _ (List.mem_of_getElem? (l := tables_1_1) (i := 47) rfl))) rfl
theorem w_423 : Cond.code ⟨"HeronTalk", "seed", "(I)I"⟩ prog_1_method_11_code 3 (some .int) ∈ tbG := tbG_in (List.mem_append_right _ (List.mem_append_right _ (List.mem_append_left _ (List.mem_of_getElem? (l := tables_1_2) (i := 154) rfl)))) rfl
theorem w_424 : Cond.instanceMethod ⟨"HeronTalk", "seed", "(I)I"⟩ ∈ tbG := tbG_in (List.mem_append_right _ (List.mem_append_right _ (List.mem_append_left _ (List.mem_of_getElem? (l := tables_1_2) (i := 152) rfl)))) rfl
theorem w_425 : Cond.selects "HeronTalk" ⟨"HeronTalk", "seed", "(I)I"⟩ ⟨"HeronTalk", "seed", "(I)I"⟩ ∈ tbG := tbG_in (List.mem_append_right _ (List.mem_append_right _ (List.mem_append_left _ (List.mem_of_getElem? (l := tables_1_2) (i := 153) rfl)))) rfl
theorem w_426 : Cond.fieldLink "HeronTalk" 140 "HeronTalk$Town" "hour" "I" ∈ tbG := tbG_in (List.mem_append_right _ (List.mem_append_left _ (List.mem_of_getElem? (l := tables_1_1) (i := 43) rfl))) rfl
theorem w_427 : Cond.code ⟨"HeronTalk", "clock", "(I)I"⟩ prog_1_method_12_code 3 (some .int) ∈ tbG := tbG_in (List.mem_append_right _ (List.mem_append_right _ (List.mem_append_left _ (List.mem_of_getElem? (l := tables_1_2) (i := 158) rfl)))) rfl
theorem w_428 : Cond.instanceMethod ⟨"HeronTalk", "clock", "(I)I"⟩ ∈ tbG := tbG_in (List.mem_append_right _ (List.mem_append_right _ (List.mem_append_left _ (List.mem_of_getElem? (l := tables_1_2) (i := 156) rfl)))) rfl
theorem w_429 : Cond.selects "HeronTalk" ⟨"HeronTalk", "clock", "(I)I"⟩ ⟨"HeronTalk", "clock", "(I)I"⟩ ∈ tbG := tbG_in (List.mem_append_right _ (List.mem_append_right _ (List.mem_append_left _ (List.mem_of_getElem? (l := tables_1_2) (i := 157) rfl)))) rfl
theorem w_430 : Cond.code ⟨"HeronTalk", "isNoKind", "(I)Z"⟩ prog_1_method_48_code 1 (some .boolean) ∈ tbG := tbG_in (List.mem_append_right _ (List.mem_append_right _ (List.mem_append_left _ (List.mem_of_getElem? (l := tables_1_2) (i := 165) rfl)))) rfl
theorem w_431 : Cond.static ⟨"HeronTalk", "isNoKind", "(I)Z"⟩ ∈ tbG := tbG_in (List.mem_append_right _ (List.mem_append_right _ (List.mem_append_left _ (List.mem_of_getElem? (l := tables_1_2) (i := 164) rfl)))) rfl
theorem w_432 : Cond.methodLink "HeronTalk" 149 ⟨"HeronTalk$Town", "addTalk", "(III)I"⟩ ∈ tbG := tbG_in (List.mem_append_right _ (List.mem_append_right _ (List.mem_append_left _ (List.mem_of_getElem? (l := tables_1_2) (i := 166) rfl)))) rfl
theorem w_433 : Cond.fieldLink "HeronTalk" 146 "HeronTalk$Town" "talks" "I" ∈ tbG := tbG_in (List.mem_append_right _ (List.mem_append_left _ (List.mem_of_getElem? (l := tables_1_1) (i := 39) rfl))) rfl
theorem w_434 : Cond.methodLink "HeronTalk" 143 ⟨"HeronTalk", "isNoKind", "(I)Z"⟩ ∈ tbG := tbG_in (List.mem_append_right _ (List.mem_append_right _ (List.mem_append_left _ (List.mem_of_getElem? (l := tables_1_2) (i := 163) rfl)))) rfl
theorem w_435 : Cond.code ⟨"HeronTalk", "talk", "(III)I"⟩ prog_1_method_13_code 4 (some .int) ∈ tbG := tbG_in (List.mem_append_right _ (List.mem_append_right _ (List.mem_append_left _ (List.mem_of_getElem? (l := tables_1_2) (i := 162) rfl)))) rfl
theorem w_436 : Cond.instanceMethod ⟨"HeronTalk", "talk", "(III)I"⟩ ∈ tbG := tbG_in (List.mem_append_right _ (List.mem_append_right _ (List.mem_append_left _ (List.mem_of_getElem? (l := tables_1_2) (i := 160) rfl)))) rfl
theorem w_437 : Cond.selects "HeronTalk" ⟨"HeronTalk", "talk", "(III)I"⟩ ⟨"HeronTalk", "talk", "(III)I"⟩ ∈ tbG := tbG_in (List.mem_append_right _ (List.mem_append_right _ (List.mem_append_left _ (List.mem_of_getElem? (l := tables_1_2) (i := 161) rfl)))) rfl
theorem w_438 : Cond.code ⟨"HeronTalk", "isNoTalk", "(I)Z"⟩ prog_1_method_47_code 2 (some .boolean) ∈ tbG := tbG_in (List.mem_append_right _ (List.mem_append_right _ (List.mem_append_left _ (List.mem_of_getElem? (l := tables_1_2) (i := 177) rfl)))) rfl
theorem w_439 : Cond.instanceMethod ⟨"HeronTalk", "isNoTalk", "(I)Z"⟩ ∈ tbG := tbG_in (List.mem_append_right _ (List.mem_append_right _ (List.mem_append_left _ (List.mem_of_getElem? (l := tables_1_2) (i := 176) rfl)))) rfl
theorem w_440 : Cond.selects "HeronTalk" ⟨"HeronTalk", "isNoTalk", "(I)Z"⟩ ⟨"HeronTalk", "isNoTalk", "(I)Z"⟩ ∈ tbG := tbG_in (List.mem_append_left _ (List.mem_of_getElem? (l := k2_sels lw_privs) (i := 2) rfl)) rfl
theorem w_441 : Cond.constant "HeronTalk" 203 (-1000000005) ∈ tbG := tbG_in (List.mem_append_right _ (List.mem_append_right _ (List.mem_append_left _ (List.mem_of_getElem? (l := tables_1_2) (i := 199) rfl)))) rfl
theorem w_442 : Cond.code ⟨"HeronTalk", "orNone", "(I)I"⟩ prog_1_method_52_code 1 (some .int) ∈ tbG := tbG_in (List.mem_append_right _ (List.mem_append_right _ (List.mem_append_left _ (List.mem_of_getElem? (l := tables_1_2) (i := 198) rfl)))) rfl
theorem w_443 : Cond.static ⟨"HeronTalk", "orNone", "(I)I"⟩ ∈ tbG := tbG_in (List.mem_append_right _ (List.mem_append_right _ (List.mem_append_left _ (List.mem_of_getElem? (l := tables_1_2) (i := 197) rfl)))) rfl
theorem w_444 : Cond.methodLink "HeronTalk" 171 ⟨"HeronTalk", "orNone", "(I)I"⟩ ∈ tbG := tbG_in (List.mem_append_right _ (List.mem_append_right _ (List.mem_append_left _ (List.mem_of_getElem? (l := tables_1_2) (i := 196) rfl)))) rfl
theorem w_445 : Cond.methodLink "HeronTalk" 174 ⟨"HeronTalk", "goes", "(III)Z"⟩ ∈ tbG := tbG_in (List.mem_append_right _ (List.mem_append_right _ (List.mem_append_left _ (List.mem_of_getElem? (l := tables_1_2) (i := 200) rfl)))) rfl
theorem w_446 : Cond.methodLink "HeronTalk" 177 ⟨"HeronTalk$Town", "worthOf", "(III)I"⟩ ∈ tbG := tbG_in (List.mem_append_right _ (List.mem_append_right _ (List.mem_append_left _ (List.mem_of_getElem? (l := tables_1_2) (i := 204) rfl)))) rfl
theorem w_447 : Cond.methodLink "HeronTalk" 167 ⟨"HeronTalk$Town", "gotOf", "(IIII)I"⟩ ∈ tbG := tbG_in (List.mem_append_right _ (List.mem_append_right _ (List.mem_append_left _ (List.mem_of_getElem? (l := tables_1_2) (i := 192) rfl)))) rfl
theorem w_448 : Cond.methodLink "HeronTalk" 164 ⟨"HeronTalk$Town", "givenOf", "(III)I"⟩ ∈ tbG := tbG_in (List.mem_append_right _ (List.mem_append_right _ (List.mem_append_left _ (List.mem_of_getElem? (l := tables_1_2) (i := 178) rfl)))) rfl
theorem w_449 : Cond.fieldLink "HeronTalk" 161 "HeronTalk$Town" "asked" "[I" ∈ tbG := tbG_in (List.mem_append_right _ (List.mem_append_left _ (List.mem_of_getElem? (l := tables_1_1) (i := 63) rfl))) rfl
theorem w_450 : Cond.fieldLink "HeronTalk" 158 "HeronTalk$Town" "askers" "[I" ∈ tbG := tbG_in (List.mem_append_right _ (List.mem_append_left _ (List.mem_of_getElem? (l := tables_1_1) (i := 61) rfl))) rfl
theorem w_451 : Cond.fieldLink "HeronTalk" 155 "HeronTalk$Town" "kinds" "[I" ∈ tbG := tbG_in (List.mem_append_right _ (List.mem_append_left _ (List.mem_of_getElem? (l := tables_1_1) (i := 59) rfl))) rfl
theorem w_452 : Cond.methodLink "HeronTalk" 152 ⟨"HeronTalk", "isNoTalk", "(I)Z"⟩ ∈ tbG := tbG_in (List.mem_append_right _ (List.mem_append_right _ (List.mem_append_left _ (List.mem_of_getElem? (l := tables_1_2) (i := 174) rfl)))) rfl
theorem w_453 : Cond.code ⟨"HeronTalk", "told", "(II)I"⟩ prog_1_method_14_code 8 (some .int) ∈ tbG := tbG_in (List.mem_append_right _ (List.mem_append_right _ (List.mem_append_left _ (List.mem_of_getElem? (l := tables_1_2) (i := 173) rfl)))) rfl
theorem w_454 : Cond.instanceMethod ⟨"HeronTalk", "told", "(II)I"⟩ ∈ tbG := tbG_in (List.mem_append_right _ (List.mem_append_right _ (List.mem_append_left _ (List.mem_of_getElem? (l := tables_1_2) (i := 171) rfl)))) rfl
theorem w_455 : Cond.selects "HeronTalk" ⟨"HeronTalk", "told", "(II)I"⟩ ⟨"HeronTalk", "told", "(II)I"⟩ ∈ tbG := tbG_in (List.mem_append_right _ (List.mem_append_right _ (List.mem_append_left _ (List.mem_of_getElem? (l := tables_1_2) (i := 172) rfl)))) rfl
theorem w_456 : Cond.constant "HeronTalk" 184 (-1000000012) ∈ tbG := tbG_in (List.mem_append_right _ (List.mem_append_right _ (List.mem_append_left _ (List.mem_of_getElem? (l := tables_1_2) (i := 214) rfl)))) rfl
theorem w_457 : Cond.code ⟨"HeronTalk", "as", "(II)I"⟩ prog_1_method_15_code 3 (some .int) ∈ tbG := tbG_in (List.mem_append_right _ (List.mem_append_right _ (List.mem_append_left _ (List.mem_of_getElem? (l := tables_1_2) (i := 213) rfl)))) rfl
theorem w_458 : Cond.instanceMethod ⟨"HeronTalk", "as", "(II)I"⟩ ∈ tbG := tbG_in (List.mem_append_right _ (List.mem_append_right _ (List.mem_append_left _ (List.mem_of_getElem? (l := tables_1_2) (i := 211) rfl)))) rfl
theorem w_459 : Cond.selects "HeronTalk" ⟨"HeronTalk", "as", "(II)I"⟩ ⟨"HeronTalk", "as", "(II)I"⟩ ∈ tbG := tbG_in (List.mem_append_right _ (List.mem_append_right _ (List.mem_append_left _ (List.mem_of_getElem? (l := tables_1_2) (i := 212) rfl)))) rfl
theorem w_460 : Cond.code ⟨"HeronTalk", "turns", "(II)I"⟩ prog_1_method_16_code 4 (some .int) ∈ tbG := tbG_in (List.mem_append_right _ (List.mem_append_right _ (List.mem_append_left _ (List.mem_of_getElem? (l := tables_1_2) (i := 218) rfl)))) rfl
theorem w_461 : Cond.instanceMethod ⟨"HeronTalk", "turns", "(II)I"⟩ ∈ tbG := tbG_in (List.mem_append_right _ (List.mem_append_right _ (List.mem_append_left _ (List.mem_of_getElem? (l := tables_1_2) (i := 216) rfl)))) rfl
theorem w_462 : Cond.selects "HeronTalk" ⟨"HeronTalk", "turns", "(II)I"⟩ ⟨"HeronTalk", "turns", "(II)I"⟩ ∈ tbG := tbG_in (List.mem_append_right _ (List.mem_append_right _ (List.mem_append_left _ (List.mem_of_getElem? (l := tables_1_2) (i := 217) rfl)))) rfl
theorem w_463 : Cond.methodLink "HeronTalk" 185 ⟨"HeronTalk$Town", "converse", "(III)Z"⟩ ∈ tbG := tbG_in (List.mem_append_right _ (List.mem_append_right _ (List.mem_append_left _ (List.mem_of_getElem? (l := tables_1_2) (i := 223) rfl)))) rfl
theorem w_464 : Cond.code ⟨"HeronTalk", "say", "(I)I"⟩ prog_1_method_17_code 2 (some .int) ∈ tbG := tbG_in (List.mem_append_right _ (List.mem_append_right _ (List.mem_append_left _ (List.mem_of_getElem? (l := tables_1_2) (i := 222) rfl)))) rfl
theorem w_465 : Cond.instanceMethod ⟨"HeronTalk", "say", "(I)I"⟩ ∈ tbG := tbG_in (List.mem_append_right _ (List.mem_append_right _ (List.mem_append_left _ (List.mem_of_getElem? (l := tables_1_2) (i := 220) rfl)))) rfl
theorem w_466 : Cond.selects "HeronTalk" ⟨"HeronTalk", "say", "(I)I"⟩ ⟨"HeronTalk", "say", "(I)I"⟩ ∈ tbG := tbG_in (List.mem_append_right _ (List.mem_append_right _ (List.mem_append_left _ (List.mem_of_getElem? (l := tables_1_2) (i := 221) rfl)))) rfl
theorem w_467 : Cond.methodLink "HeronTalk" 189 ⟨"HeronTalk$Town", "goRound", "()I"⟩ ∈ tbG := tbG_in (List.mem_append_right _ (List.mem_append_right _ (List.mem_append_left _ (List.mem_of_getElem? (l := tables_1_2) (i := 233) rfl)))) rfl
theorem w_468 : Cond.constant "HeronTalk" 188 (-1000000002) ∈ tbG := tbG_in (List.mem_append_right _ (List.mem_append_right _ (List.mem_append_left _ (List.mem_of_getElem? (l := tables_1_2) (i := 232) rfl)))) rfl
theorem w_469 : Cond.code ⟨"HeronTalk", "round", "()I"⟩ prog_1_method_18_code 1 (some .int) ∈ tbG := tbG_in (List.mem_append_right _ (List.mem_append_right _ (List.mem_append_left _ (List.mem_of_getElem? (l := tables_1_2) (i := 231) rfl)))) rfl
theorem w_470 : Cond.instanceMethod ⟨"HeronTalk", "round", "()I"⟩ ∈ tbG := tbG_in (List.mem_append_right _ (List.mem_append_right _ (List.mem_append_left _ (List.mem_of_getElem? (l := tables_1_2) (i := 229) rfl)))) rfl
theorem w_471 : Cond.selects "HeronTalk" ⟨"HeronTalk", "round", "()I"⟩ ⟨"HeronTalk", "round", "()I"⟩ ∈ tbG := tbG_in (List.mem_append_right _ (List.mem_append_right _ (List.mem_append_left _ (List.mem_of_getElem? (l := tables_1_2) (i := 230) rfl)))) rfl
theorem w_472 : Cond.code ⟨"HeronTalk", "market", "()I"⟩ prog_1_method_19_code 2 (some .int) ∈ tbG := tbG_in (List.mem_append_right _ (List.mem_append_right _ (List.mem_append_right _ (List.mem_append_left _ (List.mem_of_getElem? (l := tables_1_3) (i := 1) rfl))))) rfl
theorem w_473 : Cond.instanceMethod ⟨"HeronTalk", "market", "()I"⟩ ∈ tbG := tbG_in (List.mem_append_right _ (List.mem_append_right _ (List.mem_append_left _ (List.mem_of_getElem? (l := tables_1_2) (i := 239) rfl)))) rfl
theorem w_474 : Cond.selects "HeronTalk" ⟨"HeronTalk", "market", "()I"⟩ ⟨"HeronTalk", "market", "()I"⟩ ∈ tbG := tbG_in (List.mem_append_right _ (List.mem_append_right _ (List.mem_append_right _ (List.mem_append_left _ (List.mem_of_getElem? (l := tables_1_3) (i := 0) rfl))))) rfl
theorem w_475 : Cond.methodLink "HeronTalk" 192 ⟨"HeronTalk$Town", "richestOne", "()I"⟩ ∈ tbG := tbG_in (List.mem_append_right _ (List.mem_append_right _ (List.mem_append_right _ (List.mem_append_left _ (List.mem_of_getElem? (l := tables_1_3) (i := 6) rfl))))) rfl
theorem w_476 : Cond.code ⟨"HeronTalk", "richest", "()I"⟩ prog_1_method_20_code 1 (some .int) ∈ tbG := tbG_in (List.mem_append_right _ (List.mem_append_right _ (List.mem_append_right _ (List.mem_append_left _ (List.mem_of_getElem? (l := tables_1_3) (i := 5) rfl))))) rfl
theorem w_477 : Cond.instanceMethod ⟨"HeronTalk", "richest", "()I"⟩ ∈ tbG := tbG_in (List.mem_append_right _ (List.mem_append_right _ (List.mem_append_right _ (List.mem_append_left _ (List.mem_of_getElem? (l := tables_1_3) (i := 3) rfl))))) rfl
theorem w_478 : Cond.selects "HeronTalk" ⟨"HeronTalk", "richest", "()I"⟩ ⟨"HeronTalk", "richest", "()I"⟩ ∈ tbG := tbG_in (List.mem_append_right _ (List.mem_append_right _ (List.mem_append_right _ (List.mem_append_left _ (List.mem_of_getElem? (l := tables_1_3) (i := 4) rfl))))) rfl
theorem w_479 : Cond.methodLink "HeronTalk" 204 ⟨"HeronTalk$Town", "isKnown", "(II)Z"⟩ ∈ tbG := tbG_in (List.mem_append_right _ (List.mem_append_right _ (List.mem_append_right _ (List.mem_append_left _ (List.mem_of_getElem? (l := tables_1_3) (i := 22) rfl))))) rfl
theorem w_480 : Cond.methodLink "HeronTalk" 199 ⟨"HeronTalk", "comesToKnow", "(LHeronTalk$Town;IIII[I)Z"⟩ ∈ tbG := tbG_in (List.mem_append_right _ (List.mem_append_right _ (List.mem_append_right _ (List.mem_append_left _ (List.mem_of_getElem? (l := tables_1_3) (i := 19) rfl))))) rfl
theorem w_481 : Cond.code ⟨"HeronTalk", "comesToKnow", "(LHeronTalk$Town;IIII[I)Z"⟩ prog_1_method_56_code 9 (some .boolean) ∈ tbG := tbG_in (List.mem_append_right _ (List.mem_append_right _ (List.mem_append_right _ (List.mem_append_left _ (List.mem_of_getElem? (l := tables_1_3) (i := 21) rfl))))) rfl
theorem w_482 : Cond.static ⟨"HeronTalk", "comesToKnow", "(LHeronTalk$Town;IIII[I)Z"⟩ ∈ tbG := tbG_in (List.mem_append_right _ (List.mem_append_right _ (List.mem_append_right _ (List.mem_append_left _ (List.mem_of_getElem? (l := tables_1_3) (i := 20) rfl))))) rfl
theorem w_483 : Cond.methodLink "HeronTalk" 195 ⟨"HeronTalk$Town", "becomes", "(LHeronTalk$Town;)V"⟩ ∈ tbG := tbG_in (List.mem_append_right _ (List.mem_append_right _ (List.mem_append_right _ (List.mem_append_left _ (List.mem_of_getElem? (l := tables_1_3) (i := 15) rfl))))) rfl
theorem w_484 : Cond.code ⟨"HeronTalk", "fewest", "(IIII)I"⟩ prog_1_method_21_code 6 (some .int) ∈ tbG := tbG_in (List.mem_append_right _ (List.mem_append_right _ (List.mem_append_right _ (List.mem_append_left _ (List.mem_of_getElem? (l := tables_1_3) (i := 14) rfl))))) rfl
theorem w_485 : Cond.instanceMethod ⟨"HeronTalk", "fewest", "(IIII)I"⟩ ∈ tbG := tbG_in (List.mem_append_right _ (List.mem_append_right _ (List.mem_append_right _ (List.mem_append_left _ (List.mem_of_getElem? (l := tables_1_3) (i := 12) rfl))))) rfl
theorem w_486 : Cond.selects "HeronTalk" ⟨"HeronTalk", "fewest", "(IIII)I"⟩ ⟨"HeronTalk", "fewest", "(IIII)I"⟩ ∈ tbG := tbG_in (List.mem_append_right _ (List.mem_append_right _ (List.mem_append_right _ (List.mem_append_left _ (List.mem_of_getElem? (l := tables_1_3) (i := 13) rfl))))) rfl
theorem w_487 : Cond.methodLink "HeronTalk" 207 ⟨"HeronTalk$Town", "lookFor", "(I)I"⟩ ∈ tbG := tbG_in (List.mem_append_right _ (List.mem_append_right _ (List.mem_append_right _ (List.mem_append_left _ (List.mem_of_getElem? (l := tables_1_3) (i := 27) rfl))))) rfl
theorem w_488 : Cond.code ⟨"HeronTalk", "look", "(II)I"⟩ prog_1_method_22_code 3 (some .int) ∈ tbG := tbG_in (List.mem_append_right _ (List.mem_append_right _ (List.mem_append_right _ (List.mem_append_left _ (List.mem_of_getElem? (l := tables_1_3) (i := 26) rfl))))) rfl
theorem w_489 : Cond.instanceMethod ⟨"HeronTalk", "look", "(II)I"⟩ ∈ tbG := tbG_in (List.mem_append_right _ (List.mem_append_right _ (List.mem_append_right _ (List.mem_append_left _ (List.mem_of_getElem? (l := tables_1_3) (i := 24) rfl))))) rfl
theorem w_490 : Cond.selects "HeronTalk" ⟨"HeronTalk", "look", "(II)I"⟩ ⟨"HeronTalk", "look", "(II)I"⟩ ∈ tbG := tbG_in (List.mem_append_right _ (List.mem_append_right _ (List.mem_append_right _ (List.mem_append_left _ (List.mem_of_getElem? (l := tables_1_3) (i := 25) rfl))))) rfl
theorem w_491 : Cond.methodLink "HeronTalk" 215 ⟨"HeronTalk$Town", "learn", "(II)V"⟩ ∈ tbG := tbG_in (List.mem_append_right _ (List.mem_append_right _ (List.mem_append_right _ (List.mem_append_left _ (List.mem_of_getElem? (l := tables_1_3) (i := 35) rfl))))) rfl
theorem w_492 : Cond.code ⟨"HeronTalk", "find", "(II)I"⟩ prog_1_method_23_code 3 (some .int) ∈ tbG := tbG_in (List.mem_append_right _ (List.mem_append_right _ (List.mem_append_right _ (List.mem_append_left _ (List.mem_of_getElem? (l := tables_1_3) (i := 34) rfl))))) rfl
theorem w_493 : Cond.instanceMethod ⟨"HeronTalk", "find", "(II)I"⟩ ∈ tbG := tbG_in (List.mem_append_right _ (List.mem_append_right _ (List.mem_append_right _ (List.mem_append_left _ (List.mem_of_getElem? (l := tables_1_3) (i := 32) rfl))))) rfl
theorem w_494 : Cond.selects "HeronTalk" ⟨"HeronTalk", "find", "(II)I"⟩ ⟨"HeronTalk", "find", "(II)I"⟩ ∈ tbG := tbG_in (List.mem_append_right _ (List.mem_append_right _ (List.mem_append_right _ (List.mem_append_left _ (List.mem_of_getElem? (l := tables_1_3) (i := 33) rfl))))) rfl
theorem w_495 : Cond.methodLink "HeronTalk" 219 ⟨"HeronTalk$Town", "bestToKeep", "(I)I"⟩ ∈ tbG := tbG_in (List.mem_append_right _ (List.mem_append_right _ (List.mem_append_right _ (List.mem_append_left _ (List.mem_of_getElem? (l := tables_1_3) (i := 40) rfl))))) rfl
theorem w_496 : Cond.code ⟨"HeronTalk", "keepsBack", "(I)I"⟩ prog_1_method_24_code 2 (some .int) ∈ tbG := tbG_in (List.mem_append_right _ (List.mem_append_right _ (List.mem_append_right _ (List.mem_append_left _ (List.mem_of_getElem? (l := tables_1_3) (i := 39) rfl))))) rfl
theorem w_497 : Cond.instanceMethod ⟨"HeronTalk", "keepsBack", "(I)I"⟩ ∈ tbG := tbG_in (List.mem_append_right _ (List.mem_append_right _ (List.mem_append_right _ (List.mem_append_left _ (List.mem_of_getElem? (l := tables_1_3) (i := 37) rfl))))) rfl
theorem w_498 : Cond.selects "HeronTalk" ⟨"HeronTalk", "keepsBack", "(I)I"⟩ ⟨"HeronTalk", "keepsBack", "(I)I"⟩ ∈ tbG := tbG_in (List.mem_append_right _ (List.mem_append_right _ (List.mem_append_right _ (List.mem_append_left _ (List.mem_of_getElem? (l := tables_1_3) (i := 38) rfl))))) rfl
theorem w_499 : Cond.methodLink "HeronTalk" 222 ⟨"HeronTalk$Town", "fineNow", "()I"⟩ ∈ tbG := tbG_in (List.mem_append_right _ (List.mem_append_right _ (List.mem_append_right _ (List.mem_append_left _ (List.mem_of_getElem? (l := tables_1_3) (i := 52) rfl))))) rfl
theorem w_500 : Cond.code ⟨"HeronTalk", "fine", "()I"⟩ prog_1_method_25_code 1 (some .int) ∈ tbG := tbG_in (List.mem_append_right _ (List.mem_append_right _ (List.mem_append_right _ (List.mem_append_left _ (List.mem_of_getElem? (l := tables_1_3) (i := 51) rfl))))) rfl
theorem w_501 : Cond.instanceMethod ⟨"HeronTalk", "fine", "()I"⟩ ∈ tbG := tbG_in (List.mem_append_right _ (List.mem_append_right _ (List.mem_append_right _ (List.mem_append_left _ (List.mem_of_getElem? (l := tables_1_3) (i := 49) rfl))))) rfl
theorem w_502 : Cond.selects "HeronTalk" ⟨"HeronTalk", "fine", "()I"⟩ ⟨"HeronTalk", "fine", "()I"⟩ ∈ tbG := tbG_in (List.mem_append_right _ (List.mem_append_right _ (List.mem_append_right _ (List.mem_append_left _ (List.mem_of_getElem? (l := tables_1_3) (i := 50) rfl))))) rfl
theorem w_503 : Cond.fieldLink "HeronTalk" 225 "HeronTalk$Tape" "length" "I" ∈ tbG := tbG_in (List.mem_append_right _ (List.mem_append_left _ (List.mem_of_getElem? (l := tables_1_1) (i := 119) rfl))) rfl
theorem w_504 : Cond.methodLink "HeronTalk" 230 ⟨"HeronTalk$Tape", "add", "(I)V"⟩ ∈ tbG := tbG_in (List.mem_append_right _ (List.mem_append_right _ (List.mem_append_right _ (List.mem_append_left _ (List.mem_of_getElem? (l := tables_1_3) (i := 60) rfl))))) rfl
theorem w_505 : Cond.code ⟨"HeronTalk", "feed", "(III)I"⟩ prog_1_method_26_code 4 (some .int) ∈ tbG := tbG_in (List.mem_append_right _ (List.mem_append_right _ (List.mem_append_right _ (List.mem_append_left _ (List.mem_of_getElem? (l := tables_1_3) (i := 59) rfl))))) rfl
theorem w_506 : Cond.instanceMethod ⟨"HeronTalk", "feed", "(III)I"⟩ ∈ tbG := tbG_in (List.mem_append_right _ (List.mem_append_right _ (List.mem_append_right _ (List.mem_append_left _ (List.mem_of_getElem? (l := tables_1_3) (i := 57) rfl))))) rfl
theorem w_507 : Cond.selects "HeronTalk" ⟨"HeronTalk", "feed", "(III)I"⟩ ⟨"HeronTalk", "feed", "(III)I"⟩ ∈ tbG := tbG_in (List.mem_append_right _ (List.mem_append_right _ (List.mem_append_right _ (List.mem_append_left _ (List.mem_of_getElem? (l := tables_1_3) (i := 58) rfl))))) rfl
theorem w_508 : Cond.code ⟨"HeronTalk", "trim", "(I)I"⟩ prog_1_method_27_code 2 (some .int) ∈ tbG := tbG_in (List.mem_append_right _ (List.mem_append_right _ (List.mem_append_right _ (List.mem_append_left _ (List.mem_of_getElem? (l := tables_1_3) (i := 67) rfl))))) rfl
theorem w_509 : Cond.instanceMethod ⟨"HeronTalk", "trim", "(I)I"⟩ ∈ tbG := tbG_in (List.mem_append_right _ (List.mem_append_right _ (List.mem_append_right _ (List.mem_append_left _ (List.mem_of_getElem? (l := tables_1_3) (i := 65) rfl))))) rfl
theorem w_510 : Cond.selects "HeronTalk" ⟨"HeronTalk", "trim", "(I)I"⟩ ⟨"HeronTalk", "trim", "(I)I"⟩ ∈ tbG := tbG_in (List.mem_append_right _ (List.mem_append_right _ (List.mem_append_right _ (List.mem_append_left _ (List.mem_of_getElem? (l := tables_1_3) (i := 66) rfl))))) rfl
theorem w_511 : Cond.methodLink "HeronTalk" 244 ⟨"HeronTalk$Town", "addText", "(LHeronTalk$Text;)I"⟩ ∈ tbG := tbG_in (List.mem_append_right _ (List.mem_append_right _ (List.mem_append_right _ (List.mem_append_left _ (List.mem_of_getElem? (l := tables_1_3) (i := 229) rfl))))) rfl
theorem w_512 : Cond.methodLink "HeronTalk" 240 ⟨"HeronTalk$Reader", "makeText", "()LHeronTalk$Text;"⟩ ∈ tbG := tbG_in (List.mem_append_right _ (List.mem_append_right _ (List.mem_append_right _ (List.mem_append_left _ (List.mem_of_getElem? (l := tables_1_3) (i := 203) rfl))))) rfl
theorem w_513 : Cond.fieldLink "HeronTalk" 237 "HeronTalk$Town" "texts" "I" ∈ tbG := tbG_in (List.mem_append_right _ (List.mem_append_left _ (List.mem_of_getElem? (l := tables_1_1) (i := 41) rfl))) rfl
theorem w_514 : Cond.methodLink "HeronTalk" 234 ⟨"HeronTalk$Reader", "findFault", "()I"⟩ ∈ tbG := tbG_in (List.mem_append_right _ (List.mem_append_right _ (List.mem_append_right _ (List.mem_append_left _ (List.mem_of_getElem? (l := tables_1_3) (i := 72) rfl))))) rfl
theorem w_515 : Cond.code ⟨"HeronTalk", "text", "()I"⟩ prog_1_method_28_code 2 (some .int) ∈ tbG := tbG_in (List.mem_append_right _ (List.mem_append_right _ (List.mem_append_right _ (List.mem_append_left _ (List.mem_of_getElem? (l := tables_1_3) (i := 71) rfl))))) rfl
theorem w_516 : Cond.instanceMethod ⟨"HeronTalk", "text", "()I"⟩ ∈ tbG := tbG_in (List.mem_append_right _ (List.mem_append_right _ (List.mem_append_right _ (List.mem_append_left _ (List.mem_of_getElem? (l := tables_1_3) (i := 69) rfl))))) rfl
theorem w_517 : Cond.selects "HeronTalk" ⟨"HeronTalk", "text", "()I"⟩ ⟨"HeronTalk", "text", "()I"⟩ ∈ tbG := tbG_in (List.mem_append_right _ (List.mem_append_right _ (List.mem_append_right _ (List.mem_append_left _ (List.mem_of_getElem? (l := tables_1_3) (i := 70) rfl))))) rfl
theorem w_518 : Cond.fieldLink "HeronTalk" 252 "HeronTalk$Text" "key" "I" ∈ tbG := tbG_in (List.mem_append_right _ (List.mem_append_right _ (List.mem_append_right _ (List.mem_append_left _ (List.mem_of_getElem? (l := tables_1_3) (i := 215) rfl))))) rfl
theorem w_519 : Cond.fieldLink "HeronTalk" 257 "HeronTalk$Text" "leaves" "I" ∈ tbG := tbG_in (List.mem_append_right _ (List.mem_append_right _ (List.mem_append_right _ (List.mem_append_left _ (List.mem_of_getElem? (l := tables_1_3) (i := 217) rfl))))) rfl
theorem w_520 : Cond.fieldLink "HeronTalk" 248 "HeronTalk$Town" "laws" "[LHeronTalk$Text;" ∈ tbG := tbG_in (List.mem_append_right _ (List.mem_append_left _ (List.mem_of_getElem? (l := tables_1_1) (i := 65) rfl))) rfl
theorem w_521 : Cond.code ⟨"HeronTalk", "textTold", "(II)I"⟩ prog_1_method_29_code 4 (some .int) ∈ tbG := tbG_in (List.mem_append_right _ (List.mem_append_right _ (List.mem_append_right _ (List.mem_append_left _ (List.mem_of_getElem? (l := tables_1_3) (i := 236) rfl))))) rfl
theorem w_522 : Cond.instanceMethod ⟨"HeronTalk", "textTold", "(II)I"⟩ ∈ tbG := tbG_in (List.mem_append_right _ (List.mem_append_right _ (List.mem_append_right _ (List.mem_append_left _ (List.mem_of_getElem? (l := tables_1_3) (i := 234) rfl))))) rfl
theorem w_523 : Cond.selects "HeronTalk" ⟨"HeronTalk", "textTold", "(II)I"⟩ ⟨"HeronTalk", "textTold", "(II)I"⟩ ∈ tbG := tbG_in (List.mem_append_right _ (List.mem_append_right _ (List.mem_append_right _ (List.mem_append_left _ (List.mem_of_getElem? (l := tables_1_3) (i := 235) rfl))))) rfl
theorem w_524 : Cond.methodLink "HeronTalk" 260 ⟨"HeronTalk$Town", "lastTextOf", "(I)I"⟩ ∈ tbG := tbG_in (List.mem_append_right _ (List.mem_append_right _ (List.mem_append_right _ (List.mem_append_right _ (List.mem_append_left _ (List.mem_of_getElem? (l := tables_1_4) (i := 1) rfl)))))) rfl
theorem w_525 : Cond.code ⟨"HeronTalk", "why", "(I)I"⟩ prog_1_method_30_code 2 (some .int) ∈ tbG := tbG_in (List.mem_append_right _ (List.mem_append_right _ (List.mem_append_right _ (List.mem_append_right _ (List.mem_append_left _ (List.mem_of_getElem? (l := tables_1_4) (i := 0) rfl)))))) rfl
theorem w_526 : Cond.instanceMethod ⟨"HeronTalk", "why", "(I)I"⟩ ∈ tbG := tbG_in (List.mem_append_right _ (List.mem_append_right _ (List.mem_append_right _ (List.mem_append_left _ (List.mem_of_getElem? (l := tables_1_3) (i := 238) rfl))))) rfl
theorem w_527 : Cond.selects "HeronTalk" ⟨"HeronTalk", "why", "(I)I"⟩ ⟨"HeronTalk", "why", "(I)I"⟩ ∈ tbG := tbG_in (List.mem_append_right _ (List.mem_append_right _ (List.mem_append_right _ (List.mem_append_left _ (List.mem_of_getElem? (l := tables_1_3) (i := 239) rfl))))) rfl
theorem w_528 : Cond.code ⟨"HeronTalk", "isNoSheet", "(I)Z"⟩ prog_1_method_49_code 1 (some .boolean) ∈ tbG := tbG_in (List.mem_append_right _ (List.mem_append_right _ (List.mem_append_right _ (List.mem_append_right _ (List.mem_append_left _ (List.mem_of_getElem? (l := tables_1_4) (i := 8) rfl)))))) rfl
theorem w_529 : Cond.static ⟨"HeronTalk", "isNoSheet", "(I)Z"⟩ ∈ tbG := tbG_in (List.mem_append_right _ (List.mem_append_right _ (List.mem_append_right _ (List.mem_append_right _ (List.mem_append_left _ (List.mem_of_getElem? (l := tables_1_4) (i := 7) rfl)))))) rfl
theorem w_530 : Cond.methodLink "HeronTalk" 267 ⟨"HeronTalk$Sheet", "lieAnew", "(II)V"⟩ ∈ tbG := tbG_in (List.mem_append_right _ (List.mem_append_right _ (List.mem_append_right _ (List.mem_append_right _ (List.mem_append_left _ (List.mem_of_getElem? (l := tables_1_4) (i := 10) rfl)))))) rfl
theorem w_531 : Cond.constant "HeronTalk" 266 (-1000000014) ∈ tbG := tbG_in (List.mem_append_right _ (List.mem_append_right _ (List.mem_append_right _ (List.mem_append_right _ (List.mem_append_left _ (List.mem_of_getElem? (l := tables_1_4) (i := 9) rfl)))))) rfl
theorem w_532 : Cond.methodLink "HeronTalk" 263 ⟨"HeronTalk", "isNoSheet", "(I)Z"⟩ ∈ tbG := tbG_in (List.mem_append_right _ (List.mem_append_right _ (List.mem_append_right _ (List.mem_append_right _ (List.mem_append_left _ (List.mem_of_getElem? (l := tables_1_4) (i := 6) rfl)))))) rfl
theorem w_533 : Cond.code ⟨"HeronTalk", "sheet", "(III)I"⟩ prog_1_method_31_code 5 (some .int) ∈ tbG := tbG_in (List.mem_append_right _ (List.mem_append_right _ (List.mem_append_right _ (List.mem_append_right _ (List.mem_append_left _ (List.mem_of_getElem? (l := tables_1_4) (i := 5) rfl)))))) rfl
theorem w_534 : Cond.instanceMethod ⟨"HeronTalk", "sheet", "(III)I"⟩ ∈ tbG := tbG_in (List.mem_append_right _ (List.mem_append_right _ (List.mem_append_right _ (List.mem_append_right _ (List.mem_append_left _ (List.mem_of_getElem? (l := tables_1_4) (i := 3) rfl)))))) rfl
theorem w_535 : Cond.selects "HeronTalk" ⟨"HeronTalk", "sheet", "(III)I"⟩ ⟨"HeronTalk", "sheet", "(III)I"⟩ ∈ tbG := tbG_in (List.mem_append_right _ (List.mem_append_right _ (List.mem_append_right _ (List.mem_append_right _ (List.mem_append_left _ (List.mem_of_getElem? (l := tables_1_4) (i := 4) rfl)))))) rfl
theorem w_536 : Cond.fieldLink "HeronTalk" 278 "HeronTalk$Sheet" "places" "[I" ∈ tbG := tbG_in (List.mem_append_right _ (List.mem_append_left _ (List.mem_of_getElem? (l := tables_1_1) (i := 170) rfl))) rfl
theorem w_537 : Cond.constant "HeronTalk" 282 99999 ∈ tbG := tbG_in (List.mem_append_right _ (List.mem_append_right _ (List.mem_append_right _ (List.mem_append_right _ (List.mem_append_left _ (List.mem_of_getElem? (l := tables_1_4) (i := 25) rfl)))))) rfl
theorem w_538 : Cond.constant "HeronTalk" 281 (-99999) ∈ tbG := tbG_in (List.mem_append_right _ (List.mem_append_right _ (List.mem_append_right _ (List.mem_append_right _ (List.mem_append_left _ (List.mem_of_getElem? (l := tables_1_4) (i := 24) rfl)))))) rfl
theorem w_539 : Cond.fieldLink "HeronTalk" 270 "HeronTalk$Sheet" "sort" "I" ∈ tbG := tbG_in (List.mem_append_right _ (List.mem_append_left _ (List.mem_of_getElem? (l := tables_1_1) (i := 166) rfl))) rfl
theorem w_540 : Cond.constant "HeronTalk" 277 (-1000000013) ∈ tbG := tbG_in (List.mem_append_right _ (List.mem_append_right _ (List.mem_append_right _ (List.mem_append_right _ (List.mem_append_left _ (List.mem_of_getElem? (l := tables_1_4) (i := 23) rfl)))))) rfl
theorem w_541 : Cond.methodLink "HeronTalk" 274 ⟨"HeronTalk$Sheet", "hasNoPlace", "(I)Z"⟩ ∈ tbG := tbG_in (List.mem_append_right _ (List.mem_append_right _ (List.mem_append_right _ (List.mem_append_right _ (List.mem_append_left _ (List.mem_of_getElem? (l := tables_1_4) (i := 19) rfl)))))) rfl
theorem w_542 : Cond.constant "HeronTalk" 273 (-1000000011) ∈ tbG := tbG_in (List.mem_append_right _ (List.mem_append_right _ (List.mem_append_right _ (List.mem_append_right _ (List.mem_append_left _ (List.mem_of_getElem? (l := tables_1_4) (i := 18) rfl)))))) rfl
theorem w_543 : Cond.code ⟨"HeronTalk", "mark", "(III)I"⟩ prog_1_method_32_code 5 (some .int) ∈ tbG := tbG_in (List.mem_append_right _ (List.mem_append_right _ (List.mem_append_right _ (List.mem_append_right _ (List.mem_append_left _ (List.mem_of_getElem? (l := tables_1_4) (i := 17) rfl)))))) rfl
theorem w_544 : Cond.instanceMethod ⟨"HeronTalk", "mark", "(III)I"⟩ ∈ tbG := tbG_in (List.mem_append_right _ (List.mem_append_right _ (List.mem_append_right _ (List.mem_append_right _ (List.mem_append_left _ (List.mem_of_getElem? (l := tables_1_4) (i := 15) rfl)))))) rfl
theorem w_545 : Cond.selects "HeronTalk" ⟨"HeronTalk", "mark", "(III)I"⟩ ⟨"HeronTalk", "mark", "(III)I"⟩ ∈ tbG := tbG_in (List.mem_append_right _ (List.mem_append_right _ (List.mem_append_right _ (List.mem_append_right _ (List.mem_append_left _ (List.mem_of_getElem? (l := tables_1_4) (i := 16) rfl)))))) rfl
theorem w_546 : Cond.methodLink "HeronTalk" 283 ⟨"HeronTalk$Town", "takeWorths", "(LHeronTalk$Sheet;)I"⟩ ∈ tbG := tbG_in (List.mem_append_right _ (List.mem_append_right _ (List.mem_append_right _ (List.mem_append_right _ (List.mem_append_left _ (List.mem_of_getElem? (l := tables_1_4) (i := 30) rfl)))))) rfl
theorem w_547 : Cond.code ⟨"HeronTalk", "pour", "(I)I"⟩ prog_1_method_33_code 2 (some .int) ∈ tbG := tbG_in (List.mem_append_right _ (List.mem_append_right _ (List.mem_append_right _ (List.mem_append_right _ (List.mem_append_left _ (List.mem_of_getElem? (l := tables_1_4) (i := 29) rfl)))))) rfl
theorem w_548 : Cond.instanceMethod ⟨"HeronTalk", "pour", "(I)I"⟩ ∈ tbG := tbG_in (List.mem_append_right _ (List.mem_append_right _ (List.mem_append_right _ (List.mem_append_right _ (List.mem_append_left _ (List.mem_of_getElem? (l := tables_1_4) (i := 27) rfl)))))) rfl
theorem w_549 : Cond.selects "HeronTalk" ⟨"HeronTalk", "pour", "(I)I"⟩ ⟨"HeronTalk", "pour", "(I)I"⟩ ∈ tbG := tbG_in (List.mem_append_right _ (List.mem_append_right _ (List.mem_append_right _ (List.mem_append_right _ (List.mem_append_left _ (List.mem_of_getElem? (l := tables_1_4) (i := 28) rfl)))))) rfl
theorem w_550 : Cond.methodLink "HeronTalk" 287 ⟨"HeronTalk$Town", "firstOtherwise", "(LHeronTalk$Sheet;)I"⟩ ∈ tbG := tbG_in (List.mem_append_right _ (List.mem_append_right _ (List.mem_append_right _ (List.mem_append_right _ (List.mem_append_left _ (List.mem_of_getElem? (l := tables_1_4) (i := 39) rfl)))))) rfl
theorem w_551 : Cond.code ⟨"HeronTalk", "reads", "(I)I"⟩ prog_1_method_34_code 2 (some .int) ∈ tbG := tbG_in (List.mem_append_right _ (List.mem_append_right _ (List.mem_append_right _ (List.mem_append_right _ (List.mem_append_left _ (List.mem_of_getElem? (l := tables_1_4) (i := 38) rfl)))))) rfl
theorem w_552 : Cond.instanceMethod ⟨"HeronTalk", "reads", "(I)I"⟩ ∈ tbG := tbG_in (List.mem_append_right _ (List.mem_append_right _ (List.mem_append_right _ (List.mem_append_right _ (List.mem_append_left _ (List.mem_of_getElem? (l := tables_1_4) (i := 36) rfl)))))) rfl
theorem w_553 : Cond.selects "HeronTalk" ⟨"HeronTalk", "reads", "(I)I"⟩ ⟨"HeronTalk", "reads", "(I)I"⟩ ∈ tbG := tbG_in (List.mem_append_right _ (List.mem_append_right _ (List.mem_append_right _ (List.mem_append_right _ (List.mem_append_left _ (List.mem_of_getElem? (l := tables_1_4) (i := 37) rfl)))))) rfl
theorem w_554 : Cond.methodLink "HeronTalk" 293 ⟨"java/lang/System", "arraycopy", "(Ljava/lang/Object;ILjava/lang/Object;II)V"⟩ ∈ tbG := tbG_in (List.mem_append_right _ (List.mem_append_right _ (List.mem_append_right _ (List.mem_append_right _ (List.mem_append_left _ (List.mem_of_getElem? (l := tables_1_4) (i := 51) rfl)))))) rfl
theorem w_555 : Cond.methodLink "HeronTalk" 290 ⟨"HeronTalk$Sheet", "hasNoRow", "(II)Z"⟩ ∈ tbG := tbG_in (List.mem_append_right _ (List.mem_append_right _ (List.mem_append_right _ (List.mem_append_right _ (List.mem_append_left _ (List.mem_of_getElem? (l := tables_1_4) (i := 47) rfl)))))) rfl
theorem w_556 : Cond.code ⟨"HeronTalk", "copy", "(IIIII)I"⟩ prog_1_method_35_code 8 (some .int) ∈ tbG := tbG_in (List.mem_append_right _ (List.mem_append_right _ (List.mem_append_right _ (List.mem_append_right _ (List.mem_append_left _ (List.mem_of_getElem? (l := tables_1_4) (i := 46) rfl)))))) rfl
theorem w_557 : Cond.instanceMethod ⟨"HeronTalk", "copy", "(IIIII)I"⟩ ∈ tbG := tbG_in (List.mem_append_right _ (List.mem_append_right _ (List.mem_append_right _ (List.mem_append_right _ (List.mem_append_left _ (List.mem_of_getElem? (l := tables_1_4) (i := 44) rfl)))))) rfl
theorem w_558 : Cond.selects "HeronTalk" ⟨"HeronTalk", "copy", "(IIIII)I"⟩ ⟨"HeronTalk", "copy", "(IIIII)I"⟩ ∈ tbG := tbG_in (List.mem_append_right _ (List.mem_append_right _ (List.mem_append_right _ (List.mem_append_right _ (List.mem_append_left _ (List.mem_of_getElem? (l := tables_1_4) (i := 45) rfl)))))) rfl
theorem w_559 : Cond.code ⟨"HeronTalk", "isNoSlot", "(I)Z"⟩ prog_1_method_50_code 1 (some .boolean) ∈ tbG := tbG_in (List.mem_append_right _ (List.mem_append_right _ (List.mem_append_right _ (List.mem_append_right _ (List.mem_append_left _ (List.mem_of_getElem? (l := tables_1_4) (i := 60) rfl)))))) rfl
theorem w_560 : Cond.static ⟨"HeronTalk", "isNoSlot", "(I)Z"⟩ ∈ tbG := tbG_in (List.mem_append_right _ (List.mem_append_right _ (List.mem_append_right _ (List.mem_append_right _ (List.mem_append_left _ (List.mem_of_getElem? (l := tables_1_4) (i := 59) rfl)))))) rfl
theorem w_561 : Cond.fieldLink "HeronTalk" 316 "HeronTalk$Slot" "number" "I" ∈ tbG := tbG_in (List.mem_append_right _ (List.mem_append_left _ (List.mem_of_getElem? (l := tables_1_1) (i := 196) rfl))) rfl
theorem w_562 : Cond.methodLink "HeronTalk" 313 ⟨"HeronTalk$Sheet", "becomes", "(LHeronTalk$Sheet;)V"⟩ ∈ tbG := tbG_in (List.mem_append_right _ (List.mem_append_right _ (List.mem_append_right _ (List.mem_append_right _ (List.mem_append_left _ (List.mem_of_getElem? (l := tables_1_4) (i := 65) rfl)))))) rfl
theorem w_563 : Cond.fieldLink "HeronTalk" 309 "HeronTalk$Slot" "sheet" "LHeronTalk$Sheet;" ∈ tbG := tbG_in (List.mem_append_right _ (List.mem_append_left _ (List.mem_of_getElem? (l := tables_1_1) (i := 198) rfl))) rfl
theorem w_564 : Cond.methodLink "HeronTalk" 305 ⟨"HeronTalk$Slot", "holdTalk", "(III)V"⟩ ∈ tbG := tbG_in (List.mem_append_right _ (List.mem_append_right _ (List.mem_append_right _ (List.mem_append_right _ (List.mem_append_left _ (List.mem_of_getElem? (l := tables_1_4) (i := 61) rfl)))))) rfl
theorem w_565 : Cond.fieldLink "HeronTalk" 302 "HeronTalk$Slot" "holds" "I" ∈ tbG := tbG_in (List.mem_append_right _ (List.mem_append_left _ (List.mem_of_getElem? (l := tables_1_1) (i := 189) rfl))) rfl
theorem w_566 : Cond.methodLink "HeronTalk" 299 ⟨"HeronTalk", "isNoSlot", "(I)Z"⟩ ∈ tbG := tbG_in (List.mem_append_right _ (List.mem_append_right _ (List.mem_append_right _ (List.mem_append_right _ (List.mem_append_left _ (List.mem_of_getElem? (l := tables_1_4) (i := 58) rfl)))))) rfl
theorem w_567 : Cond.code ⟨"HeronTalk", "lay", "(III)I"⟩ prog_1_method_36_code 6 (some .int) ∈ tbG := tbG_in (List.mem_append_right _ (List.mem_append_right _ (List.mem_append_right _ (List.mem_append_right _ (List.mem_append_left _ (List.mem_of_getElem? (l := tables_1_4) (i := 57) rfl)))))) rfl
theorem w_568 : Cond.instanceMethod ⟨"HeronTalk", "lay", "(III)I"⟩ ∈ tbG := tbG_in (List.mem_append_right _ (List.mem_append_right _ (List.mem_append_right _ (List.mem_append_right _ (List.mem_append_left _ (List.mem_of_getElem? (l := tables_1_4) (i := 55) rfl)))))) rfl
theorem w_569 : Cond.selects "HeronTalk" ⟨"HeronTalk", "lay", "(III)I"⟩ ⟨"HeronTalk", "lay", "(III)I"⟩ ∈ tbG := tbG_in (List.mem_append_right _ (List.mem_append_right _ (List.mem_append_right _ (List.mem_append_right _ (List.mem_append_left _ (List.mem_of_getElem? (l := tables_1_4) (i := 56) rfl)))))) rfl
theorem w_570 : Cond.fieldLink "HeronTalk" 325 "HeronTalk$Slot" "asked" "I" ∈ tbG := tbG_in (List.mem_append_right _ (List.mem_append_left _ (List.mem_of_getElem? (l := tables_1_1) (i := 195) rfl))) rfl
theorem w_571 : Cond.fieldLink "HeronTalk" 322 "HeronTalk$Slot" "asker" "I" ∈ tbG := tbG_in (List.mem_append_right _ (List.mem_append_left _ (List.mem_of_getElem? (l := tables_1_1) (i := 193) rfl))) rfl
theorem w_572 : Cond.fieldLink "HeronTalk" 319 "HeronTalk$Slot" "kind" "I" ∈ tbG := tbG_in (List.mem_append_right _ (List.mem_append_left _ (List.mem_of_getElem? (l := tables_1_1) (i := 191) rfl))) rfl
theorem w_573 : Cond.code ⟨"HeronTalk", "ask", "(II)I"⟩ prog_1_method_37_code 4 (some .int) ∈ tbG := tbG_in (List.mem_append_right _ (List.mem_append_right _ (List.mem_append_right _ (List.mem_append_right _ (List.mem_append_left _ (List.mem_of_getElem? (l := tables_1_4) (i := 72) rfl)))))) rfl
theorem w_574 : Cond.instanceMethod ⟨"HeronTalk", "ask", "(II)I"⟩ ∈ tbG := tbG_in (List.mem_append_right _ (List.mem_append_right _ (List.mem_append_right _ (List.mem_append_right _ (List.mem_append_left _ (List.mem_of_getElem? (l := tables_1_4) (i := 70) rfl)))))) rfl
theorem w_575 : Cond.selects "HeronTalk" ⟨"HeronTalk", "ask", "(II)I"⟩ ⟨"HeronTalk", "ask", "(II)I"⟩ ∈ tbG := tbG_in (List.mem_append_right _ (List.mem_append_right _ (List.mem_append_right _ (List.mem_append_right _ (List.mem_append_left _ (List.mem_of_getElem? (l := tables_1_4) (i := 71) rfl)))))) rfl
theorem w_576 : Cond.code ⟨"HeronTalk", "item", "(II)I"⟩ prog_1_method_38_code 4 (some .int) ∈ tbG := tbG_in (List.mem_append_right _ (List.mem_append_right _ (List.mem_append_right _ (List.mem_append_right _ (List.mem_append_left _ (List.mem_of_getElem? (l := tables_1_4) (i := 76) rfl)))))) rfl
theorem w_577 : Cond.instanceMethod ⟨"HeronTalk", "item", "(II)I"⟩ ∈ tbG := tbG_in (List.mem_append_right _ (List.mem_append_right _ (List.mem_append_right _ (List.mem_append_right _ (List.mem_append_left _ (List.mem_of_getElem? (l := tables_1_4) (i := 74) rfl)))))) rfl
theorem w_578 : Cond.selects "HeronTalk" ⟨"HeronTalk", "item", "(II)I"⟩ ⟨"HeronTalk", "item", "(II)I"⟩ ∈ tbG := tbG_in (List.mem_append_right _ (List.mem_append_right _ (List.mem_append_right _ (List.mem_append_right _ (List.mem_append_left _ (List.mem_of_getElem? (l := tables_1_4) (i := 75) rfl)))))) rfl
theorem w_579 : Cond.code ⟨"HeronTalk", "rest", "(II)I"⟩ prog_1_method_39_code 4 (some .int) ∈ tbG := tbG_in (List.mem_append_right _ (List.mem_append_right _ (List.mem_append_right _ (List.mem_append_right _ (List.mem_append_left _ (List.mem_of_getElem? (l := tables_1_4) (i := 80) rfl)))))) rfl
theorem w_580 : Cond.instanceMethod ⟨"HeronTalk", "rest", "(II)I"⟩ ∈ tbG := tbG_in (List.mem_append_right _ (List.mem_append_right _ (List.mem_append_right _ (List.mem_append_right _ (List.mem_append_left _ (List.mem_of_getElem? (l := tables_1_4) (i := 78) rfl)))))) rfl
theorem w_581 : Cond.selects "HeronTalk" ⟨"HeronTalk", "rest", "(II)I"⟩ ⟨"HeronTalk", "rest", "(II)I"⟩ ∈ tbG := tbG_in (List.mem_append_right _ (List.mem_append_right _ (List.mem_append_right _ (List.mem_append_right _ (List.mem_append_left _ (List.mem_of_getElem? (l := tables_1_4) (i := 79) rfl)))))) rfl
theorem w_582 : Cond.code ⟨"HeronTalk", "tell", "(I)I"⟩ prog_1_method_40_code 2 (some .int) ∈ tbG := tbG_in (List.mem_append_right _ (List.mem_append_right _ (List.mem_append_right _ (List.mem_append_right _ (List.mem_append_left _ (List.mem_of_getElem? (l := tables_1_4) (i := 84) rfl)))))) rfl
theorem w_583 : Cond.instanceMethod ⟨"HeronTalk", "tell", "(I)I"⟩ ∈ tbG := tbG_in (List.mem_append_right _ (List.mem_append_right _ (List.mem_append_right _ (List.mem_append_right _ (List.mem_append_left _ (List.mem_of_getElem? (l := tables_1_4) (i := 82) rfl)))))) rfl
theorem w_584 : Cond.selects "HeronTalk" ⟨"HeronTalk", "tell", "(I)I"⟩ ⟨"HeronTalk", "tell", "(I)I"⟩ ∈ tbG := tbG_in (List.mem_append_right _ (List.mem_append_right _ (List.mem_append_right _ (List.mem_append_right _ (List.mem_append_left _ (List.mem_of_getElem? (l := tables_1_4) (i := 83) rfl)))))) rfl
theorem w_585 : Cond.code ⟨"HeronTalk", "check", "(I)I"⟩ prog_1_method_41_code 6 (some .int) ∈ tbG := tbG_in (List.mem_append_right _ (List.mem_append_right _ (List.mem_append_right _ (List.mem_append_right _ (List.mem_append_left _ (List.mem_of_getElem? (l := tables_1_4) (i := 88) rfl)))))) rfl
theorem w_586 : Cond.instanceMethod ⟨"HeronTalk", "check", "(I)I"⟩ ∈ tbG := tbG_in (List.mem_append_right _ (List.mem_append_right _ (List.mem_append_right _ (List.mem_append_right _ (List.mem_append_left _ (List.mem_of_getElem? (l := tables_1_4) (i := 86) rfl)))))) rfl
theorem w_587 : Cond.selects "HeronTalk" ⟨"HeronTalk", "check", "(I)I"⟩ ⟨"HeronTalk", "check", "(I)I"⟩ ∈ tbG := tbG_in (List.mem_append_right _ (List.mem_append_right _ (List.mem_append_right _ (List.mem_append_right _ (List.mem_append_left _ (List.mem_of_getElem? (l := tables_1_4) (i := 87) rfl)))))) rfl
theorem w_588 : Cond.code ⟨"HeronTalk", "keep", "()I"⟩ prog_1_method_42_code 1 (some .int) ∈ tbG := tbG_in (List.mem_append_right _ (List.mem_append_right _ (List.mem_append_right _ (List.mem_append_right _ (List.mem_append_left _ (List.mem_of_getElem? (l := tables_1_4) (i := 92) rfl)))))) rfl
theorem w_589 : Cond.instanceMethod ⟨"HeronTalk", "keep", "()I"⟩ ∈ tbG := tbG_in (List.mem_append_right _ (List.mem_append_right _ (List.mem_append_right _ (List.mem_append_right _ (List.mem_append_left _ (List.mem_of_getElem? (l := tables_1_4) (i := 90) rfl)))))) rfl
theorem w_590 : Cond.selects "HeronTalk" ⟨"HeronTalk", "keep", "()I"⟩ ⟨"HeronTalk", "keep", "()I"⟩ ∈ tbG := tbG_in (List.mem_append_right _ (List.mem_append_right _ (List.mem_append_right _ (List.mem_append_right _ (List.mem_append_left _ (List.mem_of_getElem? (l := tables_1_4) (i := 91) rfl)))))) rfl
theorem w_591 : Cond.code ⟨"HeronTalk", "back", "()I"⟩ prog_1_method_43_code 1 (some .int) ∈ tbG := tbG_in (List.mem_append_right _ (List.mem_append_right _ (List.mem_append_right _ (List.mem_append_right _ (List.mem_append_left _ (List.mem_of_getElem? (l := tables_1_4) (i := 96) rfl)))))) rfl
theorem w_592 : Cond.instanceMethod ⟨"HeronTalk", "back", "()I"⟩ ∈ tbG := tbG_in (List.mem_append_right _ (List.mem_append_right _ (List.mem_append_right _ (List.mem_append_right _ (List.mem_append_left _ (List.mem_of_getElem? (l := tables_1_4) (i := 94) rfl)))))) rfl
theorem w_593 : Cond.selects "HeronTalk" ⟨"HeronTalk", "back", "()I"⟩ ⟨"HeronTalk", "back", "()I"⟩ ∈ tbG := tbG_in (List.mem_append_right _ (List.mem_append_right _ (List.mem_append_right _ (List.mem_append_right _ (List.mem_append_left _ (List.mem_of_getElem? (l := tables_1_4) (i := 95) rfl)))))) rfl
theorem w_594 : Cond.fieldLink "HeronTalk" 327 "HeronTalk$Town" "said" "I" ∈ tbG := tbG_in (List.mem_append_right _ (List.mem_append_left _ (List.mem_of_getElem? (l := tables_1_1) (i := 45) rfl))) rfl
theorem w_595 : Cond.code ⟨"HeronTalk", "count", "(I)I"⟩ prog_1_method_44_code 2 (some .int) ∈ tbG := tbG_in (List.mem_append_right _ (List.mem_append_right _ (List.mem_append_right _ (List.mem_append_right _ (List.mem_append_left _ (List.mem_of_getElem? (l := tables_1_4) (i := 100) rfl)))))) rfl
theorem w_596 : Cond.instanceMethod ⟨"HeronTalk", "count", "(I)I"⟩ ∈ tbG := tbG_in (List.mem_append_right _ (List.mem_append_right _ (List.mem_append_right _ (List.mem_append_right _ (List.mem_append_left _ (List.mem_of_getElem? (l := tables_1_4) (i := 98) rfl)))))) rfl
theorem w_597 : Cond.selects "HeronTalk" ⟨"HeronTalk", "count", "(I)I"⟩ ⟨"HeronTalk", "count", "(I)I"⟩ ∈ tbG := tbG_in (List.mem_append_right _ (List.mem_append_right _ (List.mem_append_right _ (List.mem_append_right _ (List.mem_append_left _ (List.mem_of_getElem? (l := tables_1_4) (i := 99) rfl)))))) rfl
theorem w_598 : Cond.fieldLink "HeronTalkModel" 9 "HeronTalkModel" "now" "[I" ∈ tbG := tbG_in (List.mem_append_right _ (List.mem_append_right _ (List.mem_append_right _ (List.mem_append_right _ (List.mem_append_left _ (List.mem_of_getElem? (l := tables_1_4) (i := 107) rfl)))))) rfl
theorem w_599 : Cond.fieldLink "HeronTalkModel" 75 "HeronTalkModel" "tells" "[I" ∈ tbG := tbG_in (List.mem_append_right _ (List.mem_append_right _ (List.mem_append_right _ (List.mem_append_right _ (List.mem_append_left _ (List.mem_of_getElem? (l := tables_1_4) (i := 139) rfl)))))) rfl
theorem w_600 : Cond.fieldLink "HeronTalkModel" 72 "HeronTalkModel" "moved" "[I" ∈ tbG := tbG_in (List.mem_append_right _ (List.mem_append_right _ (List.mem_append_right _ (List.mem_append_right _ (List.mem_append_left _ (List.mem_of_getElem? (l := tables_1_4) (i := 138) rfl)))))) rfl
theorem w_601 : Cond.fieldLink "HeronTalkModel" 69 "HeronTalkModel" "heldCells" "[I" ∈ tbG := tbG_in (List.mem_append_right _ (List.mem_append_right _ (List.mem_append_right _ (List.mem_append_right _ (List.mem_append_left _ (List.mem_of_getElem? (l := tables_1_4) (i := 137) rfl)))))) rfl
theorem w_602 : Cond.fieldLink "HeronTalkModel" 66 "HeronTalkModel" "holdsB" "[I" ∈ tbG := tbG_in (List.mem_append_right _ (List.mem_append_right _ (List.mem_append_right _ (List.mem_append_right _ (List.mem_append_left _ (List.mem_of_getElem? (l := tables_1_4) (i := 136) rfl)))))) rfl
theorem w_603 : Cond.fieldLink "HeronTalkModel" 63 "HeronTalkModel" "holdsA" "[I" ∈ tbG := tbG_in (List.mem_append_right _ (List.mem_append_right _ (List.mem_append_right _ (List.mem_append_right _ (List.mem_append_left _ (List.mem_of_getElem? (l := tables_1_4) (i := 135) rfl)))))) rfl
theorem w_604 : Cond.fieldLink "HeronTalkModel" 60 "HeronTalkModel" "holds" "[I" ∈ tbG := tbG_in (List.mem_append_right _ (List.mem_append_right _ (List.mem_append_right _ (List.mem_append_right _ (List.mem_append_left _ (List.mem_of_getElem? (l := tables_1_4) (i := 134) rfl)))))) rfl
theorem w_605 : Cond.fieldLink "HeronTalkModel" 57 "HeronTalkModel" "cells" "[I" ∈ tbG := tbG_in (List.mem_append_right _ (List.mem_append_right _ (List.mem_append_right _ (List.mem_append_right _ (List.mem_append_left _ (List.mem_of_getElem? (l := tables_1_4) (i := 133) rfl)))))) rfl
theorem w_606 : Cond.fieldLink "HeronTalkModel" 54 "HeronTalkModel" "sizes" "[I" ∈ tbG := tbG_in (List.mem_append_right _ (List.mem_append_right _ (List.mem_append_right _ (List.mem_append_right _ (List.mem_append_left _ (List.mem_of_getElem? (l := tables_1_4) (i := 132) rfl)))))) rfl
theorem w_607 : Cond.fieldLink "HeronTalkModel" 51 "HeronTalkModel" "sorts" "[I" ∈ tbG := tbG_in (List.mem_append_right _ (List.mem_append_right _ (List.mem_append_right _ (List.mem_append_right _ (List.mem_append_left _ (List.mem_of_getElem? (l := tables_1_4) (i := 131) rfl)))))) rfl
theorem w_608 : Cond.fieldLink "HeronTalkModel" 48 "HeronTalkModel" "facts" "[I" ∈ tbG := tbG_in (List.mem_append_right _ (List.mem_append_right _ (List.mem_append_right _ (List.mem_append_right _ (List.mem_append_left _ (List.mem_of_getElem? (l := tables_1_4) (i := 130) rfl)))))) rfl
theorem w_609 : Cond.fieldLink "HeronTalkModel" 45 "HeronTalkModel" "stack" "[I" ∈ tbG := tbG_in (List.mem_append_right _ (List.mem_append_right _ (List.mem_append_right _ (List.mem_append_right _ (List.mem_append_left _ (List.mem_of_getElem? (l := tables_1_4) (i := 129) rfl)))))) rfl
theorem w_610 : Cond.fieldLink "HeronTalkModel" 41 "HeronTalkModel" "tested" "[Z" ∈ tbG := tbG_in (List.mem_append_right _ (List.mem_append_right _ (List.mem_append_right _ (List.mem_append_right _ (List.mem_append_left _ (List.mem_of_getElem? (l := tables_1_4) (i := 128) rfl)))))) rfl
theorem w_611 : Cond.arrayClass .boolean ∈ tbG := tbG_in (List.mem_append_right _ (List.mem_append_right _ (List.mem_append_right _ (List.mem_append_right _ (List.mem_append_left _ (List.mem_of_getElem? (l := tables_1_4) (i := 211) rfl)))))) rfl
theorem w_612 : Cond.fieldLink "HeronTalkModel" 38 "HeronTalkModel" "waits" "[I" ∈ tbG := tbG_in (List.mem_append_right _ (List.mem_append_right _ (List.mem_append_right _ (List.mem_append_right _ (List.mem_append_left _ (List.mem_of_getElem? (l := tables_1_4) (i := 126) rfl)))))) rfl
theorem w_613 : Cond.fieldLink "HeronTalkModel" 35 "HeronTalkModel" "code" "[I" ∈ tbG := tbG_in (List.mem_append_right _ (List.mem_append_right _ (List.mem_append_right _ (List.mem_append_right _ (List.mem_append_left _ (List.mem_of_getElem? (l := tables_1_4) (i := 123) rfl)))))) rfl
theorem w_614 : Cond.fieldLink "HeronTalkModel" 32 "HeronTalkModel" "keyAt" "[I" ∈ tbG := tbG_in (List.mem_append_right _ (List.mem_append_right _ (List.mem_append_right _ (List.mem_append_right _ (List.mem_append_left _ (List.mem_of_getElem? (l := tables_1_4) (i := 122) rfl)))))) rfl
theorem w_615 : Cond.fieldLink "HeronTalkModel" 28 "HeronTalkModel" "keys" "[C" ∈ tbG := tbG_in (List.mem_append_right _ (List.mem_append_right _ (List.mem_append_right _ (List.mem_append_right _ (List.mem_append_left _ (List.mem_of_getElem? (l := tables_1_4) (i := 121) rfl)))))) rfl
theorem w_616 : Cond.arrayClass .char ∈ tbG := tbG_in (List.mem_append_right _ (List.mem_append_right _ (List.mem_append_right _ (List.mem_append_right _ (List.mem_append_left _ (List.mem_of_getElem? (l := tables_1_4) (i := 210) rfl)))))) rfl
theorem w_617 : Cond.fieldLink "HeronTalkModel" 25 "HeronTalkModel" "tape" "[I" ∈ tbG := tbG_in (List.mem_append_right _ (List.mem_append_right _ (List.mem_append_right _ (List.mem_append_right _ (List.mem_append_left _ (List.mem_of_getElem? (l := tables_1_4) (i := 113) rfl)))))) rfl
theorem w_618 : Cond.fieldLink "HeronTalkModel" 22 "HeronTalkModel" "asked" "[I" ∈ tbG := tbG_in (List.mem_append_right _ (List.mem_append_right _ (List.mem_append_right _ (List.mem_append_right _ (List.mem_append_left _ (List.mem_of_getElem? (l := tables_1_4) (i := 112) rfl)))))) rfl
theorem w_619 : Cond.fieldLink "HeronTalkModel" 19 "HeronTalkModel" "ahead" "[I" ∈ tbG := tbG_in (List.mem_append_right _ (List.mem_append_right _ (List.mem_append_right _ (List.mem_append_right _ (List.mem_append_left _ (List.mem_of_getElem? (l := tables_1_4) (i := 111) rfl)))))) rfl
theorem w_620 : Cond.fieldLink "HeronTalkModel" 16 "HeronTalkModel" "aside" "[I" ∈ tbG := tbG_in (List.mem_append_right _ (List.mem_append_right _ (List.mem_append_right _ (List.mem_append_right _ (List.mem_append_left _ (List.mem_of_getElem? (l := tables_1_4) (i := 109) rfl)))))) rfl
theorem w_621 : Cond.fieldLink "HeronTalkModel" 13 "HeronTalkModel" "image" "[I" ∈ tbG := tbG_in (List.mem_append_right _ (List.mem_append_right _ (List.mem_append_right _ (List.mem_append_right _ (List.mem_append_left _ (List.mem_of_getElem? (l := tables_1_4) (i := 108) rfl)))))) rfl
theorem w_622 : Cond.methodLink "HeronTalkModel" 1 ⟨"java/lang/Object", "<init>", "()V"⟩ ∈ tbG := tbG_in (List.mem_append_right _ (List.mem_append_right _ (List.mem_append_right _ (List.mem_append_right _ (List.mem_append_left _ (List.mem_of_getElem? (l := tables_1_4) (i := 106) rfl)))))) rfl
theorem w_623 : Cond.code ⟨"HeronTalkModel", "<init>", "()V"⟩ prog_9_method_1_code 1 (none : Option Jvm.ClassFile.FieldType) ∈ tbG := tbG_in (List.mem_append_right _ (List.mem_append_right _ (List.mem_append_right _ (List.mem_append_right _ (List.mem_append_left _ (List.mem_of_getElem? (l := tables_1_4) (i := 105) rfl)))))) rfl
theorem w_624 : Cond.initialized "HeronTalkModel" ∈ tbG := tbG_in (List.mem_append_right _ (List.mem_append_left _ (List.mem_of_getElem? (l := tables_1_1) (i := 7) rfl))) rfl
theorem w_625 : Cond.instanceMethod ⟨"HeronTalkModel", "<init>", "()V"⟩ ∈ tbG := tbG_in (List.mem_append_right _ (List.mem_append_right _ (List.mem_append_right _ (List.mem_append_right _ (List.mem_append_left _ (List.mem_of_getElem? (l := tables_1_4) (i := 104) rfl)))))) rfl
theorem w_626 : Cond.code ⟨"HeronTalkModel", "in", "(III)Z"⟩ prog_9_method_2_code 3 (some .boolean) ∈ tbG := tbG_in (List.mem_append_right _ (List.mem_append_right _ (List.mem_append_right _ (List.mem_append_right _ (List.mem_append_left _ (List.mem_of_getElem? (l := tables_1_4) (i := 218) rfl)))))) rfl
theorem w_627 : Cond.static ⟨"HeronTalkModel", "in", "(III)Z"⟩ ∈ tbG := tbG_in (List.mem_append_right _ (List.mem_append_right _ (List.mem_append_right _ (List.mem_append_right _ (List.mem_append_left _ (List.mem_of_getElem? (l := tables_1_4) (i := 217) rfl)))))) rfl
theorem w_628 : Cond.code ⟨"HeronTalkModel", "within", "(III)I"⟩ prog_9_method_3_code 3 (some .int) ∈ tbG := tbG_in (List.mem_append_right _ (List.mem_append_right _ (List.mem_append_right _ (List.mem_append_right _ (List.mem_append_right _ (List.mem_append_left _ (List.mem_of_getElem? (l := tables_1_5) (i := 81) rfl))))))) rfl
theorem w_629 : Cond.static ⟨"HeronTalkModel", "within", "(III)I"⟩ ∈ tbG := tbG_in (List.mem_append_right _ (List.mem_append_right _ (List.mem_append_right _ (List.mem_append_right _ (List.mem_append_right _ (List.mem_append_left _ (List.mem_of_getElem? (l := tables_1_5) (i := 80) rfl))))))) rfl
theorem w_630 : Cond.code ⟨"HeronTalkModel", "copyAll", "([I[I)V"⟩ prog_9_method_4_code 3 (none : Option Jvm.ClassFile.FieldType) ∈ tbG := tbG_in (List.mem_append_right _ (List.mem_append_right _ (List.mem_append_right _ (List.mem_append_right _ (List.mem_append_right _ (List.mem_append_right _ (List.mem_of_getElem? (l := tables_1_6) (i := 104) rfl))))))) rfl
theorem w_631 : Cond.static ⟨"HeronTalkModel", "copyAll", "([I[I)V"⟩ ∈ tbG := tbG_in (List.mem_append_right _ (List.mem_append_right _ (List.mem_append_right _ (List.mem_append_right _ (List.mem_append_right _ (List.mem_append_right _ (List.mem_of_getElem? (l := tables_1_6) (i := 103) rfl))))))) rfl
theorem w_632 : Cond.constant "HeronTalkModel" 78 (-1000000005) ∈ tbG := tbG_in (List.mem_append_right _ (List.mem_append_right _ (List.mem_append_right _ (List.mem_append_right _ (List.mem_append_right _ (List.mem_append_left _ (List.mem_of_getElem? (l := tables_1_5) (i := 127) rfl))))))) rfl
theorem w_633 : Cond.code ⟨"HeronTalkModel", "told0", "(I)I"⟩ prog_9_method_5_code 1 (some .int) ∈ tbG := tbG_in (List.mem_append_right _ (List.mem_append_right _ (List.mem_append_right _ (List.mem_append_right _ (List.mem_append_right _ (List.mem_append_left _ (List.mem_of_getElem? (l := tables_1_5) (i := 126) rfl))))))) rfl
theorem w_634 : Cond.static ⟨"HeronTalkModel", "told0", "(I)I"⟩ ∈ tbG := tbG_in (List.mem_append_right _ (List.mem_append_right _ (List.mem_append_right _ (List.mem_append_right _ (List.mem_append_right _ (List.mem_append_left _ (List.mem_of_getElem? (l := tables_1_5) (i := 125) rfl))))))) rfl
theorem w_635 : Cond.methodLink "HeronTalkModel" 79 ⟨"HeronTalkModel", "in", "(III)Z"⟩ ∈ tbG := tbG_in (List.mem_append_right _ (List.mem_append_right _ (List.mem_append_right _ (List.mem_append_right _ (List.mem_append_left _ (List.mem_of_getElem? (l := tables_1_4) (i := 216) rfl)))))) rfl
theorem w_636 : Cond.code ⟨"HeronTalkModel", "isFact", "(I)Z"⟩ prog_9_method_6_code 2 (some .boolean) ∈ tbG := tbG_in (List.mem_append_right _ (List.mem_append_right _ (List.mem_append_right _ (List.mem_append_right _ (List.mem_append_left _ (List.mem_of_getElem? (l := tables_1_4) (i := 228) rfl)))))) rfl
theorem w_637 : Cond.instanceMethod ⟨"HeronTalkModel", "isFact", "(I)Z"⟩ ∈ tbG := tbG_in (List.mem_append_right _ (List.mem_append_right _ (List.mem_append_right _ (List.mem_append_right _ (List.mem_append_left _ (List.mem_of_getElem? (l := tables_1_4) (i := 227) rfl)))))) rfl
theorem w_638 : Cond.selects "HeronTalkModel" ⟨"HeronTalkModel", "isFact", "(I)Z"⟩ ⟨"HeronTalkModel", "isFact", "(I)Z"⟩ ∈ tbG := tbG_in (List.mem_append_left _ (List.mem_of_getElem? (l := k2_sels lw_privs) (i := 3) rfl)) rfl
theorem w_639 : Cond.code ⟨"HeronTalkModel", "isPerson", "(I)Z"⟩ prog_9_method_7_code 2 (some .boolean) ∈ tbG := tbG_in (List.mem_append_right _ (List.mem_append_right _ (List.mem_append_right _ (List.mem_append_right _ (List.mem_append_right _ (List.mem_append_left _ (List.mem_of_getElem? (l := tables_1_5) (i := 24) rfl))))))) rfl
theorem w_640 : Cond.instanceMethod ⟨"HeronTalkModel", "isPerson", "(I)Z"⟩ ∈ tbG := tbG_in (List.mem_append_right _ (List.mem_append_right _ (List.mem_append_right _ (List.mem_append_right _ (List.mem_append_right _ (List.mem_append_left _ (List.mem_of_getElem? (l := tables_1_5) (i := 23) rfl))))))) rfl
theorem w_641 : Cond.selects "HeronTalkModel" ⟨"HeronTalkModel", "isPerson", "(I)Z"⟩ ⟨"HeronTalkModel", "isPerson", "(I)Z"⟩ ∈ tbG := tbG_in (List.mem_append_left _ (List.mem_of_getElem? (l := k2_sels lw_privs) (i := 9) rfl)) rfl
theorem w_642 : Cond.code ⟨"HeronTalkModel", "isTalk", "(I)Z"⟩ prog_9_method_8_code 2 (some .boolean) ∈ tbG := tbG_in (List.mem_append_right _ (List.mem_append_right _ (List.mem_append_right _ (List.mem_append_right _ (List.mem_append_right _ (List.mem_append_left _ (List.mem_of_getElem? (l := tables_1_5) (i := 115) rfl))))))) rfl
theorem w_643 : Cond.instanceMethod ⟨"HeronTalkModel", "isTalk", "(I)Z"⟩ ∈ tbG := tbG_in (List.mem_append_right _ (List.mem_append_right _ (List.mem_append_right _ (List.mem_append_right _ (List.mem_append_right _ (List.mem_append_left _ (List.mem_of_getElem? (l := tables_1_5) (i := 114) rfl))))))) rfl
theorem w_644 : Cond.selects "HeronTalkModel" ⟨"HeronTalkModel", "isTalk", "(I)Z"⟩ ⟨"HeronTalkModel", "isTalk", "(I)Z"⟩ ∈ tbG := tbG_in (List.mem_append_left _ (List.mem_of_getElem? (l := k2_sels lw_privs) (i := 21) rfl)) rfl
theorem w_645 : Cond.code ⟨"HeronTalkModel", "isSet", "(I)Z"⟩ prog_9_method_9_code 2 (some .boolean) ∈ tbG := tbG_in (List.mem_append_right _ (List.mem_append_right _ (List.mem_append_right _ (List.mem_append_right _ (List.mem_append_right _ (List.mem_append_left _ (List.mem_of_getElem? (l := tables_1_5) (i := 48) rfl))))))) rfl
theorem w_646 : Cond.instanceMethod ⟨"HeronTalkModel", "isSet", "(I)Z"⟩ ∈ tbG := tbG_in (List.mem_append_right _ (List.mem_append_right _ (List.mem_append_right _ (List.mem_append_right _ (List.mem_append_right _ (List.mem_append_left _ (List.mem_of_getElem? (l := tables_1_5) (i := 47) rfl))))))) rfl
theorem w_647 : Cond.selects "HeronTalkModel" ⟨"HeronTalkModel", "isSet", "(I)Z"⟩ ⟨"HeronTalkModel", "isSet", "(I)Z"⟩ ∈ tbG := tbG_in (List.mem_append_left _ (List.mem_of_getElem? (l := k2_sels lw_privs) (i := 14) rfl)) rfl
theorem w_648 : Cond.code ⟨"HeronTalkModel", "bitsOf", "(I)I"⟩ prog_9_method_10_code 3 (some .int) ∈ tbG := tbG_in (List.mem_append_right _ (List.mem_append_right _ (List.mem_append_right _ (List.mem_append_right _ (List.mem_append_right _ (List.mem_append_left _ (List.mem_of_getElem? (l := tables_1_5) (i := 71) rfl))))))) rfl
theorem w_649 : Cond.static ⟨"HeronTalkModel", "bitsOf", "(I)I"⟩ ∈ tbG := tbG_in (List.mem_append_right _ (List.mem_append_right _ (List.mem_append_right _ (List.mem_append_right _ (List.mem_append_right _ (List.mem_append_left _ (List.mem_of_getElem? (l := tables_1_5) (i := 70) rfl))))))) rfl
theorem w_650 : Cond.code ⟨"HeronTalkModel", "becomes", "(II)I"⟩ prog_9_method_11_code 4 (some .int) ∈ tbG := tbG_in (List.mem_append_right _ (List.mem_append_right _ (List.mem_append_right _ (List.mem_append_right _ (List.mem_append_right _ (List.mem_append_left _ (List.mem_of_getElem? (l := tables_1_5) (i := 12) rfl))))))) rfl
theorem w_651 : Cond.instanceMethod ⟨"HeronTalkModel", "becomes", "(II)I"⟩ ∈ tbG := tbG_in (List.mem_append_right _ (List.mem_append_right _ (List.mem_append_right _ (List.mem_append_right _ (List.mem_append_right _ (List.mem_append_left _ (List.mem_of_getElem? (l := tables_1_5) (i := 11) rfl))))))) rfl
theorem w_652 : Cond.selects "HeronTalkModel" ⟨"HeronTalkModel", "becomes", "(II)I"⟩ ⟨"HeronTalkModel", "becomes", "(II)I"⟩ ∈ tbG := tbG_in (List.mem_append_left _ (List.mem_of_getElem? (l := k2_sels lw_privs) (i := 8) rfl)) rfl
theorem w_653 : Cond.code ⟨"HeronTalkModel", "worthOf", "(I)I"⟩ prog_9_method_12_code 2 (some .int) ∈ tbG := tbG_in (List.mem_append_right _ (List.mem_append_right _ (List.mem_append_right _ (List.mem_append_right _ (List.mem_append_right _ (List.mem_append_left _ (List.mem_of_getElem? (l := tables_1_5) (i := 40) rfl))))))) rfl
theorem w_654 : Cond.instanceMethod ⟨"HeronTalkModel", "worthOf", "(I)I"⟩ ∈ tbG := tbG_in (List.mem_append_right _ (List.mem_append_right _ (List.mem_append_right _ (List.mem_append_right _ (List.mem_append_right _ (List.mem_append_left _ (List.mem_of_getElem? (l := tables_1_5) (i := 39) rfl))))))) rfl
theorem w_655 : Cond.selects "HeronTalkModel" ⟨"HeronTalkModel", "worthOf", "(I)I"⟩ ⟨"HeronTalkModel", "worthOf", "(I)I"⟩ ∈ tbG := tbG_in (List.mem_append_left _ (List.mem_of_getElem? (l := k2_sels lw_privs) (i := 13) rfl)) rfl
theorem w_656 : Cond.code ⟨"HeronTalkModel", "isFresh", "(I)Z"⟩ prog_9_method_13_code 2 (some .boolean) ∈ tbG := tbG_in (List.mem_append_right _ (List.mem_append_right _ (List.mem_append_right _ (List.mem_append_right _ (List.mem_append_left _ (List.mem_of_getElem? (l := tables_1_4) (i := 232) rfl)))))) rfl
theorem w_657 : Cond.instanceMethod ⟨"HeronTalkModel", "isFresh", "(I)Z"⟩ ∈ tbG := tbG_in (List.mem_append_right _ (List.mem_append_right _ (List.mem_append_right _ (List.mem_append_right _ (List.mem_append_left _ (List.mem_of_getElem? (l := tables_1_4) (i := 231) rfl)))))) rfl
theorem w_658 : Cond.selects "HeronTalkModel" ⟨"HeronTalkModel", "isFresh", "(I)Z"⟩ ⟨"HeronTalkModel", "isFresh", "(I)Z"⟩ ∈ tbG := tbG_in (List.mem_append_left _ (List.mem_of_getElem? (l := k2_sels lw_privs) (i := 4) rfl)) rfl
theorem w_659 : Cond.code ⟨"HeronTalkModel", "knownTo", "(I)I"⟩ prog_9_method_14_code 2 (some .int) ∈ tbG := tbG_in (List.mem_append_right _ (List.mem_append_right _ (List.mem_append_right _ (List.mem_append_right _ (List.mem_append_right _ (List.mem_append_left _ (List.mem_of_getElem? (l := tables_1_5) (i := 4) rfl))))))) rfl
theorem w_660 : Cond.instanceMethod ⟨"HeronTalkModel", "knownTo", "(I)I"⟩ ∈ tbG := tbG_in (List.mem_append_right _ (List.mem_append_right _ (List.mem_append_right _ (List.mem_append_right _ (List.mem_append_right _ (List.mem_append_left _ (List.mem_of_getElem? (l := tables_1_5) (i := 3) rfl))))))) rfl
theorem w_661 : Cond.selects "HeronTalkModel" ⟨"HeronTalkModel", "knownTo", "(I)I"⟩ ⟨"HeronTalkModel", "knownTo", "(I)I"⟩ ∈ tbG := tbG_in (List.mem_append_left _ (List.mem_of_getElem? (l := k2_sels lw_privs) (i := 7) rfl)) rfl
theorem w_662 : Cond.code ⟨"HeronTalkModel", "neededBy", "(I)I"⟩ prog_9_method_15_code 2 (some .int) ∈ tbG := tbG_in (List.mem_append_right _ (List.mem_append_right _ (List.mem_append_right _ (List.mem_append_right _ (List.mem_append_right _ (List.mem_append_left _ (List.mem_of_getElem? (l := tables_1_5) (i := 28) rfl))))))) rfl
theorem w_663 : Cond.instanceMethod ⟨"HeronTalkModel", "neededBy", "(I)I"⟩ ∈ tbG := tbG_in (List.mem_append_right _ (List.mem_append_right _ (List.mem_append_right _ (List.mem_append_right _ (List.mem_append_right _ (List.mem_append_left _ (List.mem_of_getElem? (l := tables_1_5) (i := 27) rfl))))))) rfl
theorem w_664 : Cond.selects "HeronTalkModel" ⟨"HeronTalkModel", "neededBy", "(I)I"⟩ ⟨"HeronTalkModel", "neededBy", "(I)I"⟩ ∈ tbG := tbG_in (List.mem_append_left _ (List.mem_of_getElem? (l := k2_sels lw_privs) (i := 10) rfl)) rfl
theorem w_665 : Cond.methodLink "HeronTalkModel" 83 ⟨"HeronTalkModel", "knownTo", "(I)I"⟩ ∈ tbG := tbG_in (List.mem_append_right _ (List.mem_append_right _ (List.mem_append_right _ (List.mem_append_right _ (List.mem_append_right _ (List.mem_append_left _ (List.mem_of_getElem? (l := tables_1_5) (i := 1) rfl))))))) rfl
theorem w_666 : Cond.code ⟨"HeronTalkModel", "doesKnow", "(II)Z"⟩ prog_9_method_16_code 3 (some .boolean) ∈ tbG := tbG_in (List.mem_append_right _ (List.mem_append_right _ (List.mem_append_right _ (List.mem_append_right _ (List.mem_append_right _ (List.mem_append_left _ (List.mem_of_getElem? (l := tables_1_5) (i := 0) rfl))))))) rfl
theorem w_667 : Cond.instanceMethod ⟨"HeronTalkModel", "doesKnow", "(II)Z"⟩ ∈ tbG := tbG_in (List.mem_append_right _ (List.mem_append_right _ (List.mem_append_right _ (List.mem_append_right _ (List.mem_append_left _ (List.mem_of_getElem? (l := tables_1_4) (i := 239) rfl)))))) rfl
theorem w_668 : Cond.selects "HeronTalkModel" ⟨"HeronTalkModel", "doesKnow", "(II)Z"⟩ ⟨"HeronTalkModel", "doesKnow", "(II)Z"⟩ ∈ tbG := tbG_in (List.mem_append_left _ (List.mem_of_getElem? (l := k2_sels lw_privs) (i := 6) rfl)) rfl
theorem w_669 : Cond.code ⟨"HeronTalkModel", "learns", "(II)V"⟩ prog_9_method_17_code 8 (none : Option Jvm.ClassFile.FieldType) ∈ tbG := tbG_in (List.mem_append_right _ (List.mem_append_right _ (List.mem_append_right _ (List.mem_append_right _ (List.mem_append_right _ (List.mem_append_left _ (List.mem_of_getElem? (l := tables_1_5) (i := 52) rfl))))))) rfl
theorem w_670 : Cond.instanceMethod ⟨"HeronTalkModel", "learns", "(II)V"⟩ ∈ tbG := tbG_in (List.mem_append_right _ (List.mem_append_right _ (List.mem_append_right _ (List.mem_append_right _ (List.mem_append_right _ (List.mem_append_left _ (List.mem_of_getElem? (l := tables_1_5) (i := 51) rfl))))))) rfl
theorem w_671 : Cond.selects "HeronTalkModel" ⟨"HeronTalkModel", "learns", "(II)V"⟩ ⟨"HeronTalkModel", "learns", "(II)V"⟩ ∈ tbG := tbG_in (List.mem_append_left _ (List.mem_of_getElem? (l := k2_sels lw_privs) (i := 15) rfl)) rfl
theorem w_672 : Cond.constant "HeronTalkModel" 88 (-1000000003) ∈ tbG := tbG_in (List.mem_append_right _ (List.mem_append_right _ (List.mem_append_right _ (List.mem_append_right _ (List.mem_append_left _ (List.mem_of_getElem? (l := tables_1_4) (i := 220) rfl)))))) rfl
theorem w_673 : Cond.constant "HeronTalkModel" 87 (-1000000001) ∈ tbG := tbG_in (List.mem_append_right _ (List.mem_append_right _ (List.mem_append_right _ (List.mem_append_right _ (List.mem_append_left _ (List.mem_of_getElem? (l := tables_1_4) (i := 219) rfl)))))) rfl
theorem w_674 : Cond.code ⟨"HeronTalkModel", "fact", "(I)I"⟩ prog_9_method_18_code 2 (some .int) ∈ tbG := tbG_in (List.mem_append_right _ (List.mem_append_right _ (List.mem_append_right _ (List.mem_append_right _ (List.mem_append_left _ (List.mem_of_getElem? (l := tables_1_4) (i := 215) rfl)))))) rfl
theorem w_675 : Cond.instanceMethod ⟨"HeronTalkModel", "fact", "(I)I"⟩ ∈ tbG := tbG_in (List.mem_append_right _ (List.mem_append_right _ (List.mem_append_right _ (List.mem_append_right _ (List.mem_append_left _ (List.mem_of_getElem? (l := tables_1_4) (i := 213) rfl)))))) rfl
theorem w_676 : Cond.selects "HeronTalkModel" ⟨"HeronTalkModel", "fact", "(I)I"⟩ ⟨"HeronTalkModel", "fact", "(I)I"⟩ ∈ tbG := tbG_in (List.mem_append_right _ (List.mem_append_right _ (List.mem_append_right _ (List.mem_append_right _ (List.mem_append_left _ (List.mem_of_getElem? (l := tables_1_4) (i := 214) rfl)))))) rfl
theorem w_677 : Cond.methodLink "HeronTalkModel" 89 ⟨"HeronTalkModel", "doesKnow", "(II)Z"⟩ ∈ tbG := tbG_in (List.mem_append_right _ (List.mem_append_right _ (List.mem_append_right _ (List.mem_append_right _ (List.mem_append_left _ (List.mem_of_getElem? (l := tables_1_4) (i := 237) rfl)))))) rfl
theorem w_678 : Cond.code ⟨"HeronTalkModel", "knowers", "(I)I"⟩ prog_9_method_19_code 4 (some .int) ∈ tbG := tbG_in (List.mem_append_right _ (List.mem_append_right _ (List.mem_append_right _ (List.mem_append_right _ (List.mem_append_left _ (List.mem_of_getElem? (l := tables_1_4) (i := 236) rfl)))))) rfl
theorem w_679 : Cond.instanceMethod ⟨"HeronTalkModel", "knowers", "(I)I"⟩ ∈ tbG := tbG_in (List.mem_append_right _ (List.mem_append_right _ (List.mem_append_right _ (List.mem_append_right _ (List.mem_append_left _ (List.mem_of_getElem? (l := tables_1_4) (i := 235) rfl)))))) rfl
theorem w_680 : Cond.selects "HeronTalkModel" ⟨"HeronTalkModel", "knowers", "(I)I"⟩ ⟨"HeronTalkModel", "knowers", "(I)I"⟩ ∈ tbG := tbG_in (List.mem_append_left _ (List.mem_of_getElem? (l := k2_sels lw_privs) (i := 5) rfl)) rfl
theorem w_681 : Cond.methodLink "HeronTalkModel" 100 ⟨"HeronTalkModel", "knowers", "(I)I"⟩ ∈ tbG := tbG_in (List.mem_append_right _ (List.mem_append_right _ (List.mem_append_right _ (List.mem_append_right _ (List.mem_append_left _ (List.mem_of_getElem? (l := tables_1_4) (i := 233) rfl)))))) rfl
theorem w_682 : Cond.methodLink "HeronTalkModel" 97 ⟨"HeronTalkModel", "isFresh", "(I)Z"⟩ ∈ tbG := tbG_in (List.mem_append_right _ (List.mem_append_right _ (List.mem_append_right _ (List.mem_append_right _ (List.mem_append_left _ (List.mem_of_getElem? (l := tables_1_4) (i := 229) rfl)))))) rfl
theorem w_683 : Cond.methodLink "HeronTalkModel" 93 ⟨"HeronTalkModel", "isFact", "(I)Z"⟩ ∈ tbG := tbG_in (List.mem_append_right _ (List.mem_append_right _ (List.mem_append_right _ (List.mem_append_right _ (List.mem_append_left _ (List.mem_of_getElem? (l := tables_1_4) (i := 225) rfl)))))) rfl
theorem w_684 : Cond.code ⟨"HeronTalkModel", "factTold", "(II)I"⟩ prog_9_method_20_code 3 (some .int) ∈ tbG := tbG_in (List.mem_append_right _ (List.mem_append_right _ (List.mem_append_right _ (List.mem_append_right _ (List.mem_append_left _ (List.mem_of_getElem? (l := tables_1_4) (i := 224) rfl)))))) rfl
theorem w_685 : Cond.instanceMethod ⟨"HeronTalkModel", "factTold", "(II)I"⟩ ∈ tbG := tbG_in (List.mem_append_right _ (List.mem_append_right _ (List.mem_append_right _ (List.mem_append_right _ (List.mem_append_left _ (List.mem_of_getElem? (l := tables_1_4) (i := 222) rfl)))))) rfl
theorem w_686 : Cond.selects "HeronTalkModel" ⟨"HeronTalkModel", "factTold", "(II)I"⟩ ⟨"HeronTalkModel", "factTold", "(II)I"⟩ ∈ tbG := tbG_in (List.mem_append_right _ (List.mem_append_right _ (List.mem_append_right _ (List.mem_append_right _ (List.mem_append_left _ (List.mem_of_getElem? (l := tables_1_4) (i := 223) rfl)))))) rfl
theorem w_687 : Cond.methodLink "HeronTalkModel" 103 ⟨"HeronTalkModel", "becomes", "(II)I"⟩ ∈ tbG := tbG_in (List.mem_append_right _ (List.mem_append_right _ (List.mem_append_right _ (List.mem_append_right _ (List.mem_append_right _ (List.mem_append_left _ (List.mem_of_getElem? (l := tables_1_5) (i := 9) rfl))))))) rfl
theorem w_688 : Cond.code ⟨"HeronTalkModel", "set", "(III)I"⟩ prog_9_method_21_code 4 (some .int) ∈ tbG := tbG_in (List.mem_append_right _ (List.mem_append_right _ (List.mem_append_right _ (List.mem_append_right _ (List.mem_append_right _ (List.mem_append_left _ (List.mem_of_getElem? (l := tables_1_5) (i := 8) rfl))))))) rfl
theorem w_689 : Cond.instanceMethod ⟨"HeronTalkModel", "set", "(III)I"⟩ ∈ tbG := tbG_in (List.mem_append_right _ (List.mem_append_right _ (List.mem_append_right _ (List.mem_append_right _ (List.mem_append_right _ (List.mem_append_left _ (List.mem_of_getElem? (l := tables_1_5) (i := 6) rfl))))))) rfl
theorem w_690 : Cond.selects "HeronTalkModel" ⟨"HeronTalkModel", "set", "(III)I"⟩ ⟨"HeronTalkModel", "set", "(III)I"⟩ ∈ tbG := tbG_in (List.mem_append_right _ (List.mem_append_right _ (List.mem_append_right _ (List.mem_append_right _ (List.mem_append_right _ (List.mem_append_left _ (List.mem_of_getElem? (l := tables_1_5) (i := 7) rfl))))))) rfl
theorem w_691 : Cond.code ⟨"HeronTalkModel", "person", "()I"⟩ prog_9_method_22_code 1 (some .int) ∈ tbG := tbG_in (List.mem_append_right _ (List.mem_append_right _ (List.mem_append_right _ (List.mem_append_right _ (List.mem_append_right _ (List.mem_append_left _ (List.mem_of_getElem? (l := tables_1_5) (i := 16) rfl))))))) rfl
theorem w_692 : Cond.instanceMethod ⟨"HeronTalkModel", "person", "()I"⟩ ∈ tbG := tbG_in (List.mem_append_right _ (List.mem_append_right _ (List.mem_append_right _ (List.mem_append_right _ (List.mem_append_right _ (List.mem_append_left _ (List.mem_of_getElem? (l := tables_1_5) (i := 14) rfl))))))) rfl
theorem w_693 : Cond.selects "HeronTalkModel" ⟨"HeronTalkModel", "person", "()I"⟩ ⟨"HeronTalkModel", "person", "()I"⟩ ∈ tbG := tbG_in (List.mem_append_right _ (List.mem_append_right _ (List.mem_append_right _ (List.mem_append_right _ (List.mem_append_right _ (List.mem_append_left _ (List.mem_of_getElem? (l := tables_1_5) (i := 15) rfl))))))) rfl
theorem w_694 : Cond.code ⟨"HeronTalkModel", "newsOf", "(I)I"⟩ prog_9_method_23_code 4 (some .int) ∈ tbG := tbG_in (List.mem_append_right _ (List.mem_append_right _ (List.mem_append_right _ (List.mem_append_right _ (List.mem_append_right _ (List.mem_append_left _ (List.mem_of_getElem? (l := tables_1_5) (i := 32) rfl))))))) rfl
theorem w_695 : Cond.instanceMethod ⟨"HeronTalkModel", "newsOf", "(I)I"⟩ ∈ tbG := tbG_in (List.mem_append_right _ (List.mem_append_right _ (List.mem_append_right _ (List.mem_append_right _ (List.mem_append_right _ (List.mem_append_left _ (List.mem_of_getElem? (l := tables_1_5) (i := 31) rfl))))))) rfl
theorem w_696 : Cond.selects "HeronTalkModel" ⟨"HeronTalkModel", "newsOf", "(I)I"⟩ ⟨"HeronTalkModel", "newsOf", "(I)I"⟩ ∈ tbG := tbG_in (List.mem_append_left _ (List.mem_of_getElem? (l := k2_sels lw_privs) (i := 11) rfl)) rfl
theorem w_697 : Cond.methodLink "HeronTalkModel" 107 ⟨"HeronTalkModel", "worthOf", "(I)I"⟩ ∈ tbG := tbG_in (List.mem_append_right _ (List.mem_append_right _ (List.mem_append_right _ (List.mem_append_right _ (List.mem_append_right _ (List.mem_append_left _ (List.mem_of_getElem? (l := tables_1_5) (i := 37) rfl))))))) rfl
theorem w_698 : Cond.code ⟨"HeronTalkModel", "richesOf", "(I)I"⟩ prog_9_method_24_code 4 (some .int) ∈ tbG := tbG_in (List.mem_append_right _ (List.mem_append_right _ (List.mem_append_right _ (List.mem_append_right _ (List.mem_append_right _ (List.mem_append_left _ (List.mem_of_getElem? (l := tables_1_5) (i := 36) rfl))))))) rfl
theorem w_699 : Cond.instanceMethod ⟨"HeronTalkModel", "richesOf", "(I)I"⟩ ∈ tbG := tbG_in (List.mem_append_right _ (List.mem_append_right _ (List.mem_append_right _ (List.mem_append_right _ (List.mem_append_right _ (List.mem_append_left _ (List.mem_of_getElem? (l := tables_1_5) (i := 35) rfl))))))) rfl
theorem w_700 : Cond.selects "HeronTalkModel" ⟨"HeronTalkModel", "richesOf", "(I)I"⟩ ⟨"HeronTalkModel", "richesOf", "(I)I"⟩ ∈ tbG := tbG_in (List.mem_append_left _ (List.mem_of_getElem? (l := k2_sels lw_privs) (i := 12) rfl)) rfl
theorem w_701 : Cond.methodLink "HeronTalkModel" 113 ⟨"HeronTalkModel", "neededBy", "(I)I"⟩ ∈ tbG := tbG_in (List.mem_append_right _ (List.mem_append_right _ (List.mem_append_right _ (List.mem_append_right _ (List.mem_append_right _ (List.mem_append_left _ (List.mem_of_getElem? (l := tables_1_5) (i := 25) rfl))))))) rfl
theorem w_702 : Cond.methodLink "HeronTalkModel" 116 ⟨"HeronTalkModel", "newsOf", "(I)I"⟩ ∈ tbG := tbG_in (List.mem_append_right _ (List.mem_append_right _ (List.mem_append_right _ (List.mem_append_right _ (List.mem_append_right _ (List.mem_append_left _ (List.mem_of_getElem? (l := tables_1_5) (i := 29) rfl))))))) rfl
theorem w_703 : Cond.methodLink "HeronTalkModel" 119 ⟨"HeronTalkModel", "richesOf", "(I)I"⟩ ∈ tbG := tbG_in (List.mem_append_right _ (List.mem_append_right _ (List.mem_append_right _ (List.mem_append_right _ (List.mem_append_right _ (List.mem_append_left _ (List.mem_of_getElem? (l := tables_1_5) (i := 33) rfl))))))) rfl
theorem w_704 : Cond.methodLink "HeronTalkModel" 110 ⟨"HeronTalkModel", "isPerson", "(I)Z"⟩ ∈ tbG := tbG_in (List.mem_append_right _ (List.mem_append_right _ (List.mem_append_right _ (List.mem_append_right _ (List.mem_append_right _ (List.mem_append_left _ (List.mem_of_getElem? (l := tables_1_5) (i := 21) rfl))))))) rfl
theorem w_705 : Cond.code ⟨"HeronTalkModel", "personTold", "(II)I"⟩ prog_9_method_25_code 3 (some .int) ∈ tbG := tbG_in (List.mem_append_right _ (List.mem_append_right _ (List.mem_append_right _ (List.mem_append_right _ (List.mem_append_right _ (List.mem_append_left _ (List.mem_of_getElem? (l := tables_1_5) (i := 20) rfl))))))) rfl
theorem w_706 : Cond.instanceMethod ⟨"HeronTalkModel", "personTold", "(II)I"⟩ ∈ tbG := tbG_in (List.mem_append_right _ (List.mem_append_right _ (List.mem_append_right _ (List.mem_append_right _ (List.mem_append_right _ (List.mem_append_left _ (List.mem_of_getElem? (l := tables_1_5) (i := 18) rfl))))))) rfl
theorem w_707 : Cond.selects "HeronTalkModel" ⟨"HeronTalkModel", "personTold", "(II)I"⟩ ⟨"HeronTalkModel", "personTold", "(II)I"⟩ ∈ tbG := tbG_in (List.mem_append_right _ (List.mem_append_right _ (List.mem_append_right _ (List.mem_append_right _ (List.mem_append_right _ (List.mem_append_left _ (List.mem_of_getElem? (l := tables_1_5) (i := 19) rfl))))))) rfl
theorem w_708 : Cond.methodLink "HeronTalkModel" 125 ⟨"HeronTalkModel", "learns", "(II)V"⟩ ∈ tbG := tbG_in (List.mem_append_right _ (List.mem_append_right _ (List.mem_append_right _ (List.mem_append_right _ (List.mem_append_right _ (List.mem_append_left _ (List.mem_of_getElem? (l := tables_1_5) (i := 49) rfl))))))) rfl
theorem w_709 : Cond.methodLink "HeronTalkModel" 122 ⟨"HeronTalkModel", "isSet", "(I)Z"⟩ ∈ tbG := tbG_in (List.mem_append_right _ (List.mem_append_right _ (List.mem_append_right _ (List.mem_append_right _ (List.mem_append_right _ (List.mem_append_left _ (List.mem_of_getElem? (l := tables_1_5) (i := 45) rfl))))))) rfl
theorem w_710 : Cond.code ⟨"HeronTalkModel", "knows", "(III)I"⟩ prog_9_method_26_code 5 (some .int) ∈ tbG := tbG_in (List.mem_append_right _ (List.mem_append_right _ (List.mem_append_right _ (List.mem_append_right _ (List.mem_append_right _ (List.mem_append_left _ (List.mem_of_getElem? (l := tables_1_5) (i := 44) rfl))))))) rfl
theorem w_711 : Cond.instanceMethod ⟨"HeronTalkModel", "knows", "(III)I"⟩ ∈ tbG := tbG_in (List.mem_append_right _ (List.mem_append_right _ (List.mem_append_right _ (List.mem_append_right _ (List.mem_append_right _ (List.mem_append_left _ (List.mem_of_getElem? (l := tables_1_5) (i := 42) rfl))))))) rfl
theorem w_712 : Cond.selects "HeronTalkModel" ⟨"HeronTalkModel", "knows", "(III)I"⟩ ⟨"HeronTalkModel", "knows", "(III)I"⟩ ∈ tbG := tbG_in (List.mem_append_right _ (List.mem_append_right _ (List.mem_append_right _ (List.mem_append_right _ (List.mem_append_right _ (List.mem_append_left _ (List.mem_of_getElem? (l := tables_1_5) (i := 43) rfl))))))) rfl
theorem w_713 : Cond.code ⟨"HeronTalkModel", "follows", "(III)I"⟩ prog_9_method_27_code 6 (some .int) ∈ tbG := tbG_in (List.mem_append_right _ (List.mem_append_right _ (List.mem_append_right _ (List.mem_append_right _ (List.mem_append_right _ (List.mem_append_left _ (List.mem_of_getElem? (l := tables_1_5) (i := 56) rfl))))))) rfl
theorem w_714 : Cond.instanceMethod ⟨"HeronTalkModel", "follows", "(III)I"⟩ ∈ tbG := tbG_in (List.mem_append_right _ (List.mem_append_right _ (List.mem_append_right _ (List.mem_append_right _ (List.mem_append_right _ (List.mem_append_left _ (List.mem_of_getElem? (l := tables_1_5) (i := 54) rfl))))))) rfl
theorem w_715 : Cond.selects "HeronTalkModel" ⟨"HeronTalkModel", "follows", "(III)I"⟩ ⟨"HeronTalkModel", "follows", "(III)I"⟩ ∈ tbG := tbG_in (List.mem_append_right _ (List.mem_append_right _ (List.mem_append_right _ (List.mem_append_right _ (List.mem_append_right _ (List.mem_append_left _ (List.mem_of_getElem? (l := tables_1_5) (i := 55) rfl))))))) rfl
theorem w_716 : Cond.code ⟨"HeronTalkModel", "counts", "(I)I"⟩ prog_9_method_78_code 3 (some .int) ∈ tbG := tbG_in (List.mem_append_right _ (List.mem_append_right _ (List.mem_append_right _ (List.mem_append_right _ (List.mem_append_right _ (List.mem_append_left _ (List.mem_of_getElem? (l := tables_1_5) (i := 68) rfl))))))) rfl
theorem w_717 : Cond.instanceMethod ⟨"HeronTalkModel", "counts", "(I)I"⟩ ∈ tbG := tbG_in (List.mem_append_right _ (List.mem_append_right _ (List.mem_append_right _ (List.mem_append_right _ (List.mem_append_right _ (List.mem_append_left _ (List.mem_of_getElem? (l := tables_1_5) (i := 67) rfl))))))) rfl
theorem w_718 : Cond.selects "HeronTalkModel" ⟨"HeronTalkModel", "counts", "(I)I"⟩ ⟨"HeronTalkModel", "counts", "(I)I"⟩ ∈ tbG := tbG_in (List.mem_append_left _ (List.mem_of_getElem? (l := k2_sels lw_privs) (i := 17) rfl)) rfl
theorem w_719 : Cond.code ⟨"HeronTalkModel", "two", "(III)I"⟩ prog_9_method_80_code 3 (some .int) ∈ tbG := tbG_in (List.mem_append_right _ (List.mem_append_right _ (List.mem_append_right _ (List.mem_append_right _ (List.mem_append_right _ (List.mem_append_left _ (List.mem_of_getElem? (l := tables_1_5) (i := 78) rfl))))))) rfl
theorem w_720 : Cond.static ⟨"HeronTalkModel", "two", "(III)I"⟩ ∈ tbG := tbG_in (List.mem_append_right _ (List.mem_append_right _ (List.mem_append_right _ (List.mem_append_right _ (List.mem_append_right _ (List.mem_append_left _ (List.mem_of_getElem? (l := tables_1_5) (i := 77) rfl))))))) rfl
theorem w_721 : Cond.methodLink "HeronTalkModel" 275 ⟨"HeronTalkModel", "two", "(III)I"⟩ ∈ tbG := tbG_in (List.mem_append_right _ (List.mem_append_right _ (List.mem_append_right _ (List.mem_append_right _ (List.mem_append_right _ (List.mem_append_left _ (List.mem_of_getElem? (l := tables_1_5) (i := 76) rfl))))))) rfl
theorem w_722 : Cond.code ⟨"HeronTalkModel", "worksOut", "(I)I"⟩ prog_9_method_81_code 6 (some .int) ∈ tbG := tbG_in (List.mem_append_right _ (List.mem_append_right _ (List.mem_append_right _ (List.mem_append_right _ (List.mem_append_right _ (List.mem_append_left _ (List.mem_of_getElem? (l := tables_1_5) (i := 75) rfl))))))) rfl
theorem w_723 : Cond.instanceMethod ⟨"HeronTalkModel", "worksOut", "(I)I"⟩ ∈ tbG := tbG_in (List.mem_append_right _ (List.mem_append_right _ (List.mem_append_right _ (List.mem_append_right _ (List.mem_append_right _ (List.mem_append_left _ (List.mem_of_getElem? (l := tables_1_5) (i := 74) rfl))))))) rfl
theorem w_724 : Cond.selects "HeronTalkModel" ⟨"HeronTalkModel", "worksOut", "(I)I"⟩ ⟨"HeronTalkModel", "worksOut", "(I)I"⟩ ∈ tbG := tbG_in (List.mem_append_left _ (List.mem_of_getElem? (l := k2_sels lw_privs) (i := 18) rfl)) rfl
theorem w_725 : Cond.methodLink "HeronTalkModel" 138 ⟨"HeronTalkModel", "within", "(III)I"⟩ ∈ tbG := tbG_in (List.mem_append_right _ (List.mem_append_right _ (List.mem_append_right _ (List.mem_append_right _ (List.mem_append_right _ (List.mem_append_left _ (List.mem_of_getElem? (l := tables_1_5) (i := 79) rfl))))))) rfl
theorem w_726 : Cond.methodLink "HeronTalkModel" 135 ⟨"HeronTalkModel", "worksOut", "(I)I"⟩ ∈ tbG := tbG_in (List.mem_append_right _ (List.mem_append_right _ (List.mem_append_right _ (List.mem_append_right _ (List.mem_append_right _ (List.mem_append_left _ (List.mem_of_getElem? (l := tables_1_5) (i := 72) rfl))))))) rfl
theorem w_727 : Cond.methodLink "HeronTalkModel" 132 ⟨"HeronTalkModel", "bitsOf", "(I)I"⟩ ∈ tbG := tbG_in (List.mem_append_right _ (List.mem_append_right _ (List.mem_append_right _ (List.mem_append_right _ (List.mem_append_right _ (List.mem_append_left _ (List.mem_of_getElem? (l := tables_1_5) (i := 69) rfl))))))) rfl
theorem w_728 : Cond.methodLink "HeronTalkModel" 129 ⟨"HeronTalkModel", "counts", "(I)I"⟩ ∈ tbG := tbG_in (List.mem_append_right _ (List.mem_append_right _ (List.mem_append_right _ (List.mem_append_right _ (List.mem_append_right _ (List.mem_append_left _ (List.mem_of_getElem? (l := tables_1_5) (i := 65) rfl))))))) rfl
theorem w_729 : Cond.code ⟨"HeronTalkModel", "priceOf", "(II)I"⟩ prog_9_method_28_code 5 (some .int) ∈ tbG := tbG_in (List.mem_append_right _ (List.mem_append_right _ (List.mem_append_right _ (List.mem_append_right _ (List.mem_append_right _ (List.mem_append_left _ (List.mem_of_getElem? (l := tables_1_5) (i := 64) rfl))))))) rfl
theorem w_730 : Cond.instanceMethod ⟨"HeronTalkModel", "priceOf", "(II)I"⟩ ∈ tbG := tbG_in (List.mem_append_right _ (List.mem_append_right _ (List.mem_append_right _ (List.mem_append_right _ (List.mem_append_right _ (List.mem_append_left _ (List.mem_of_getElem? (l := tables_1_5) (i := 63) rfl))))))) rfl
theorem w_731 : Cond.selects "HeronTalkModel" ⟨"HeronTalkModel", "priceOf", "(II)I"⟩ ⟨"HeronTalkModel", "priceOf", "(II)I"⟩ ∈ tbG := tbG_in (List.mem_append_left _ (List.mem_of_getElem? (l := k2_sels lw_privs) (i := 16) rfl)) rfl
theorem w_732 : Cond.methodLink "HeronTalkModel" 142 ⟨"HeronTalkModel", "priceOf", "(II)I"⟩ ∈ tbG := tbG_in (List.mem_append_right _ (List.mem_append_right _ (List.mem_append_right _ (List.mem_append_right _ (List.mem_append_right _ (List.mem_append_left _ (List.mem_of_getElem? (l := tables_1_5) (i := 61) rfl))))))) rfl
theorem w_733 : Cond.code ⟨"HeronTalkModel", "price", "(II)I"⟩ prog_9_method_29_code 3 (some .int) ∈ tbG := tbG_in (List.mem_append_right _ (List.mem_append_right _ (List.mem_append_right _ (List.mem_append_right _ (List.mem_append_right _ (List.mem_append_left _ (List.mem_of_getElem? (l := tables_1_5) (i := 60) rfl))))))) rfl
theorem w_734 : Cond.instanceMethod ⟨"HeronTalkModel", "price", "(II)I"⟩ ∈ tbG := tbG_in (List.mem_append_right _ (List.mem_append_right _ (List.mem_append_right _ (List.mem_append_right _ (List.mem_append_right _ (List.mem_append_left _ (List.mem_of_getElem? (l := tables_1_5) (i := 58) rfl))))))) rfl
theorem w_735 : Cond.selects "HeronTalkModel" ⟨"HeronTalkModel", "price", "(II)I"⟩ ⟨"HeronTalkModel", "price", "(II)I"⟩ ∈ tbG := tbG_in (List.mem_append_right _ (List.mem_append_right _ (List.mem_append_right _ (List.mem_append_right _ (List.mem_append_right _ (List.mem_append_left _ (List.mem_of_getElem? (l := tables_1_5) (i := 59) rfl))))))) rfl
theorem w_736 : Cond.constant "HeronTalkModel" 145 1103515245 ∈ tbG := tbG_in (List.mem_append_right _ (List.mem_append_right _ (List.mem_append_right _ (List.mem_append_right _ (List.mem_append_right _ (List.mem_append_left _ (List.mem_of_getElem? (l := tables_1_5) (i := 90) rfl))))))) rfl
theorem w_737 : Cond.code ⟨"HeronTalkModel", "draw", "()I"⟩ prog_9_method_30_code 1 (some .int) ∈ tbG := tbG_in (List.mem_append_right _ (List.mem_append_right _ (List.mem_append_right _ (List.mem_append_right _ (List.mem_append_right _ (List.mem_append_left _ (List.mem_of_getElem? (l := tables_1_5) (i := 89) rfl))))))) rfl
theorem w_738 : Cond.instanceMethod ⟨"HeronTalkModel", "draw", "()I"⟩ ∈ tbG := tbG_in (List.mem_append_right _ (List.mem_append_right _ (List.mem_append_right _ (List.mem_append_right _ (List.mem_append_right _ (List.mem_append_left _ (List.mem_of_getElem? (l := tables_1_5) (i := 88) rfl))))))) rfl
theorem w_739 : Cond.selects "HeronTalkModel" ⟨"HeronTalkModel", "draw", "()I"⟩ ⟨"HeronTalkModel", "draw", "()I"⟩ ∈ tbG := tbG_in (List.mem_append_left _ (List.mem_of_getElem? (l := k2_sels lw_privs) (i := 19) rfl)) rfl
theorem w_740 : Cond.code ⟨"HeronTalkModel", "knownAll", "()I"⟩ prog_9_method_31_code 3 (some .int) ∈ tbG := tbG_in (List.mem_append_right _ (List.mem_append_right _ (List.mem_append_right _ (List.mem_append_right _ (List.mem_append_right _ (List.mem_append_left _ (List.mem_of_getElem? (l := tables_1_5) (i := 95) rfl))))))) rfl
theorem w_741 : Cond.instanceMethod ⟨"HeronTalkModel", "knownAll", "()I"⟩ ∈ tbG := tbG_in (List.mem_append_right _ (List.mem_append_right _ (List.mem_append_right _ (List.mem_append_right _ (List.mem_append_right _ (List.mem_append_left _ (List.mem_of_getElem? (l := tables_1_5) (i := 94) rfl))))))) rfl
theorem w_742 : Cond.selects "HeronTalkModel" ⟨"HeronTalkModel", "knownAll", "()I"⟩ ⟨"HeronTalkModel", "knownAll", "()I"⟩ ∈ tbG := tbG_in (List.mem_append_left _ (List.mem_of_getElem? (l := k2_sels lw_privs) (i := 20) rfl)) rfl
theorem w_743 : Cond.methodLink "HeronTalkModel" 151 ⟨"HeronTalkModel", "knownAll", "()I"⟩ ∈ tbG := tbG_in (List.mem_append_right _ (List.mem_append_right _ (List.mem_append_right _ (List.mem_append_right _ (List.mem_append_right _ (List.mem_append_left _ (List.mem_of_getElem? (l := tables_1_5) (i := 92) rfl))))))) rfl
theorem w_744 : Cond.constant "HeronTalkModel" 150 65536 ∈ tbG := tbG_in (List.mem_append_right _ (List.mem_append_right _ (List.mem_append_right _ (List.mem_append_right _ (List.mem_append_right _ (List.mem_append_left _ (List.mem_of_getElem? (l := tables_1_5) (i := 91) rfl))))))) rfl
theorem w_745 : Cond.methodLink "HeronTalkModel" 146 ⟨"HeronTalkModel", "draw", "()I"⟩ ∈ tbG := tbG_in (List.mem_append_right _ (List.mem_append_right _ (List.mem_append_right _ (List.mem_append_right _ (List.mem_append_right _ (List.mem_append_left _ (List.mem_of_getElem? (l := tables_1_5) (i := 86) rfl))))))) rfl
theorem w_746 : Cond.code ⟨"HeronTalkModel", "deal", "()I"⟩ prog_9_method_32_code 3 (some .int) ∈ tbG := tbG_in (List.mem_append_right _ (List.mem_append_right _ (List.mem_append_right _ (List.mem_append_right _ (List.mem_append_right _ (List.mem_append_left _ (List.mem_of_getElem? (l := tables_1_5) (i := 85) rfl))))))) rfl
theorem w_747 : Cond.instanceMethod ⟨"HeronTalkModel", "deal", "()I"⟩ ∈ tbG := tbG_in (List.mem_append_right _ (List.mem_append_right _ (List.mem_append_right _ (List.mem_append_right _ (List.mem_append_right _ (List.mem_append_left _ (List.mem_of_getElem? (l := tables_1_5) (i := 83) rfl))))))) rfl
theorem w_748 : Cond.selects "HeronTalkModel" ⟨"HeronTalkModel", "deal", "()I"⟩ ⟨"HeronTalkModel", "deal", "()I"⟩ ∈ tbG := tbG_in (List.mem_append_right _ (List.mem_append_right _ (List.mem_append_right _ (List.mem_append_right _ (List.mem_append_right _ (List.mem_append_left _ (List.mem_of_getElem? (l := tables_1_5) (i := 84) rfl))))))) rfl
theorem w_749 : Cond.code ⟨"HeronTalkModel", "seed", "(I)I"⟩ prog_9_method_33_code 2 (some .int) ∈ tbG := tbG_in (List.mem_append_right _ (List.mem_append_right _ (List.mem_append_right _ (List.mem_append_right _ (List.mem_append_right _ (List.mem_append_left _ (List.mem_of_getElem? (l := tables_1_5) (i := 99) rfl))))))) rfl
theorem w_750 : Cond.instanceMethod ⟨"HeronTalkModel", "seed", "(I)I"⟩ ∈ tbG := tbG_in (List.mem_append_right _ (List.mem_append_right _ (List.mem_append_right _ (List.mem_append_right _ (List.mem_append_right _ (List.mem_append_left _ (List.mem_of_getElem? (l := tables_1_5) (i := 97) rfl))))))) rfl
theorem w_751 : Cond.selects "HeronTalkModel" ⟨"HeronTalkModel", "seed", "(I)I"⟩ ⟨"HeronTalkModel", "seed", "(I)I"⟩ ∈ tbG := tbG_in (List.mem_append_right _ (List.mem_append_right _ (List.mem_append_right _ (List.mem_append_right _ (List.mem_append_right _ (List.mem_append_left _ (List.mem_of_getElem? (l := tables_1_5) (i := 98) rfl))))))) rfl
theorem w_752 : Cond.code ⟨"HeronTalkModel", "clock", "(I)I"⟩ prog_9_method_34_code 2 (some .int) ∈ tbG := tbG_in (List.mem_append_right _ (List.mem_append_right _ (List.mem_append_right _ (List.mem_append_right _ (List.mem_append_right _ (List.mem_append_left _ (List.mem_of_getElem? (l := tables_1_5) (i := 103) rfl))))))) rfl
theorem w_753 : Cond.instanceMethod ⟨"HeronTalkModel", "clock", "(I)I"⟩ ∈ tbG := tbG_in (List.mem_append_right _ (List.mem_append_right _ (List.mem_append_right _ (List.mem_append_right _ (List.mem_append_right _ (List.mem_append_left _ (List.mem_of_getElem? (l := tables_1_5) (i := 101) rfl))))))) rfl
theorem w_754 : Cond.selects "HeronTalkModel" ⟨"HeronTalkModel", "clock", "(I)I"⟩ ⟨"HeronTalkModel", "clock", "(I)I"⟩ ∈ tbG := tbG_in (List.mem_append_right _ (List.mem_append_right _ (List.mem_append_right _ (List.mem_append_right _ (List.mem_append_right _ (List.mem_append_left _ (List.mem_of_getElem? (l := tables_1_5) (i := 102) rfl))))))) rfl
theorem w_755 : Cond.code ⟨"HeronTalkModel", "talk", "(III)I"⟩ prog_9_method_35_code 5 (some .int) ∈ tbG := tbG_in (List.mem_append_right _ (List.mem_append_right _ (List.mem_append_right _ (List.mem_append_right _ (List.mem_append_right _ (List.mem_append_left _ (List.mem_of_getElem? (l := tables_1_5) (i := 107) rfl))))))) rfl
theorem w_756 : Cond.instanceMethod ⟨"HeronTalkModel", "talk", "(III)I"⟩ ∈ tbG := tbG_in (List.mem_append_right _ (List.mem_append_right _ (List.mem_append_right _ (List.mem_append_right _ (List.mem_append_right _ (List.mem_append_left _ (List.mem_of_getElem? (l := tables_1_5) (i := 105) rfl))))))) rfl
theorem w_757 : Cond.selects "HeronTalkModel" ⟨"HeronTalkModel", "talk", "(III)I"⟩ ⟨"HeronTalkModel", "talk", "(III)I"⟩ ∈ tbG := tbG_in (List.mem_append_right _ (List.mem_append_right _ (List.mem_append_right _ (List.mem_append_right _ (List.mem_append_right _ (List.mem_append_left _ (List.mem_of_getElem? (l := tables_1_5) (i := 106) rfl))))))) rfl
theorem w_758 : Cond.code ⟨"HeronTalkModel", "best", "(IIIZI)I"⟩ prog_9_method_36_code 11 (some .int) ∈ tbG := tbG_in (List.mem_append_right _ (List.mem_append_right _ (List.mem_append_right _ (List.mem_append_right _ (List.mem_append_right _ (List.mem_append_left _ (List.mem_of_getElem? (l := tables_1_5) (i := 123) rfl))))))) rfl
theorem w_759 : Cond.instanceMethod ⟨"HeronTalkModel", "best", "(IIIZI)I"⟩ ∈ tbG := tbG_in (List.mem_append_right _ (List.mem_append_right _ (List.mem_append_right _ (List.mem_append_right _ (List.mem_append_right _ (List.mem_append_left _ (List.mem_of_getElem? (l := tables_1_5) (i := 122) rfl))))))) rfl
theorem w_760 : Cond.selects "HeronTalkModel" ⟨"HeronTalkModel", "best", "(IIIZI)I"⟩ ⟨"HeronTalkModel", "best", "(IIIZI)I"⟩ ∈ tbG := tbG_in (List.mem_append_left _ (List.mem_of_getElem? (l := k2_sels lw_privs) (i := 23) rfl)) rfl
theorem w_761 : Cond.methodLink "HeronTalkModel" 154 ⟨"HeronTalkModel", "best", "(IIIZI)I"⟩ ∈ tbG := tbG_in (List.mem_append_right _ (List.mem_append_right _ (List.mem_append_right _ (List.mem_append_right _ (List.mem_append_right _ (List.mem_append_left _ (List.mem_of_getElem? (l := tables_1_5) (i := 120) rfl))))))) rfl
theorem w_762 : Cond.code ⟨"HeronTalkModel", "givenBy", "(III)I"⟩ prog_9_method_37_code 4 (some .int) ∈ tbG := tbG_in (List.mem_append_right _ (List.mem_append_right _ (List.mem_append_right _ (List.mem_append_right _ (List.mem_append_right _ (List.mem_append_left _ (List.mem_of_getElem? (l := tables_1_5) (i := 119) rfl))))))) rfl
theorem w_763 : Cond.instanceMethod ⟨"HeronTalkModel", "givenBy", "(III)I"⟩ ∈ tbG := tbG_in (List.mem_append_right _ (List.mem_append_right _ (List.mem_append_right _ (List.mem_append_right _ (List.mem_append_right _ (List.mem_append_left _ (List.mem_of_getElem? (l := tables_1_5) (i := 118) rfl))))))) rfl
theorem w_764 : Cond.selects "HeronTalkModel" ⟨"HeronTalkModel", "givenBy", "(III)I"⟩ ⟨"HeronTalkModel", "givenBy", "(III)I"⟩ ∈ tbG := tbG_in (List.mem_append_left _ (List.mem_of_getElem? (l := k2_sels lw_privs) (i := 22) rfl)) rfl
theorem w_765 : Cond.methodLink "HeronTalkModel" 158 ⟨"HeronTalkModel", "givenBy", "(III)I"⟩ ∈ tbG := tbG_in (List.mem_append_right _ (List.mem_append_right _ (List.mem_append_right _ (List.mem_append_right _ (List.mem_append_right _ (List.mem_append_left _ (List.mem_of_getElem? (l := tables_1_5) (i := 116) rfl))))))) rfl
theorem w_766 : Cond.code ⟨"HeronTalkModel", "gotBy", "(III)I"⟩ prog_9_method_38_code 5 (some .int) ∈ tbG := tbG_in (List.mem_append_right _ (List.mem_append_right _ (List.mem_append_right _ (List.mem_append_right _ (List.mem_append_right _ (List.mem_append_left _ (List.mem_of_getElem? (l := tables_1_5) (i := 131) rfl))))))) rfl
theorem w_767 : Cond.instanceMethod ⟨"HeronTalkModel", "gotBy", "(III)I"⟩ ∈ tbG := tbG_in (List.mem_append_right _ (List.mem_append_right _ (List.mem_append_right _ (List.mem_append_right _ (List.mem_append_right _ (List.mem_append_left _ (List.mem_of_getElem? (l := tables_1_5) (i := 130) rfl))))))) rfl
theorem w_768 : Cond.selects "HeronTalkModel" ⟨"HeronTalkModel", "gotBy", "(III)I"⟩ ⟨"HeronTalkModel", "gotBy", "(III)I"⟩ ∈ tbG := tbG_in (List.mem_append_left _ (List.mem_of_getElem? (l := k2_sels lw_privs) (i := 24) rfl)) rfl
theorem w_769 : Cond.methodLink "HeronTalkModel" 161 ⟨"HeronTalkModel", "gotBy", "(III)I"⟩ ∈ tbG := tbG_in (List.mem_append_right _ (List.mem_append_right _ (List.mem_append_right _ (List.mem_append_right _ (List.mem_append_right _ (List.mem_append_left _ (List.mem_of_getElem? (l := tables_1_5) (i := 128) rfl))))))) rfl
theorem w_770 : Cond.code ⟨"HeronTalkModel", "wouldGo", "(III)Z"⟩ prog_9_method_39_code 4 (some .boolean) ∈ tbG := tbG_in (List.mem_append_right _ (List.mem_append_right _ (List.mem_append_right _ (List.mem_append_right _ (List.mem_append_right _ (List.mem_append_left _ (List.mem_of_getElem? (l := tables_1_5) (i := 135) rfl))))))) rfl
theorem w_771 : Cond.instanceMethod ⟨"HeronTalkModel", "wouldGo", "(III)Z"⟩ ∈ tbG := tbG_in (List.mem_append_right _ (List.mem_append_right _ (List.mem_append_right _ (List.mem_append_right _ (List.mem_append_right _ (List.mem_append_left _ (List.mem_of_getElem? (l := tables_1_5) (i := 134) rfl))))))) rfl
theorem w_772 : Cond.selects "HeronTalkModel" ⟨"HeronTalkModel", "wouldGo", "(III)Z"⟩ ⟨"HeronTalkModel", "wouldGo", "(III)Z"⟩ ∈ tbG := tbG_in (List.mem_append_left _ (List.mem_of_getElem? (l := k2_sels lw_privs) (i := 25) rfl)) rfl
theorem w_773 : Cond.code ⟨"HeronTalkModel", "worthBy", "(III)I"⟩ prog_9_method_40_code 7 (some .int) ∈ tbG := tbG_in (List.mem_append_right _ (List.mem_append_right _ (List.mem_append_right _ (List.mem_append_right _ (List.mem_append_right _ (List.mem_append_left _ (List.mem_of_getElem? (l := tables_1_5) (i := 139) rfl))))))) rfl
theorem w_774 : Cond.instanceMethod ⟨"HeronTalkModel", "worthBy", "(III)I"⟩ ∈ tbG := tbG_in (List.mem_append_right _ (List.mem_append_right _ (List.mem_append_right _ (List.mem_append_right _ (List.mem_append_right _ (List.mem_append_left _ (List.mem_of_getElem? (l := tables_1_5) (i := 138) rfl))))))) rfl
theorem w_775 : Cond.selects "HeronTalkModel" ⟨"HeronTalkModel", "worthBy", "(III)I"⟩ ⟨"HeronTalkModel", "worthBy", "(III)I"⟩ ∈ tbG := tbG_in (List.mem_append_left _ (List.mem_of_getElem? (l := k2_sels lw_privs) (i := 26) rfl)) rfl
theorem w_776 : Cond.methodLink "HeronTalkModel" 167 ⟨"HeronTalkModel", "told0", "(I)I"⟩ ∈ tbG := tbG_in (List.mem_append_right _ (List.mem_append_right _ (List.mem_append_right _ (List.mem_append_right _ (List.mem_append_right _ (List.mem_append_left _ (List.mem_of_getElem? (l := tables_1_5) (i := 124) rfl))))))) rfl
theorem w_777 : Cond.methodLink "HeronTalkModel" 170 ⟨"HeronTalkModel", "wouldGo", "(III)Z"⟩ ∈ tbG := tbG_in (List.mem_append_right _ (List.mem_append_right _ (List.mem_append_right _ (List.mem_append_right _ (List.mem_append_right _ (List.mem_append_left _ (List.mem_of_getElem? (l := tables_1_5) (i := 132) rfl))))))) rfl
theorem w_778 : Cond.methodLink "HeronTalkModel" 173 ⟨"HeronTalkModel", "worthBy", "(III)I"⟩ ∈ tbG := tbG_in (List.mem_append_right _ (List.mem_append_right _ (List.mem_append_right _ (List.mem_append_right _ (List.mem_append_right _ (List.mem_append_left _ (List.mem_of_getElem? (l := tables_1_5) (i := 136) rfl))))))) rfl
theorem w_779 : Cond.methodLink "HeronTalkModel" 164 ⟨"HeronTalkModel", "isTalk", "(I)Z"⟩ ∈ tbG := tbG_in (List.mem_append_right _ (List.mem_append_right _ (List.mem_append_right _ (List.mem_append_right _ (List.mem_append_right _ (List.mem_append_left _ (List.mem_of_getElem? (l := tables_1_5) (i := 112) rfl))))))) rfl
theorem w_780 : Cond.code ⟨"HeronTalkModel", "told", "(II)I"⟩ prog_9_method_41_code 4 (some .int) ∈ tbG := tbG_in (List.mem_append_right _ (List.mem_append_right _ (List.mem_append_right _ (List.mem_append_right _ (List.mem_append_right _ (List.mem_append_left _ (List.mem_of_getElem? (l := tables_1_5) (i := 111) rfl))))))) rfl
theorem w_781 : Cond.instanceMethod ⟨"HeronTalkModel", "told", "(II)I"⟩ ∈ tbG := tbG_in (List.mem_append_right _ (List.mem_append_right _ (List.mem_append_right _ (List.mem_append_right _ (List.mem_append_right _ (List.mem_append_left _ (List.mem_of_getElem? (l := tables_1_5) (i := 109) rfl))))))) rfl
theorem w_782 : Cond.selects "HeronTalkModel" ⟨"HeronTalkModel", "told", "(II)I"⟩ ⟨"HeronTalkModel", "told", "(II)I"⟩ ∈ tbG := tbG_in (List.mem_append_right _ (List.mem_append_right _ (List.mem_append_right _ (List.mem_append_right _ (List.mem_append_right _ (List.mem_append_left _ (List.mem_of_getElem? (l := tables_1_5) (i := 110) rfl))))))) rfl
theorem w_783 : Cond.code ⟨"HeronTalkModel", "isUnder", "(II)Z"⟩ prog_9_method_42_code 2 (some .boolean) ∈ tbG := tbG_in (List.mem_append_right _ (List.mem_append_right _ (List.mem_append_right _ (List.mem_append_right _ (List.mem_append_right _ (List.mem_append_left _ (List.mem_of_getElem? (l := tables_1_5) (i := 146) rfl))))))) rfl
theorem w_784 : Cond.static ⟨"HeronTalkModel", "isUnder", "(II)Z"⟩ ∈ tbG := tbG_in (List.mem_append_right _ (List.mem_append_right _ (List.mem_append_right _ (List.mem_append_right _ (List.mem_append_right _ (List.mem_append_left _ (List.mem_of_getElem? (l := tables_1_5) (i := 145) rfl))))))) rfl
theorem w_785 : Cond.constant "HeronTalkModel" 179 (-1000000012) ∈ tbG := tbG_in (List.mem_append_right _ (List.mem_append_right _ (List.mem_append_right _ (List.mem_append_right _ (List.mem_append_right _ (List.mem_append_left _ (List.mem_of_getElem? (l := tables_1_5) (i := 147) rfl))))))) rfl
theorem w_786 : Cond.methodLink "HeronTalkModel" 176 ⟨"HeronTalkModel", "isUnder", "(II)Z"⟩ ∈ tbG := tbG_in (List.mem_append_right _ (List.mem_append_right _ (List.mem_append_right _ (List.mem_append_right _ (List.mem_append_right _ (List.mem_append_left _ (List.mem_of_getElem? (l := tables_1_5) (i := 144) rfl))))))) rfl
theorem w_787 : Cond.code ⟨"HeronTalkModel", "as", "(II)I"⟩ prog_9_method_43_code 3 (some .int) ∈ tbG := tbG_in (List.mem_append_right _ (List.mem_append_right _ (List.mem_append_right _ (List.mem_append_right _ (List.mem_append_right _ (List.mem_append_left _ (List.mem_of_getElem? (l := tables_1_5) (i := 143) rfl))))))) rfl
theorem w_788 : Cond.instanceMethod ⟨"HeronTalkModel", "as", "(II)I"⟩ ∈ tbG := tbG_in (List.mem_append_right _ (List.mem_append_right _ (List.mem_append_right _ (List.mem_append_right _ (List.mem_append_right _ (List.mem_append_left _ (List.mem_of_getElem? (l := tables_1_5) (i := 141) rfl))))))) rfl
theorem w_789 : Cond.selects "HeronTalkModel" ⟨"HeronTalkModel", "as", "(II)I"⟩ ⟨"HeronTalkModel", "as", "(II)I"⟩ ∈ tbG := tbG_in (List.mem_append_right _ (List.mem_append_right _ (List.mem_append_right _ (List.mem_append_right _ (List.mem_append_right _ (List.mem_append_left _ (List.mem_of_getElem? (l := tables_1_5) (i := 142) rfl))))))) rfl
theorem w_790 : Cond.code ⟨"HeronTalkModel", "turns", "(II)I"⟩ prog_9_method_44_code 3 (some .int) ∈ tbG := tbG_in (List.mem_append_right _ (List.mem_append_right _ (List.mem_append_right _ (List.mem_append_right _ (List.mem_append_right _ (List.mem_append_left _ (List.mem_of_getElem? (l := tables_1_5) (i := 151) rfl))))))) rfl
theorem w_791 : Cond.instanceMethod ⟨"HeronTalkModel", "turns", "(II)I"⟩ ∈ tbG := tbG_in (List.mem_append_right _ (List.mem_append_right _ (List.mem_append_right _ (List.mem_append_right _ (List.mem_append_right _ (List.mem_append_left _ (List.mem_of_getElem? (l := tables_1_5) (i := 149) rfl))))))) rfl
theorem w_792 : Cond.selects "HeronTalkModel" ⟨"HeronTalkModel", "turns", "(II)I"⟩ ⟨"HeronTalkModel", "turns", "(II)I"⟩ ∈ tbG := tbG_in (List.mem_append_right _ (List.mem_append_right _ (List.mem_append_right _ (List.mem_append_right _ (List.mem_append_right _ (List.mem_append_left _ (List.mem_of_getElem? (l := tables_1_5) (i := 150) rfl))))))) rfl
theorem w_793 : Cond.code ⟨"HeronTalkModel", "asBit", "(I)I"⟩ prog_9_method_45_code 1 (some .int) ∈ tbG := tbG_in (List.mem_append_right _ (List.mem_append_right _ (List.mem_append_right _ (List.mem_append_right _ (List.mem_append_right _ (List.mem_append_left _ (List.mem_of_getElem? (l := tables_1_5) (i := 166) rfl))))))) rfl
theorem w_794 : Cond.static ⟨"HeronTalkModel", "asBit", "(I)I"⟩ ∈ tbG := tbG_in (List.mem_append_right _ (List.mem_append_right _ (List.mem_append_right _ (List.mem_append_right _ (List.mem_append_right _ (List.mem_append_left _ (List.mem_of_getElem? (l := tables_1_5) (i := 165) rfl))))))) rfl
theorem w_795 : Cond.methodLink "HeronTalkModel" 180 ⟨"HeronTalkModel", "asBit", "(I)I"⟩ ∈ tbG := tbG_in (List.mem_append_right _ (List.mem_append_right _ (List.mem_append_right _ (List.mem_append_right _ (List.mem_append_right _ (List.mem_append_left _ (List.mem_of_getElem? (l := tables_1_5) (i := 164) rfl))))))) rfl
theorem w_796 : Cond.code ⟨"HeronTalkModel", "goes", "(III)Z"⟩ prog_9_method_46_code 7 (some .boolean) ∈ tbG := tbG_in (List.mem_append_right _ (List.mem_append_right _ (List.mem_append_right _ (List.mem_append_right _ (List.mem_append_right _ (List.mem_append_left _ (List.mem_of_getElem? (l := tables_1_5) (i := 163) rfl))))))) rfl
theorem w_797 : Cond.instanceMethod ⟨"HeronTalkModel", "goes", "(III)Z"⟩ ∈ tbG := tbG_in (List.mem_append_right _ (List.mem_append_right _ (List.mem_append_right _ (List.mem_append_right _ (List.mem_append_right _ (List.mem_append_left _ (List.mem_of_getElem? (l := tables_1_5) (i := 162) rfl))))))) rfl
theorem w_798 : Cond.selects "HeronTalkModel" ⟨"HeronTalkModel", "goes", "(III)Z"⟩ ⟨"HeronTalkModel", "goes", "(III)Z"⟩ ∈ tbG := tbG_in (List.mem_append_left _ (List.mem_of_getElem? (l := k2_sels lw_privs) (i := 28) rfl)) rfl
theorem w_799 : Cond.methodLink "HeronTalkModel" 183 ⟨"HeronTalkModel", "goes", "(III)Z"⟩ ∈ tbG := tbG_in (List.mem_append_right _ (List.mem_append_right _ (List.mem_append_right _ (List.mem_append_right _ (List.mem_append_right _ (List.mem_append_left _ (List.mem_of_getElem? (l := tables_1_5) (i := 160) rfl))))))) rfl
theorem w_800 : Cond.code ⟨"HeronTalkModel", "goesOn", "(I)Z"⟩ prog_9_method_47_code 2 (some .boolean) ∈ tbG := tbG_in (List.mem_append_right _ (List.mem_append_right _ (List.mem_append_right _ (List.mem_append_right _ (List.mem_append_right _ (List.mem_append_left _ (List.mem_of_getElem? (l := tables_1_5) (i := 159) rfl))))))) rfl
theorem w_801 : Cond.instanceMethod ⟨"HeronTalkModel", "goesOn", "(I)Z"⟩ ∈ tbG := tbG_in (List.mem_append_right _ (List.mem_append_right _ (List.mem_append_right _ (List.mem_append_right _ (List.mem_append_right _ (List.mem_append_left _ (List.mem_of_getElem? (l := tables_1_5) (i := 158) rfl))))))) rfl
theorem w_802 : Cond.selects "HeronTalkModel" ⟨"HeronTalkModel", "goesOn", "(I)Z"⟩ ⟨"HeronTalkModel", "goesOn", "(I)Z"⟩ ∈ tbG := tbG_in (List.mem_append_left _ (List.mem_of_getElem? (l := k2_sels lw_privs) (i := 27) rfl)) rfl
theorem w_803 : Cond.methodLink "HeronTalkModel" 186 ⟨"HeronTalkModel", "goesOn", "(I)Z"⟩ ∈ tbG := tbG_in (List.mem_append_right _ (List.mem_append_right _ (List.mem_append_right _ (List.mem_append_right _ (List.mem_append_right _ (List.mem_append_left _ (List.mem_of_getElem? (l := tables_1_5) (i := 156) rfl))))))) rfl
theorem w_804 : Cond.code ⟨"HeronTalkModel", "say", "(I)I"⟩ prog_9_method_48_code 2 (some .int) ∈ tbG := tbG_in (List.mem_append_right _ (List.mem_append_right _ (List.mem_append_right _ (List.mem_append_right _ (List.mem_append_right _ (List.mem_append_left _ (List.mem_of_getElem? (l := tables_1_5) (i := 155) rfl))))))) rfl
theorem w_805 : Cond.instanceMethod ⟨"HeronTalkModel", "say", "(I)I"⟩ ∈ tbG := tbG_in (List.mem_append_right _ (List.mem_append_right _ (List.mem_append_right _ (List.mem_append_right _ (List.mem_append_right _ (List.mem_append_left _ (List.mem_of_getElem? (l := tables_1_5) (i := 153) rfl))))))) rfl
theorem w_806 : Cond.selects "HeronTalkModel" ⟨"HeronTalkModel", "say", "(I)I"⟩ ⟨"HeronTalkModel", "say", "(I)I"⟩ ∈ tbG := tbG_in (List.mem_append_right _ (List.mem_append_right _ (List.mem_append_right _ (List.mem_append_right _ (List.mem_append_right _ (List.mem_append_left _ (List.mem_of_getElem? (l := tables_1_5) (i := 154) rfl))))))) rfl
theorem w_807 : Cond.code ⟨"HeronTalkModel", "aRound", "()I"⟩ prog_9_method_49_code 3 (some .int) ∈ tbG := tbG_in (List.mem_append_right _ (List.mem_append_right _ (List.mem_append_right _ (List.mem_append_right _ (List.mem_append_right _ (List.mem_append_left _ (List.mem_of_getElem? (l := tables_1_5) (i := 175) rfl))))))) rfl
theorem w_808 : Cond.instanceMethod ⟨"HeronTalkModel", "aRound", "()I"⟩ ∈ tbG := tbG_in (List.mem_append_right _ (List.mem_append_right _ (List.mem_append_right _ (List.mem_append_right _ (List.mem_append_right _ (List.mem_append_left _ (List.mem_of_getElem? (l := tables_1_5) (i := 174) rfl))))))) rfl
theorem w_809 : Cond.selects "HeronTalkModel" ⟨"HeronTalkModel", "aRound", "()I"⟩ ⟨"HeronTalkModel", "aRound", "()I"⟩ ∈ tbG := tbG_in (List.mem_append_left _ (List.mem_of_getElem? (l := k2_sels lw_privs) (i := 29) rfl)) rfl
theorem w_810 : Cond.methodLink "HeronTalkModel" 190 ⟨"HeronTalkModel", "aRound", "()I"⟩ ∈ tbG := tbG_in (List.mem_append_right _ (List.mem_append_right _ (List.mem_append_right _ (List.mem_append_right _ (List.mem_append_right _ (List.mem_append_left _ (List.mem_of_getElem? (l := tables_1_5) (i := 172) rfl))))))) rfl
theorem w_811 : Cond.constant "HeronTalkModel" 189 (-1000000002) ∈ tbG := tbG_in (List.mem_append_right _ (List.mem_append_right _ (List.mem_append_right _ (List.mem_append_right _ (List.mem_append_right _ (List.mem_append_left _ (List.mem_of_getElem? (l := tables_1_5) (i := 171) rfl))))))) rfl
theorem w_812 : Cond.code ⟨"HeronTalkModel", "round", "()I"⟩ prog_9_method_50_code 1 (some .int) ∈ tbG := tbG_in (List.mem_append_right _ (List.mem_append_right _ (List.mem_append_right _ (List.mem_append_right _ (List.mem_append_right _ (List.mem_append_left _ (List.mem_of_getElem? (l := tables_1_5) (i := 170) rfl))))))) rfl
theorem w_813 : Cond.instanceMethod ⟨"HeronTalkModel", "round", "()I"⟩ ∈ tbG := tbG_in (List.mem_append_right _ (List.mem_append_right _ (List.mem_append_right _ (List.mem_append_right _ (List.mem_append_right _ (List.mem_append_left _ (List.mem_of_getElem? (l := tables_1_5) (i := 168) rfl))))))) rfl
theorem w_814 : Cond.selects "HeronTalkModel" ⟨"HeronTalkModel", "round", "()I"⟩ ⟨"HeronTalkModel", "round", "()I"⟩ ∈ tbG := tbG_in (List.mem_append_right _ (List.mem_append_right _ (List.mem_append_right _ (List.mem_append_right _ (List.mem_append_right _ (List.mem_append_left _ (List.mem_of_getElem? (l := tables_1_5) (i := 169) rfl))))))) rfl
theorem w_815 : Cond.code ⟨"HeronTalkModel", "market", "()I"⟩ prog_9_method_51_code 3 (some .int) ∈ tbG := tbG_in (List.mem_append_right _ (List.mem_append_right _ (List.mem_append_right _ (List.mem_append_right _ (List.mem_append_right _ (List.mem_append_left _ (List.mem_of_getElem? (l := tables_1_5) (i := 179) rfl))))))) rfl
theorem w_816 : Cond.instanceMethod ⟨"HeronTalkModel", "market", "()I"⟩ ∈ tbG := tbG_in (List.mem_append_right _ (List.mem_append_right _ (List.mem_append_right _ (List.mem_append_right _ (List.mem_append_right _ (List.mem_append_left _ (List.mem_of_getElem? (l := tables_1_5) (i := 177) rfl))))))) rfl
theorem w_817 : Cond.selects "HeronTalkModel" ⟨"HeronTalkModel", "market", "()I"⟩ ⟨"HeronTalkModel", "market", "()I"⟩ ∈ tbG := tbG_in (List.mem_append_right _ (List.mem_append_right _ (List.mem_append_right _ (List.mem_append_right _ (List.mem_append_right _ (List.mem_append_left _ (List.mem_of_getElem? (l := tables_1_5) (i := 178) rfl))))))) rfl
theorem w_818 : Cond.code ⟨"HeronTalkModel", "richest", "()I"⟩ prog_9_method_52_code 3 (some .int) ∈ tbG := tbG_in (List.mem_append_right _ (List.mem_append_right _ (List.mem_append_right _ (List.mem_append_right _ (List.mem_append_right _ (List.mem_append_left _ (List.mem_of_getElem? (l := tables_1_5) (i := 183) rfl))))))) rfl
theorem w_819 : Cond.instanceMethod ⟨"HeronTalkModel", "richest", "()I"⟩ ∈ tbG := tbG_in (List.mem_append_right _ (List.mem_append_right _ (List.mem_append_right _ (List.mem_append_right _ (List.mem_append_right _ (List.mem_append_left _ (List.mem_of_getElem? (l := tables_1_5) (i := 181) rfl))))))) rfl
theorem w_820 : Cond.selects "HeronTalkModel" ⟨"HeronTalkModel", "richest", "()I"⟩ ⟨"HeronTalkModel", "richest", "()I"⟩ ∈ tbG := tbG_in (List.mem_append_right _ (List.mem_append_right _ (List.mem_append_right _ (List.mem_append_right _ (List.mem_append_right _ (List.mem_append_left _ (List.mem_of_getElem? (l := tables_1_5) (i := 182) rfl))))))) rfl
theorem w_821 : Cond.code ⟨"HeronTalkModel", "keepsAhead", "(I)V"⟩ prog_9_method_53_code 3 (none : Option Jvm.ClassFile.FieldType) ∈ tbG := tbG_in (List.mem_append_right _ (List.mem_append_right _ (List.mem_append_right _ (List.mem_append_right _ (List.mem_append_right _ (List.mem_append_left _ (List.mem_of_getElem? (l := tables_1_5) (i := 191) rfl))))))) rfl
theorem w_822 : Cond.instanceMethod ⟨"HeronTalkModel", "keepsAhead", "(I)V"⟩ ∈ tbG := tbG_in (List.mem_append_right _ (List.mem_append_right _ (List.mem_append_right _ (List.mem_append_right _ (List.mem_append_right _ (List.mem_append_left _ (List.mem_of_getElem? (l := tables_1_5) (i := 190) rfl))))))) rfl
theorem w_823 : Cond.selects "HeronTalkModel" ⟨"HeronTalkModel", "keepsAhead", "(I)V"⟩ ⟨"HeronTalkModel", "keepsAhead", "(I)V"⟩ ∈ tbG := tbG_in (List.mem_append_left _ (List.mem_of_getElem? (l := k2_sels lw_privs) (i := 30) rfl)) rfl
theorem w_824 : Cond.code ⟨"HeronTalkModel", "putsBack", "(I)V"⟩ prog_9_method_54_code 3 (none : Option Jvm.ClassFile.FieldType) ∈ tbG := tbG_in (List.mem_append_right _ (List.mem_append_right _ (List.mem_append_right _ (List.mem_append_right _ (List.mem_append_right _ (List.mem_append_left _ (List.mem_of_getElem? (l := tables_1_5) (i := 199) rfl))))))) rfl
theorem w_825 : Cond.instanceMethod ⟨"HeronTalkModel", "putsBack", "(I)V"⟩ ∈ tbG := tbG_in (List.mem_append_right _ (List.mem_append_right _ (List.mem_append_right _ (List.mem_append_right _ (List.mem_append_right _ (List.mem_append_left _ (List.mem_of_getElem? (l := tables_1_5) (i := 198) rfl))))))) rfl
theorem w_826 : Cond.selects "HeronTalkModel" ⟨"HeronTalkModel", "putsBack", "(I)V"⟩ ⟨"HeronTalkModel", "putsBack", "(I)V"⟩ ∈ tbG := tbG_in (List.mem_append_left _ (List.mem_of_getElem? (l := k2_sels lw_privs) (i := 32) rfl)) rfl
theorem w_827 : Cond.methodLink "HeronTalkModel" 201 ⟨"HeronTalkModel", "putsBack", "(I)V"⟩ ∈ tbG := tbG_in (List.mem_append_right _ (List.mem_append_right _ (List.mem_append_right _ (List.mem_append_right _ (List.mem_append_right _ (List.mem_append_left _ (List.mem_of_getElem? (l := tables_1_5) (i := 196) rfl))))))) rfl
theorem w_828 : Cond.methodLink "HeronTalkModel" 197 ⟨"HeronTalkModel", "comesToKnow", "(IIII)Z"⟩ ∈ tbG := tbG_in (List.mem_append_right _ (List.mem_append_right _ (List.mem_append_right _ (List.mem_append_right _ (List.mem_append_right _ (List.mem_append_left _ (List.mem_of_getElem? (l := tables_1_5) (i := 192) rfl))))))) rfl
theorem w_829 : Cond.methodLink "HeronTalkModel" 193 ⟨"HeronTalkModel", "keepsAhead", "(I)V"⟩ ∈ tbG := tbG_in (List.mem_append_right _ (List.mem_append_right _ (List.mem_append_right _ (List.mem_append_right _ (List.mem_append_right _ (List.mem_append_left _ (List.mem_of_getElem? (l := tables_1_5) (i := 188) rfl))))))) rfl
theorem w_830 : Cond.code ⟨"HeronTalkModel", "comesToKnow", "(IIII)Z"⟩ prog_9_method_55_code 6 (some .boolean) ∈ tbG := tbG_in (List.mem_append_right _ (List.mem_append_right _ (List.mem_append_right _ (List.mem_append_right _ (List.mem_append_right _ (List.mem_append_left _ (List.mem_of_getElem? (l := tables_1_5) (i := 195) rfl))))))) rfl
theorem w_831 : Cond.instanceMethod ⟨"HeronTalkModel", "comesToKnow", "(IIII)Z"⟩ ∈ tbG := tbG_in (List.mem_append_right _ (List.mem_append_right _ (List.mem_append_right _ (List.mem_append_right _ (List.mem_append_right _ (List.mem_append_left _ (List.mem_of_getElem? (l := tables_1_5) (i := 194) rfl))))))) rfl
theorem w_832 : Cond.selects "HeronTalkModel" ⟨"HeronTalkModel", "comesToKnow", "(IIII)Z"⟩ ⟨"HeronTalkModel", "comesToKnow", "(IIII)Z"⟩ ∈ tbG := tbG_in (List.mem_append_left _ (List.mem_of_getElem? (l := k2_sels lw_privs) (i := 31) rfl)) rfl
theorem w_833 : Cond.code ⟨"HeronTalkModel", "fewest", "(IIII)I"⟩ prog_9_method_56_code 8 (some .int) ∈ tbG := tbG_in (List.mem_append_right _ (List.mem_append_right _ (List.mem_append_right _ (List.mem_append_right _ (List.mem_append_right _ (List.mem_append_left _ (List.mem_of_getElem? (l := tables_1_5) (i := 187) rfl))))))) rfl
theorem w_834 : Cond.instanceMethod ⟨"HeronTalkModel", "fewest", "(IIII)I"⟩ ∈ tbG := tbG_in (List.mem_append_right _ (List.mem_append_right _ (List.mem_append_right _ (List.mem_append_right _ (List.mem_append_right _ (List.mem_append_left _ (List.mem_of_getElem? (l := tables_1_5) (i := 185) rfl))))))) rfl
theorem w_835 : Cond.selects "HeronTalkModel" ⟨"HeronTalkModel", "fewest", "(IIII)I"⟩ ⟨"HeronTalkModel", "fewest", "(IIII)I"⟩ ∈ tbG := tbG_in (List.mem_append_right _ (List.mem_append_right _ (List.mem_append_right _ (List.mem_append_right _ (List.mem_append_right _ (List.mem_append_left _ (List.mem_of_getElem? (l := tables_1_5) (i := 186) rfl))))))) rfl
theorem w_836 : Cond.code ⟨"HeronTalkModel", "lookOf", "(I)I"⟩ prog_9_method_57_code 4 (some .int) ∈ tbG := tbG_in (List.mem_append_right _ (List.mem_append_right _ (List.mem_append_right _ (List.mem_append_right _ (List.mem_append_right _ (List.mem_append_left _ (List.mem_of_getElem? (l := tables_1_5) (i := 207) rfl))))))) rfl
theorem w_837 : Cond.instanceMethod ⟨"HeronTalkModel", "lookOf", "(I)I"⟩ ∈ tbG := tbG_in (List.mem_append_right _ (List.mem_append_right _ (List.mem_append_right _ (List.mem_append_right _ (List.mem_append_right _ (List.mem_append_left _ (List.mem_of_getElem? (l := tables_1_5) (i := 206) rfl))))))) rfl
theorem w_838 : Cond.selects "HeronTalkModel" ⟨"HeronTalkModel", "lookOf", "(I)I"⟩ ⟨"HeronTalkModel", "lookOf", "(I)I"⟩ ∈ tbG := tbG_in (List.mem_append_left _ (List.mem_of_getElem? (l := k2_sels lw_privs) (i := 33) rfl)) rfl
theorem w_839 : Cond.methodLink "HeronTalkModel" 204 ⟨"HeronTalkModel", "lookOf", "(I)I"⟩ ∈ tbG := tbG_in (List.mem_append_right _ (List.mem_append_right _ (List.mem_append_right _ (List.mem_append_right _ (List.mem_append_right _ (List.mem_append_left _ (List.mem_of_getElem? (l := tables_1_5) (i := 204) rfl))))))) rfl
theorem w_840 : Cond.code ⟨"HeronTalkModel", "look", "(II)I"⟩ prog_9_method_58_code 3 (some .int) ∈ tbG := tbG_in (List.mem_append_right _ (List.mem_append_right _ (List.mem_append_right _ (List.mem_append_right _ (List.mem_append_right _ (List.mem_append_left _ (List.mem_of_getElem? (l := tables_1_5) (i := 203) rfl))))))) rfl
theorem w_841 : Cond.instanceMethod ⟨"HeronTalkModel", "look", "(II)I"⟩ ∈ tbG := tbG_in (List.mem_append_right _ (List.mem_append_right _ (List.mem_append_right _ (List.mem_append_right _ (List.mem_append_right _ (List.mem_append_left _ (List.mem_of_getElem? (l := tables_1_5) (i := 201) rfl))))))) rfl
theorem w_842 : Cond.selects "HeronTalkModel" ⟨"HeronTalkModel", "look", "(II)I"⟩ ⟨"HeronTalkModel", "look", "(II)I"⟩ ∈ tbG := tbG_in (List.mem_append_right _ (List.mem_append_right _ (List.mem_append_right _ (List.mem_append_right _ (List.mem_append_right _ (List.mem_append_left _ (List.mem_of_getElem? (l := tables_1_5) (i := 202) rfl))))))) rfl
theorem w_843 : Cond.code ⟨"HeronTalkModel", "find", "(II)I"⟩ prog_9_method_59_code 3 (some .int) ∈ tbG := tbG_in (List.mem_append_right _ (List.mem_append_right _ (List.mem_append_right _ (List.mem_append_right _ (List.mem_append_right _ (List.mem_append_left _ (List.mem_of_getElem? (l := tables_1_5) (i := 211) rfl))))))) rfl
theorem w_844 : Cond.instanceMethod ⟨"HeronTalkModel", "find", "(II)I"⟩ ∈ tbG := tbG_in (List.mem_append_right _ (List.mem_append_right _ (List.mem_append_right _ (List.mem_append_right _ (List.mem_append_right _ (List.mem_append_left _ (List.mem_of_getElem? (l := tables_1_5) (i := 209) rfl))))))) rfl
theorem w_845 : Cond.selects "HeronTalkModel" ⟨"HeronTalkModel", "find", "(II)I"⟩ ⟨"HeronTalkModel", "find", "(II)I"⟩ ∈ tbG := tbG_in (List.mem_append_right _ (List.mem_append_right _ (List.mem_append_right _ (List.mem_append_right _ (List.mem_append_right _ (List.mem_append_left _ (List.mem_of_getElem? (l := tables_1_5) (i := 210) rfl))))))) rfl
theorem w_846 : Cond.code ⟨"HeronTalkModel", "pricesOf", "(I)I"⟩ prog_9_method_60_code 4 (some .int) ∈ tbG := tbG_in (List.mem_append_right _ (List.mem_append_right _ (List.mem_append_right _ (List.mem_append_right _ (List.mem_append_right _ (List.mem_append_left _ (List.mem_of_getElem? (l := tables_1_5) (i := 219) rfl))))))) rfl
theorem w_847 : Cond.instanceMethod ⟨"HeronTalkModel", "pricesOf", "(I)I"⟩ ∈ tbG := tbG_in (List.mem_append_right _ (List.mem_append_right _ (List.mem_append_right _ (List.mem_append_right _ (List.mem_append_right _ (List.mem_append_left _ (List.mem_of_getElem? (l := tables_1_5) (i := 218) rfl))))))) rfl
theorem w_848 : Cond.selects "HeronTalkModel" ⟨"HeronTalkModel", "pricesOf", "(I)I"⟩ ⟨"HeronTalkModel", "pricesOf", "(I)I"⟩ ∈ tbG := tbG_in (List.mem_append_left _ (List.mem_of_getElem? (l := k2_sels lw_privs) (i := 34) rfl)) rfl
theorem w_849 : Cond.methodLink "HeronTalkModel" 207 ⟨"HeronTalkModel", "pricesOf", "(I)I"⟩ ∈ tbG := tbG_in (List.mem_append_right _ (List.mem_append_right _ (List.mem_append_right _ (List.mem_append_right _ (List.mem_append_right _ (List.mem_append_left _ (List.mem_of_getElem? (l := tables_1_5) (i := 216) rfl))))))) rfl
theorem w_850 : Cond.code ⟨"HeronTalkModel", "keepsBack", "(I)I"⟩ prog_9_method_61_code 6 (some .int) ∈ tbG := tbG_in (List.mem_append_right _ (List.mem_append_right _ (List.mem_append_right _ (List.mem_append_right _ (List.mem_append_right _ (List.mem_append_left _ (List.mem_of_getElem? (l := tables_1_5) (i := 215) rfl))))))) rfl
theorem w_851 : Cond.instanceMethod ⟨"HeronTalkModel", "keepsBack", "(I)I"⟩ ∈ tbG := tbG_in (List.mem_append_right _ (List.mem_append_right _ (List.mem_append_right _ (List.mem_append_right _ (List.mem_append_right _ (List.mem_append_left _ (List.mem_of_getElem? (l := tables_1_5) (i := 213) rfl))))))) rfl
theorem w_852 : Cond.selects "HeronTalkModel" ⟨"HeronTalkModel", "keepsBack", "(I)I"⟩ ⟨"HeronTalkModel", "keepsBack", "(I)I"⟩ ∈ tbG := tbG_in (List.mem_append_right _ (List.mem_append_right _ (List.mem_append_right _ (List.mem_append_right _ (List.mem_append_right _ (List.mem_append_left _ (List.mem_of_getElem? (l := tables_1_5) (i := 214) rfl))))))) rfl
theorem w_853 : Cond.code ⟨"HeronTalkModel", "fine", "()I"⟩ prog_9_method_62_code 2 (some .int) ∈ tbG := tbG_in (List.mem_append_right _ (List.mem_append_right _ (List.mem_append_right _ (List.mem_append_right _ (List.mem_append_right _ (List.mem_append_left _ (List.mem_of_getElem? (l := tables_1_5) (i := 223) rfl))))))) rfl
theorem w_854 : Cond.instanceMethod ⟨"HeronTalkModel", "fine", "()I"⟩ ∈ tbG := tbG_in (List.mem_append_right _ (List.mem_append_right _ (List.mem_append_right _ (List.mem_append_right _ (List.mem_append_right _ (List.mem_append_left _ (List.mem_of_getElem? (l := tables_1_5) (i := 221) rfl))))))) rfl
theorem w_855 : Cond.selects "HeronTalkModel" ⟨"HeronTalkModel", "fine", "()I"⟩ ⟨"HeronTalkModel", "fine", "()I"⟩ ∈ tbG := tbG_in (List.mem_append_right _ (List.mem_append_right _ (List.mem_append_right _ (List.mem_append_right _ (List.mem_append_right _ (List.mem_append_left _ (List.mem_of_getElem? (l := tables_1_5) (i := 222) rfl))))))) rfl
theorem w_856 : Cond.fieldLink "HeronTalkModel" 210 "HeronTalkModel" "taped" "I" ∈ tbG := tbG_in (List.mem_append_right _ (List.mem_append_right _ (List.mem_append_right _ (List.mem_append_right _ (List.mem_append_left _ (List.mem_of_getElem? (l := tables_1_4) (i := 114) rfl)))))) rfl
theorem w_857 : Cond.code ⟨"HeronTalkModel", "feed", "(III)I"⟩ prog_9_method_63_code 6 (some .int) ∈ tbG := tbG_in (List.mem_append_right _ (List.mem_append_right _ (List.mem_append_right _ (List.mem_append_right _ (List.mem_append_right _ (List.mem_append_left _ (List.mem_of_getElem? (l := tables_1_5) (i := 227) rfl))))))) rfl
theorem w_858 : Cond.instanceMethod ⟨"HeronTalkModel", "feed", "(III)I"⟩ ∈ tbG := tbG_in (List.mem_append_right _ (List.mem_append_right _ (List.mem_append_right _ (List.mem_append_right _ (List.mem_append_right _ (List.mem_append_left _ (List.mem_of_getElem? (l := tables_1_5) (i := 225) rfl))))))) rfl
theorem w_859 : Cond.selects "HeronTalkModel" ⟨"HeronTalkModel", "feed", "(III)I"⟩ ⟨"HeronTalkModel", "feed", "(III)I"⟩ ∈ tbG := tbG_in (List.mem_append_right _ (List.mem_append_right _ (List.mem_append_right _ (List.mem_append_right _ (List.mem_append_right _ (List.mem_append_left _ (List.mem_of_getElem? (l := tables_1_5) (i := 226) rfl))))))) rfl
theorem w_860 : Cond.code ⟨"HeronTalkModel", "trim", "(I)I"⟩ prog_9_method_64_code 2 (some .int) ∈ tbG := tbG_in (List.mem_append_right _ (List.mem_append_right _ (List.mem_append_right _ (List.mem_append_right _ (List.mem_append_right _ (List.mem_append_left _ (List.mem_of_getElem? (l := tables_1_5) (i := 231) rfl))))))) rfl
theorem w_861 : Cond.instanceMethod ⟨"HeronTalkModel", "trim", "(I)I"⟩ ∈ tbG := tbG_in (List.mem_append_right _ (List.mem_append_right _ (List.mem_append_right _ (List.mem_append_right _ (List.mem_append_right _ (List.mem_append_left _ (List.mem_of_getElem? (l := tables_1_5) (i := 229) rfl))))))) rfl
theorem w_862 : Cond.selects "HeronTalkModel" ⟨"HeronTalkModel", "trim", "(I)I"⟩ ⟨"HeronTalkModel", "trim", "(I)I"⟩ ∈ tbG := tbG_in (List.mem_append_right _ (List.mem_append_right _ (List.mem_append_right _ (List.mem_append_right _ (List.mem_append_right _ (List.mem_append_left _ (List.mem_of_getElem? (l := tables_1_5) (i := 230) rfl))))))) rfl
theorem w_863 : Cond.code ⟨"HeronTalkModel", "isLetter", "(I)Z"⟩ prog_9_method_65_code 2 (some .boolean) ∈ tbG := tbG_in (List.mem_append_right _ (List.mem_append_right _ (List.mem_append_right _ (List.mem_append_right _ (List.mem_append_right _ (List.mem_append_right _ (List.mem_of_getElem? (l := tables_1_6) (i := 3) rfl))))))) rfl
theorem w_864 : Cond.instanceMethod ⟨"HeronTalkModel", "isLetter", "(I)Z"⟩ ∈ tbG := tbG_in (List.mem_append_right _ (List.mem_append_right _ (List.mem_append_right _ (List.mem_append_right _ (List.mem_append_right _ (List.mem_append_right _ (List.mem_of_getElem? (l := tables_1_6) (i := 2) rfl))))))) rfl
theorem w_865 : Cond.selects "HeronTalkModel" ⟨"HeronTalkModel", "isLetter", "(I)Z"⟩ ⟨"HeronTalkModel", "isLetter", "(I)Z"⟩ ∈ tbG := tbG_in (List.mem_append_left _ (List.mem_of_getElem? (l := k2_sels lw_privs) (i := 36) rfl)) rfl
theorem w_866 : Cond.code ⟨"HeronTalkModel", "isFigure", "(I)Z"⟩ prog_9_method_66_code 2 (some .boolean) ∈ tbG := tbG_in (List.mem_append_right _ (List.mem_append_right _ (List.mem_append_right _ (List.mem_append_right _ (List.mem_append_right _ (List.mem_append_right _ (List.mem_of_getElem? (l := tables_1_6) (i := 7) rfl))))))) rfl
theorem w_867 : Cond.instanceMethod ⟨"HeronTalkModel", "isFigure", "(I)Z"⟩ ∈ tbG := tbG_in (List.mem_append_right _ (List.mem_append_right _ (List.mem_append_right _ (List.mem_append_right _ (List.mem_append_right _ (List.mem_append_right _ (List.mem_of_getElem? (l := tables_1_6) (i := 6) rfl))))))) rfl
theorem w_868 : Cond.selects "HeronTalkModel" ⟨"HeronTalkModel", "isFigure", "(I)Z"⟩ ⟨"HeronTalkModel", "isFigure", "(I)Z"⟩ ∈ tbG := tbG_in (List.mem_append_left _ (List.mem_of_getElem? (l := k2_sels lw_privs) (i := 37) rfl)) rfl
theorem w_869 : Cond.fieldLink "HeronTalkModel" 220 "HeronTalkModel" "ended" "I" ∈ tbG := tbG_in (List.mem_append_right _ (List.mem_append_right _ (List.mem_append_right _ (List.mem_append_right _ (List.mem_append_left _ (List.mem_of_getElem? (l := tables_1_4) (i := 119) rfl)))))) rfl
theorem w_870 : Cond.fieldLink "HeronTalkModel" 214 "HeronTalkModel" "next" "I" ∈ tbG := tbG_in (List.mem_append_right _ (List.mem_append_right _ (List.mem_append_right _ (List.mem_append_right _ (List.mem_append_left _ (List.mem_of_getElem? (l := tables_1_4) (i := 115) rfl)))))) rfl
theorem w_871 : Cond.fieldLink "HeronTalkModel" 223 "HeronTalkModel" "token" "I" ∈ tbG := tbG_in (List.mem_append_right _ (List.mem_append_right _ (List.mem_append_right _ (List.mem_append_right _ (List.mem_append_left _ (List.mem_of_getElem? (l := tables_1_4) (i := 117) rfl)))))) rfl
theorem w_872 : Cond.fieldLink "HeronTalkModel" 229 "HeronTalkModel" "value" "I" ∈ tbG := tbG_in (List.mem_append_right _ (List.mem_append_right _ (List.mem_append_right _ (List.mem_append_right _ (List.mem_append_left _ (List.mem_of_getElem? (l := tables_1_4) (i := 118) rfl)))))) rfl
theorem w_873 : Cond.fieldLink "HeronTalkModel" 217 "HeronTalkModel" "from" "I" ∈ tbG := tbG_in (List.mem_append_right _ (List.mem_append_right _ (List.mem_append_right _ (List.mem_append_right _ (List.mem_append_left _ (List.mem_of_getElem? (l := tables_1_4) (i := 116) rfl)))))) rfl
theorem w_874 : Cond.methodLink "HeronTalkModel" 232 ⟨"HeronTalkModel", "isFigure", "(I)Z"⟩ ∈ tbG := tbG_in (List.mem_append_right _ (List.mem_append_right _ (List.mem_append_right _ (List.mem_append_right _ (List.mem_append_right _ (List.mem_append_right _ (List.mem_of_getElem? (l := tables_1_6) (i := 4) rfl))))))) rfl
theorem w_875 : Cond.methodLink "HeronTalkModel" 226 ⟨"HeronTalkModel", "isLetter", "(I)Z"⟩ ∈ tbG := tbG_in (List.mem_append_right _ (List.mem_append_right _ (List.mem_append_right _ (List.mem_append_right _ (List.mem_append_right _ (List.mem_append_right _ (List.mem_of_getElem? (l := tables_1_6) (i := 0) rfl))))))) rfl
theorem w_876 : Cond.code ⟨"HeronTalkModel", "go", "()V"⟩ prog_9_method_67_code 2 (none : Option Jvm.ClassFile.FieldType) ∈ tbG := tbG_in (List.mem_append_right _ (List.mem_append_right _ (List.mem_append_right _ (List.mem_append_right _ (List.mem_append_right _ (List.mem_append_left _ (List.mem_of_getElem? (l := tables_1_5) (i := 239) rfl))))))) rfl
theorem w_877 : Cond.instanceMethod ⟨"HeronTalkModel", "go", "()V"⟩ ∈ tbG := tbG_in (List.mem_append_right _ (List.mem_append_right _ (List.mem_append_right _ (List.mem_append_right _ (List.mem_append_right _ (List.mem_append_left _ (List.mem_of_getElem? (l := tables_1_5) (i := 238) rfl))))))) rfl
theorem w_878 : Cond.selects "HeronTalkModel" ⟨"HeronTalkModel", "go", "()V"⟩ ⟨"HeronTalkModel", "go", "()V"⟩ ∈ tbG := tbG_in (List.mem_append_left _ (List.mem_of_getElem? (l := k2_sels lw_privs) (i := 35) rfl)) rfl
theorem w_879 : Cond.methodLink "HeronTalkModel" 238 ⟨"HeronTalkModel", "go", "()V"⟩ ∈ tbG := tbG_in (List.mem_append_right _ (List.mem_append_right _ (List.mem_append_right _ (List.mem_append_right _ (List.mem_append_right _ (List.mem_append_left _ (List.mem_of_getElem? (l := tables_1_5) (i := 236) rfl))))))) rfl
theorem w_880 : Cond.fieldLink "HeronTalkModel" 235 "HeronTalkModel" "key" "I" ∈ tbG := tbG_in (List.mem_append_right _ (List.mem_append_right _ (List.mem_append_right _ (List.mem_append_right _ (List.mem_append_left _ (List.mem_of_getElem? (l := tables_1_4) (i := 120) rfl)))))) rfl
theorem w_881 : Cond.code ⟨"HeronTalkModel", "takesKey", "()Z"⟩ prog_9_method_68_code 5 (some .boolean) ∈ tbG := tbG_in (List.mem_append_right _ (List.mem_append_right _ (List.mem_append_right _ (List.mem_append_right _ (List.mem_append_right _ (List.mem_append_right _ (List.mem_of_getElem? (l := tables_1_6) (i := 11) rfl))))))) rfl
theorem w_882 : Cond.instanceMethod ⟨"HeronTalkModel", "takesKey", "()Z"⟩ ∈ tbG := tbG_in (List.mem_append_right _ (List.mem_append_right _ (List.mem_append_right _ (List.mem_append_right _ (List.mem_append_right _ (List.mem_append_right _ (List.mem_of_getElem? (l := tables_1_6) (i := 10) rfl))))))) rfl
theorem w_883 : Cond.selects "HeronTalkModel" ⟨"HeronTalkModel", "takesKey", "()Z"⟩ ⟨"HeronTalkModel", "takesKey", "()Z"⟩ ∈ tbG := tbG_in (List.mem_append_left _ (List.mem_of_getElem? (l := k2_sels lw_privs) (i := 38) rfl)) rfl
theorem w_884 : Cond.code ⟨"HeronTalkModel", "nameOf", "(I)I"⟩ prog_9_method_69_code 2 (some .int) ∈ tbG := tbG_in (List.mem_append_right _ (List.mem_append_right _ (List.mem_append_right _ (List.mem_append_right _ (List.mem_append_right _ (List.mem_append_right _ (List.mem_of_getElem? (l := tables_1_6) (i := 23) rfl))))))) rfl
theorem w_885 : Cond.instanceMethod ⟨"HeronTalkModel", "nameOf", "(I)I"⟩ ∈ tbG := tbG_in (List.mem_append_right _ (List.mem_append_right _ (List.mem_append_right _ (List.mem_append_right _ (List.mem_append_right _ (List.mem_append_right _ (List.mem_of_getElem? (l := tables_1_6) (i := 22) rfl))))))) rfl
theorem w_886 : Cond.selects "HeronTalkModel" ⟨"HeronTalkModel", "nameOf", "(I)I"⟩ ⟨"HeronTalkModel", "nameOf", "(I)I"⟩ ∈ tbG := tbG_in (List.mem_append_left _ (List.mem_of_getElem? (l := k2_sels lw_privs) (i := 41) rfl)) rfl
theorem w_887 : Cond.code ⟨"HeronTalkModel", "rank", "(I)I"⟩ prog_9_method_70_code 1 (some .int) ∈ tbG := tbG_in (List.mem_append_right _ (List.mem_append_right _ (List.mem_append_right _ (List.mem_append_right _ (List.mem_append_right _ (List.mem_append_right _ (List.mem_of_getElem? (l := tables_1_6) (i := 30) rfl))))))) rfl
theorem w_888 : Cond.static ⟨"HeronTalkModel", "rank", "(I)I"⟩ ∈ tbG := tbG_in (List.mem_append_right _ (List.mem_append_right _ (List.mem_append_right _ (List.mem_append_right _ (List.mem_append_right _ (List.mem_append_right _ (List.mem_of_getElem? (l := tables_1_6) (i := 29) rfl))))))) rfl
theorem w_889 : Cond.fieldLink "HeronTalkModel" 247 "HeronTalkModel" "codes" "I" ∈ tbG := tbG_in (List.mem_append_right _ (List.mem_append_right _ (List.mem_append_right _ (List.mem_append_right _ (List.mem_append_left _ (List.mem_of_getElem? (l := tables_1_4) (i := 124) rfl)))))) rfl
theorem w_890 : Cond.fieldLink "HeronTalkModel" 241 "HeronTalkModel" "held" "I" ∈ tbG := tbG_in (List.mem_append_right _ (List.mem_append_right _ (List.mem_append_right _ (List.mem_append_right _ (List.mem_append_left _ (List.mem_of_getElem? (l := tables_1_4) (i := 127) rfl)))))) rfl
theorem w_891 : Cond.methodLink "HeronTalkModel" 244 ⟨"HeronTalkModel", "rank", "(I)I"⟩ ∈ tbG := tbG_in (List.mem_append_right _ (List.mem_append_right _ (List.mem_append_right _ (List.mem_append_right _ (List.mem_append_right _ (List.mem_append_right _ (List.mem_of_getElem? (l := tables_1_6) (i := 28) rfl))))))) rfl
theorem w_892 : Cond.code ⟨"HeronTalkModel", "settle", "(I)V"⟩ prog_9_method_71_code 2 (none : Option Jvm.ClassFile.FieldType) ∈ tbG := tbG_in (List.mem_append_right _ (List.mem_append_right _ (List.mem_append_right _ (List.mem_append_right _ (List.mem_append_right _ (List.mem_append_right _ (List.mem_of_getElem? (l := tables_1_6) (i := 27) rfl))))))) rfl
theorem w_893 : Cond.instanceMethod ⟨"HeronTalkModel", "settle", "(I)V"⟩ ∈ tbG := tbG_in (List.mem_append_right _ (List.mem_append_right _ (List.mem_append_right _ (List.mem_append_right _ (List.mem_append_right _ (List.mem_append_right _ (List.mem_of_getElem? (l := tables_1_6) (i := 26) rfl))))))) rfl
theorem w_894 : Cond.selects "HeronTalkModel" ⟨"HeronTalkModel", "settle", "(I)V"⟩ ⟨"HeronTalkModel", "settle", "(I)V"⟩ ∈ tbG := tbG_in (List.mem_append_left _ (List.mem_of_getElem? (l := k2_sels lw_privs) (i := 42) rfl)) rfl
theorem w_895 : Cond.code ⟨"HeronTalkModel", "signHere", "()I"⟩ prog_9_method_72_code 1 (some .int) ∈ tbG := tbG_in (List.mem_append_right _ (List.mem_append_right _ (List.mem_append_right _ (List.mem_append_right _ (List.mem_append_right _ (List.mem_append_right _ (List.mem_of_getElem? (l := tables_1_6) (i := 38) rfl))))))) rfl
theorem w_896 : Cond.instanceMethod ⟨"HeronTalkModel", "signHere", "()I"⟩ ∈ tbG := tbG_in (List.mem_append_right _ (List.mem_append_right _ (List.mem_append_right _ (List.mem_append_right _ (List.mem_append_right _ (List.mem_append_right _ (List.mem_of_getElem? (l := tables_1_6) (i := 37) rfl))))))) rfl
theorem w_897 : Cond.selects "HeronTalkModel" ⟨"HeronTalkModel", "signHere", "()I"⟩ ⟨"HeronTalkModel", "signHere", "()I"⟩ ∈ tbG := tbG_in (List.mem_append_left _ (List.mem_of_getElem? (l := k2_sels lw_privs) (i := 44) rfl)) rfl
theorem w_898 : Cond.methodLink "HeronTalkModel" 256 ⟨"HeronTalkModel", "settle", "(I)V"⟩ ∈ tbG := tbG_in (List.mem_append_right _ (List.mem_append_right _ (List.mem_append_right _ (List.mem_append_right _ (List.mem_append_right _ (List.mem_append_right _ (List.mem_of_getElem? (l := tables_1_6) (i := 24) rfl))))))) rfl
theorem w_899 : Cond.fieldLink "HeronTalkModel" 253 "HeronTalkModel" "atoms" "I" ∈ tbG := tbG_in (List.mem_append_right _ (List.mem_append_right _ (List.mem_append_right _ (List.mem_append_right _ (List.mem_append_left _ (List.mem_of_getElem? (l := tables_1_4) (i := 125) rfl)))))) rfl
theorem w_900 : Cond.methodLink "HeronTalkModel" 250 ⟨"HeronTalkModel", "nameOf", "(I)I"⟩ ∈ tbG := tbG_in (List.mem_append_right _ (List.mem_append_right _ (List.mem_append_right _ (List.mem_append_right _ (List.mem_append_right _ (List.mem_append_right _ (List.mem_of_getElem? (l := tables_1_6) (i := 20) rfl))))))) rfl
theorem w_901 : Cond.code ⟨"HeronTalkModel", "takesPart", "()Z"⟩ prog_9_method_73_code 2 (some .boolean) ∈ tbG := tbG_in (List.mem_append_right _ (List.mem_append_right _ (List.mem_append_right _ (List.mem_append_right _ (List.mem_append_right _ (List.mem_append_right _ (List.mem_of_getElem? (l := tables_1_6) (i := 19) rfl))))))) rfl
theorem w_902 : Cond.instanceMethod ⟨"HeronTalkModel", "takesPart", "()Z"⟩ ∈ tbG := tbG_in (List.mem_append_right _ (List.mem_append_right _ (List.mem_append_right _ (List.mem_append_right _ (List.mem_append_right _ (List.mem_append_right _ (List.mem_of_getElem? (l := tables_1_6) (i := 18) rfl))))))) rfl
theorem w_903 : Cond.selects "HeronTalkModel" ⟨"HeronTalkModel", "takesPart", "()Z"⟩ ⟨"HeronTalkModel", "takesPart", "()Z"⟩ ∈ tbG := tbG_in (List.mem_append_left _ (List.mem_of_getElem? (l := k2_sels lw_privs) (i := 40) rfl)) rfl
theorem w_904 : Cond.code ⟨"HeronTalkModel", "notsOpen", "()I"⟩ prog_9_method_75_code 3 (some .int) ∈ tbG := tbG_in (List.mem_append_right _ (List.mem_append_right _ (List.mem_append_right _ (List.mem_append_right _ (List.mem_append_right _ (List.mem_append_right _ (List.mem_of_getElem? (l := tables_1_6) (i := 34) rfl))))))) rfl
theorem w_905 : Cond.instanceMethod ⟨"HeronTalkModel", "notsOpen", "()I"⟩ ∈ tbG := tbG_in (List.mem_append_right _ (List.mem_append_right _ (List.mem_append_right _ (List.mem_append_right _ (List.mem_append_right _ (List.mem_append_right _ (List.mem_of_getElem? (l := tables_1_6) (i := 33) rfl))))))) rfl
theorem w_906 : Cond.selects "HeronTalkModel" ⟨"HeronTalkModel", "notsOpen", "()I"⟩ ⟨"HeronTalkModel", "notsOpen", "()I"⟩ ∈ tbG := tbG_in (List.mem_append_left _ (List.mem_of_getElem? (l := k2_sels lw_privs) (i := 43) rfl)) rfl
theorem w_907 : Cond.methodLink "HeronTalkModel" 266 ⟨"HeronTalkModel", "signHere", "()I"⟩ ∈ tbG := tbG_in (List.mem_append_right _ (List.mem_append_right _ (List.mem_append_right _ (List.mem_append_right _ (List.mem_append_right _ (List.mem_append_right _ (List.mem_of_getElem? (l := tables_1_6) (i := 35) rfl))))))) rfl
theorem w_908 : Cond.methodLink "HeronTalkModel" 263 ⟨"HeronTalkModel", "notsOpen", "()I"⟩ ∈ tbG := tbG_in (List.mem_append_right _ (List.mem_append_right _ (List.mem_append_right _ (List.mem_append_right _ (List.mem_append_right _ (List.mem_append_right _ (List.mem_of_getElem? (l := tables_1_6) (i := 31) rfl))))))) rfl
theorem w_909 : Cond.methodLink "HeronTalkModel" 259 ⟨"HeronTalkModel", "takesPart", "()Z"⟩ ∈ tbG := tbG_in (List.mem_append_right _ (List.mem_append_right _ (List.mem_append_right _ (List.mem_append_right _ (List.mem_append_right _ (List.mem_append_right _ (List.mem_of_getElem? (l := tables_1_6) (i := 16) rfl))))))) rfl
theorem w_910 : Cond.code ⟨"HeronTalkModel", "takesE", "()Z"⟩ prog_9_method_74_code 5 (some .boolean) ∈ tbG := tbG_in (List.mem_append_right _ (List.mem_append_right _ (List.mem_append_right _ (List.mem_append_right _ (List.mem_append_right _ (List.mem_append_right _ (List.mem_of_getElem? (l := tables_1_6) (i := 15) rfl))))))) rfl
theorem w_911 : Cond.instanceMethod ⟨"HeronTalkModel", "takesE", "()Z"⟩ ∈ tbG := tbG_in (List.mem_append_right _ (List.mem_append_right _ (List.mem_append_right _ (List.mem_append_right _ (List.mem_append_right _ (List.mem_append_right _ (List.mem_of_getElem? (l := tables_1_6) (i := 14) rfl))))))) rfl
theorem w_912 : Cond.selects "HeronTalkModel" ⟨"HeronTalkModel", "takesE", "()Z"⟩ ⟨"HeronTalkModel", "takesE", "()Z"⟩ ∈ tbG := tbG_in (List.mem_append_left _ (List.mem_of_getElem? (l := k2_sels lw_privs) (i := 39) rfl)) rfl
theorem w_913 : Cond.methodLink "HeronTalkModel" 272 ⟨"HeronTalkModel", "takesE", "()Z"⟩ ∈ tbG := tbG_in (List.mem_append_right _ (List.mem_append_right _ (List.mem_append_right _ (List.mem_append_right _ (List.mem_append_right _ (List.mem_append_right _ (List.mem_of_getElem? (l := tables_1_6) (i := 12) rfl))))))) rfl
theorem w_914 : Cond.methodLink "HeronTalkModel" 269 ⟨"HeronTalkModel", "takesKey", "()Z"⟩ ∈ tbG := tbG_in (List.mem_append_right _ (List.mem_append_right _ (List.mem_append_right _ (List.mem_append_right _ (List.mem_append_right _ (List.mem_append_right _ (List.mem_of_getElem? (l := tables_1_6) (i := 8) rfl))))))) rfl
theorem w_915 : Cond.code ⟨"HeronTalkModel", "text", "()I"⟩ prog_9_method_76_code 4 (some .int) ∈ tbG := tbG_in (List.mem_append_right _ (List.mem_append_right _ (List.mem_append_right _ (List.mem_append_right _ (List.mem_append_right _ (List.mem_append_left _ (List.mem_of_getElem? (l := tables_1_5) (i := 235) rfl))))))) rfl
theorem w_916 : Cond.instanceMethod ⟨"HeronTalkModel", "text", "()I"⟩ ∈ tbG := tbG_in (List.mem_append_right _ (List.mem_append_right _ (List.mem_append_right _ (List.mem_append_right _ (List.mem_append_right _ (List.mem_append_left _ (List.mem_of_getElem? (l := tables_1_5) (i := 233) rfl))))))) rfl
theorem w_917 : Cond.selects "HeronTalkModel" ⟨"HeronTalkModel", "text", "()I"⟩ ⟨"HeronTalkModel", "text", "()I"⟩ ∈ tbG := tbG_in (List.mem_append_right _ (List.mem_append_right _ (List.mem_append_right _ (List.mem_append_right _ (List.mem_append_right _ (List.mem_append_left _ (List.mem_of_getElem? (l := tables_1_5) (i := 234) rfl))))))) rfl
theorem w_918 : Cond.code ⟨"HeronTalkModel", "textTold", "(II)I"⟩ prog_9_method_77_code 3 (some .int) ∈ tbG := tbG_in (List.mem_append_right _ (List.mem_append_right _ (List.mem_append_right _ (List.mem_append_right _ (List.mem_append_right _ (List.mem_append_right _ (List.mem_of_getElem? (l := tables_1_6) (i := 42) rfl))))))) rfl
theorem w_919 : Cond.instanceMethod ⟨"HeronTalkModel", "textTold", "(II)I"⟩ ∈ tbG := tbG_in (List.mem_append_right _ (List.mem_append_right _ (List.mem_append_right _ (List.mem_append_right _ (List.mem_append_right _ (List.mem_append_right _ (List.mem_of_getElem? (l := tables_1_6) (i := 40) rfl))))))) rfl
theorem w_920 : Cond.selects "HeronTalkModel" ⟨"HeronTalkModel", "textTold", "(II)I"⟩ ⟨"HeronTalkModel", "textTold", "(II)I"⟩ ∈ tbG := tbG_in (List.mem_append_right _ (List.mem_append_right _ (List.mem_append_right _ (List.mem_append_right _ (List.mem_append_right _ (List.mem_append_right _ (List.mem_of_getElem? (l := tables_1_6) (i := 41) rfl))))))) rfl
theorem w_921 : Cond.code ⟨"HeronTalkModel", "why", "(I)I"⟩ prog_9_method_79_code 3 (some .int) ∈ tbG := tbG_in (List.mem_append_right _ (List.mem_append_right _ (List.mem_append_right _ (List.mem_append_right _ (List.mem_append_right _ (List.mem_append_right _ (List.mem_of_getElem? (l := tables_1_6) (i := 46) rfl))))))) rfl
theorem w_922 : Cond.instanceMethod ⟨"HeronTalkModel", "why", "(I)I"⟩ ∈ tbG := tbG_in (List.mem_append_right _ (List.mem_append_right _ (List.mem_append_right _ (List.mem_append_right _ (List.mem_append_right _ (List.mem_append_right _ (List.mem_of_getElem? (l := tables_1_6) (i := 44) rfl))))))) rfl
theorem w_923 : Cond.selects "HeronTalkModel" ⟨"HeronTalkModel", "why", "(I)I"⟩ ⟨"HeronTalkModel", "why", "(I)I"⟩ ∈ tbG := tbG_in (List.mem_append_right _ (List.mem_append_right _ (List.mem_append_right _ (List.mem_append_right _ (List.mem_append_right _ (List.mem_append_right _ (List.mem_of_getElem? (l := tables_1_6) (i := 45) rfl))))))) rfl
theorem w_924 : Cond.code ⟨"HeronTalkModel", "isSheet", "(I)Z"⟩ prog_9_method_82_code 1 (some .boolean) ∈ tbG := tbG_in (List.mem_append_right _ (List.mem_append_right _ (List.mem_append_right _ (List.mem_append_right _ (List.mem_append_right _ (List.mem_append_right _ (List.mem_of_getElem? (l := tables_1_6) (i := 53) rfl))))))) rfl
theorem w_925 : Cond.static ⟨"HeronTalkModel", "isSheet", "(I)Z"⟩ ∈ tbG := tbG_in (List.mem_append_right _ (List.mem_append_right _ (List.mem_append_right _ (List.mem_append_right _ (List.mem_append_right _ (List.mem_append_right _ (List.mem_of_getElem? (l := tables_1_6) (i := 52) rfl))))))) rfl
theorem w_926 : Cond.code ⟨"HeronTalkModel", "isSlot", "(I)Z"⟩ prog_9_method_83_code 1 (some .boolean) ∈ tbG := tbG_in (List.mem_append_right _ (List.mem_append_right _ (List.mem_append_right _ (List.mem_append_right _ (List.mem_append_right _ (List.mem_append_right _ (List.mem_of_getElem? (l := tables_1_6) (i := 81) rfl))))))) rfl
theorem w_927 : Cond.static ⟨"HeronTalkModel", "isSlot", "(I)Z"⟩ ∈ tbG := tbG_in (List.mem_append_right _ (List.mem_append_right _ (List.mem_append_right _ (List.mem_append_right _ (List.mem_append_right _ (List.mem_append_right _ (List.mem_of_getElem? (l := tables_1_6) (i := 80) rfl))))))) rfl
theorem w_928 : Cond.constant "HeronTalkModel" 281 (-1000000014) ∈ tbG := tbG_in (List.mem_append_right _ (List.mem_append_right _ (List.mem_append_right _ (List.mem_append_right _ (List.mem_append_right _ (List.mem_append_right _ (List.mem_of_getElem? (l := tables_1_6) (i := 54) rfl))))))) rfl
theorem w_929 : Cond.methodLink "HeronTalkModel" 278 ⟨"HeronTalkModel", "isSheet", "(I)Z"⟩ ∈ tbG := tbG_in (List.mem_append_right _ (List.mem_append_right _ (List.mem_append_right _ (List.mem_append_right _ (List.mem_append_right _ (List.mem_append_right _ (List.mem_of_getElem? (l := tables_1_6) (i := 51) rfl))))))) rfl
theorem w_930 : Cond.code ⟨"HeronTalkModel", "sheet", "(III)I"⟩ prog_9_method_84_code 5 (some .int) ∈ tbG := tbG_in (List.mem_append_right _ (List.mem_append_right _ (List.mem_append_right _ (List.mem_append_right _ (List.mem_append_right _ (List.mem_append_right _ (List.mem_of_getElem? (l := tables_1_6) (i := 50) rfl))))))) rfl
theorem w_931 : Cond.instanceMethod ⟨"HeronTalkModel", "sheet", "(III)I"⟩ ∈ tbG := tbG_in (List.mem_append_right _ (List.mem_append_right _ (List.mem_append_right _ (List.mem_append_right _ (List.mem_append_right _ (List.mem_append_right _ (List.mem_of_getElem? (l := tables_1_6) (i := 48) rfl))))))) rfl
theorem w_932 : Cond.selects "HeronTalkModel" ⟨"HeronTalkModel", "sheet", "(III)I"⟩ ⟨"HeronTalkModel", "sheet", "(III)I"⟩ ∈ tbG := tbG_in (List.mem_append_right _ (List.mem_append_right _ (List.mem_append_right _ (List.mem_append_right _ (List.mem_append_right _ (List.mem_append_right _ (List.mem_of_getElem? (l := tables_1_6) (i := 49) rfl))))))) rfl
theorem w_933 : Cond.constant "HeronTalkModel" 285 99999 ∈ tbG := tbG_in (List.mem_append_right _ (List.mem_append_right _ (List.mem_append_right _ (List.mem_append_right _ (List.mem_append_right _ (List.mem_append_right _ (List.mem_of_getElem? (l := tables_1_6) (i := 62) rfl))))))) rfl
theorem w_934 : Cond.constant "HeronTalkModel" 284 (-99999) ∈ tbG := tbG_in (List.mem_append_right _ (List.mem_append_right _ (List.mem_append_right _ (List.mem_append_right _ (List.mem_append_right _ (List.mem_append_right _ (List.mem_of_getElem? (l := tables_1_6) (i := 61) rfl))))))) rfl
theorem w_935 : Cond.constant "HeronTalkModel" 283 (-1000000013) ∈ tbG := tbG_in (List.mem_append_right _ (List.mem_append_right _ (List.mem_append_right _ (List.mem_append_right _ (List.mem_append_right _ (List.mem_append_right _ (List.mem_of_getElem? (l := tables_1_6) (i := 60) rfl))))))) rfl
theorem w_936 : Cond.constant "HeronTalkModel" 282 (-1000000011) ∈ tbG := tbG_in (List.mem_append_right _ (List.mem_append_right _ (List.mem_append_right _ (List.mem_append_right _ (List.mem_append_right _ (List.mem_append_right _ (List.mem_of_getElem? (l := tables_1_6) (i := 59) rfl))))))) rfl
theorem w_937 : Cond.code ⟨"HeronTalkModel", "mark", "(III)I"⟩ prog_9_method_85_code 4 (some .int) ∈ tbG := tbG_in (List.mem_append_right _ (List.mem_append_right _ (List.mem_append_right _ (List.mem_append_right _ (List.mem_append_right _ (List.mem_append_right _ (List.mem_of_getElem? (l := tables_1_6) (i := 58) rfl))))))) rfl
theorem w_938 : Cond.instanceMethod ⟨"HeronTalkModel", "mark", "(III)I"⟩ ∈ tbG := tbG_in (List.mem_append_right _ (List.mem_append_right _ (List.mem_append_right _ (List.mem_append_right _ (List.mem_append_right _ (List.mem_append_right _ (List.mem_of_getElem? (l := tables_1_6) (i := 56) rfl))))))) rfl
theorem w_939 : Cond.selects "HeronTalkModel" ⟨"HeronTalkModel", "mark", "(III)I"⟩ ⟨"HeronTalkModel", "mark", "(III)I"⟩ ∈ tbG := tbG_in (List.mem_append_right _ (List.mem_append_right _ (List.mem_append_right _ (List.mem_append_right _ (List.mem_append_right _ (List.mem_append_right _ (List.mem_of_getElem? (l := tables_1_6) (i := 57) rfl))))))) rfl
theorem w_940 : Cond.code ⟨"HeronTalkModel", "pour", "(I)I"⟩ prog_9_method_86_code 6 (some .int) ∈ tbG := tbG_in (List.mem_append_right _ (List.mem_append_right _ (List.mem_append_right _ (List.mem_append_right _ (List.mem_append_right _ (List.mem_append_right _ (List.mem_of_getElem? (l := tables_1_6) (i := 66) rfl))))))) rfl
theorem w_941 : Cond.instanceMethod ⟨"HeronTalkModel", "pour", "(I)I"⟩ ∈ tbG := tbG_in (List.mem_append_right _ (List.mem_append_right _ (List.mem_append_right _ (List.mem_append_right _ (List.mem_append_right _ (List.mem_append_right _ (List.mem_of_getElem? (l := tables_1_6) (i := 64) rfl))))))) rfl
theorem w_942 : Cond.selects "HeronTalkModel" ⟨"HeronTalkModel", "pour", "(I)I"⟩ ⟨"HeronTalkModel", "pour", "(I)I"⟩ ∈ tbG := tbG_in (List.mem_append_right _ (List.mem_append_right _ (List.mem_append_right _ (List.mem_append_right _ (List.mem_append_right _ (List.mem_append_right _ (List.mem_of_getElem? (l := tables_1_6) (i := 65) rfl))))))) rfl
theorem w_943 : Cond.code ⟨"HeronTalkModel", "reads", "(I)I"⟩ prog_9_method_87_code 4 (some .int) ∈ tbG := tbG_in (List.mem_append_right _ (List.mem_append_right _ (List.mem_append_right _ (List.mem_append_right _ (List.mem_append_right _ (List.mem_append_right _ (List.mem_of_getElem? (l := tables_1_6) (i := 70) rfl))))))) rfl
theorem w_944 : Cond.instanceMethod ⟨"HeronTalkModel", "reads", "(I)I"⟩ ∈ tbG := tbG_in (List.mem_append_right _ (List.mem_append_right _ (List.mem_append_right _ (List.mem_append_right _ (List.mem_append_right _ (List.mem_append_right _ (List.mem_of_getElem? (l := tables_1_6) (i := 68) rfl))))))) rfl
theorem w_945 : Cond.selects "HeronTalkModel" ⟨"HeronTalkModel", "reads", "(I)I"⟩ ⟨"HeronTalkModel", "reads", "(I)I"⟩ ∈ tbG := tbG_in (List.mem_append_right _ (List.mem_append_right _ (List.mem_append_right _ (List.mem_append_right _ (List.mem_append_right _ (List.mem_append_right _ (List.mem_of_getElem? (l := tables_1_6) (i := 69) rfl))))))) rfl
theorem w_946 : Cond.code ⟨"HeronTalkModel", "copy", "(IIIII)I"⟩ prog_9_method_88_code 7 (some .int) ∈ tbG := tbG_in (List.mem_append_right _ (List.mem_append_right _ (List.mem_append_right _ (List.mem_append_right _ (List.mem_append_right _ (List.mem_append_right _ (List.mem_of_getElem? (l := tables_1_6) (i := 74) rfl))))))) rfl
theorem w_947 : Cond.instanceMethod ⟨"HeronTalkModel", "copy", "(IIIII)I"⟩ ∈ tbG := tbG_in (List.mem_append_right _ (List.mem_append_right _ (List.mem_append_right _ (List.mem_append_right _ (List.mem_append_right _ (List.mem_append_right _ (List.mem_of_getElem? (l := tables_1_6) (i := 72) rfl))))))) rfl
theorem w_948 : Cond.selects "HeronTalkModel" ⟨"HeronTalkModel", "copy", "(IIIII)I"⟩ ⟨"HeronTalkModel", "copy", "(IIIII)I"⟩ ∈ tbG := tbG_in (List.mem_append_right _ (List.mem_append_right _ (List.mem_append_right _ (List.mem_append_right _ (List.mem_append_right _ (List.mem_append_right _ (List.mem_of_getElem? (l := tables_1_6) (i := 73) rfl))))))) rfl
theorem w_949 : Cond.methodLink "HeronTalkModel" 286 ⟨"HeronTalkModel", "isSlot", "(I)Z"⟩ ∈ tbG := tbG_in (List.mem_append_right _ (List.mem_append_right _ (List.mem_append_right _ (List.mem_append_right _ (List.mem_append_right _ (List.mem_append_right _ (List.mem_of_getElem? (l := tables_1_6) (i := 79) rfl))))))) rfl
theorem w_950 : Cond.code ⟨"HeronTalkModel", "lay", "(III)I"⟩ prog_9_method_89_code 6 (some .int) ∈ tbG := tbG_in (List.mem_append_right _ (List.mem_append_right _ (List.mem_append_right _ (List.mem_append_right _ (List.mem_append_right _ (List.mem_append_right _ (List.mem_of_getElem? (l := tables_1_6) (i := 78) rfl))))))) rfl
theorem w_951 : Cond.instanceMethod ⟨"HeronTalkModel", "lay", "(III)I"⟩ ∈ tbG := tbG_in (List.mem_append_right _ (List.mem_append_right _ (List.mem_append_right _ (List.mem_append_right _ (List.mem_append_right _ (List.mem_append_right _ (List.mem_of_getElem? (l := tables_1_6) (i := 76) rfl))))))) rfl
theorem w_952 : Cond.selects "HeronTalkModel" ⟨"HeronTalkModel", "lay", "(III)I"⟩ ⟨"HeronTalkModel", "lay", "(III)I"⟩ ∈ tbG := tbG_in (List.mem_append_right _ (List.mem_append_right _ (List.mem_append_right _ (List.mem_append_right _ (List.mem_append_right _ (List.mem_append_right _ (List.mem_of_getElem? (l := tables_1_6) (i := 77) rfl))))))) rfl
theorem w_953 : Cond.code ⟨"HeronTalkModel", "ask", "(II)I"⟩ prog_9_method_90_code 5 (some .int) ∈ tbG := tbG_in (List.mem_append_right _ (List.mem_append_right _ (List.mem_append_right _ (List.mem_append_right _ (List.mem_append_right _ (List.mem_append_right _ (List.mem_of_getElem? (l := tables_1_6) (i := 85) rfl))))))) rfl
theorem w_954 : Cond.instanceMethod ⟨"HeronTalkModel", "ask", "(II)I"⟩ ∈ tbG := tbG_in (List.mem_append_right _ (List.mem_append_right _ (List.mem_append_right _ (List.mem_append_right _ (List.mem_append_right _ (List.mem_append_right _ (List.mem_of_getElem? (l := tables_1_6) (i := 83) rfl))))))) rfl
theorem w_955 : Cond.selects "HeronTalkModel" ⟨"HeronTalkModel", "ask", "(II)I"⟩ ⟨"HeronTalkModel", "ask", "(II)I"⟩ ∈ tbG := tbG_in (List.mem_append_right _ (List.mem_append_right _ (List.mem_append_right _ (List.mem_append_right _ (List.mem_append_right _ (List.mem_append_right _ (List.mem_of_getElem? (l := tables_1_6) (i := 84) rfl))))))) rfl
theorem w_956 : Cond.code ⟨"HeronTalkModel", "item", "(II)I"⟩ prog_9_method_91_code 4 (some .int) ∈ tbG := tbG_in (List.mem_append_right _ (List.mem_append_right _ (List.mem_append_right _ (List.mem_append_right _ (List.mem_append_right _ (List.mem_append_right _ (List.mem_of_getElem? (l := tables_1_6) (i := 89) rfl))))))) rfl
theorem w_957 : Cond.instanceMethod ⟨"HeronTalkModel", "item", "(II)I"⟩ ∈ tbG := tbG_in (List.mem_append_right _ (List.mem_append_right _ (List.mem_append_right _ (List.mem_append_right _ (List.mem_append_right _ (List.mem_append_right _ (List.mem_of_getElem? (l := tables_1_6) (i := 87) rfl))))))) rfl
theorem w_958 : Cond.selects "HeronTalkModel" ⟨"HeronTalkModel", "item", "(II)I"⟩ ⟨"HeronTalkModel", "item", "(II)I"⟩ ∈ tbG := tbG_in (List.mem_append_right _ (List.mem_append_right _ (List.mem_append_right _ (List.mem_append_right _ (List.mem_append_right _ (List.mem_append_right _ (List.mem_of_getElem? (l := tables_1_6) (i := 88) rfl))))))) rfl
theorem w_959 : Cond.code ⟨"HeronTalkModel", "rest", "(II)I"⟩ prog_9_method_92_code 3 (some .int) ∈ tbG := tbG_in (List.mem_append_right _ (List.mem_append_right _ (List.mem_append_right _ (List.mem_append_right _ (List.mem_append_right _ (List.mem_append_right _ (List.mem_of_getElem? (l := tables_1_6) (i := 93) rfl))))))) rfl
theorem w_960 : Cond.instanceMethod ⟨"HeronTalkModel", "rest", "(II)I"⟩ ∈ tbG := tbG_in (List.mem_append_right _ (List.mem_append_right _ (List.mem_append_right _ (List.mem_append_right _ (List.mem_append_right _ (List.mem_append_right _ (List.mem_of_getElem? (l := tables_1_6) (i := 91) rfl))))))) rfl
theorem w_961 : Cond.selects "HeronTalkModel" ⟨"HeronTalkModel", "rest", "(II)I"⟩ ⟨"HeronTalkModel", "rest", "(II)I"⟩ ∈ tbG := tbG_in (List.mem_append_right _ (List.mem_append_right _ (List.mem_append_right _ (List.mem_append_right _ (List.mem_append_right _ (List.mem_append_right _ (List.mem_of_getElem? (l := tables_1_6) (i := 92) rfl))))))) rfl
theorem w_962 : Cond.fieldLink "HeronTalkModel" 289 "HeronTalkModel" "waiting" "I" ∈ tbG := tbG_in (List.mem_append_right _ (List.mem_append_right _ (List.mem_append_right _ (List.mem_append_right _ (List.mem_append_left _ (List.mem_of_getElem? (l := tables_1_4) (i := 140) rfl)))))) rfl
theorem w_963 : Cond.code ⟨"HeronTalkModel", "tell", "(I)I"⟩ prog_9_method_93_code 2 (some .int) ∈ tbG := tbG_in (List.mem_append_right _ (List.mem_append_right _ (List.mem_append_right _ (List.mem_append_right _ (List.mem_append_right _ (List.mem_append_right _ (List.mem_of_getElem? (l := tables_1_6) (i := 97) rfl))))))) rfl
theorem w_964 : Cond.instanceMethod ⟨"HeronTalkModel", "tell", "(I)I"⟩ ∈ tbG := tbG_in (List.mem_append_right _ (List.mem_append_right _ (List.mem_append_right _ (List.mem_append_right _ (List.mem_append_right _ (List.mem_append_right _ (List.mem_of_getElem? (l := tables_1_6) (i := 95) rfl))))))) rfl
theorem w_965 : Cond.selects "HeronTalkModel" ⟨"HeronTalkModel", "tell", "(I)I"⟩ ⟨"HeronTalkModel", "tell", "(I)I"⟩ ∈ tbG := tbG_in (List.mem_append_right _ (List.mem_append_right _ (List.mem_append_right _ (List.mem_append_right _ (List.mem_append_right _ (List.mem_append_right _ (List.mem_of_getElem? (l := tables_1_6) (i := 96) rfl))))))) rfl
theorem w_966 : Cond.methodLink "HeronTalkModel" 296 ⟨"HeronTalkModel", "copyAll", "([I[I)V"⟩ ∈ tbG := tbG_in (List.mem_append_right _ (List.mem_append_right _ (List.mem_append_right _ (List.mem_append_right _ (List.mem_append_right _ (List.mem_append_right _ (List.mem_of_getElem? (l := tables_1_6) (i := 102) rfl))))))) rfl
theorem w_967 : Cond.fieldLink "HeronTalkModel" 292 "HeronTalkModel" "hasImage" "Z" ∈ tbG := tbG_in (List.mem_append_right _ (List.mem_append_right _ (List.mem_append_right _ (List.mem_append_right _ (List.mem_append_left _ (List.mem_of_getElem? (l := tables_1_4) (i := 110) rfl)))))) rfl
theorem w_968 : Cond.code ⟨"HeronTalkModel", "check", "(I)I"⟩ prog_9_method_94_code 7 (some .int) ∈ tbG := tbG_in (List.mem_append_right _ (List.mem_append_right _ (List.mem_append_right _ (List.mem_append_right _ (List.mem_append_right _ (List.mem_append_right _ (List.mem_of_getElem? (l := tables_1_6) (i := 101) rfl))))))) rfl
theorem w_969 : Cond.instanceMethod ⟨"HeronTalkModel", "check", "(I)I"⟩ ∈ tbG := tbG_in (List.mem_append_right _ (List.mem_append_right _ (List.mem_append_right _ (List.mem_append_right _ (List.mem_append_right _ (List.mem_append_right _ (List.mem_of_getElem? (l := tables_1_6) (i := 99) rfl))))))) rfl
theorem w_970 : Cond.selects "HeronTalkModel" ⟨"HeronTalkModel", "check", "(I)I"⟩ ⟨"HeronTalkModel", "check", "(I)I"⟩ ∈ tbG := tbG_in (List.mem_append_right _ (List.mem_append_right _ (List.mem_append_right _ (List.mem_append_right _ (List.mem_append_right _ (List.mem_append_right _ (List.mem_of_getElem? (l := tables_1_6) (i := 100) rfl))))))) rfl
theorem w_971 : Cond.code ⟨"HeronTalkModel", "keep", "()I"⟩ prog_9_method_95_code 1 (some .int) ∈ tbG := tbG_in (List.mem_append_right _ (List.mem_append_right _ (List.mem_append_right _ (List.mem_append_right _ (List.mem_append_right _ (List.mem_append_right _ (List.mem_of_getElem? (l := tables_1_6) (i := 108) rfl))))))) rfl
theorem w_972 : Cond.instanceMethod ⟨"HeronTalkModel", "keep", "()I"⟩ ∈ tbG := tbG_in (List.mem_append_right _ (List.mem_append_right _ (List.mem_append_right _ (List.mem_append_right _ (List.mem_append_right _ (List.mem_append_right _ (List.mem_of_getElem? (l := tables_1_6) (i := 106) rfl))))))) rfl
theorem w_973 : Cond.selects "HeronTalkModel" ⟨"HeronTalkModel", "keep", "()I"⟩ ⟨"HeronTalkModel", "keep", "()I"⟩ ∈ tbG := tbG_in (List.mem_append_right _ (List.mem_append_right _ (List.mem_append_right _ (List.mem_append_right _ (List.mem_append_right _ (List.mem_append_right _ (List.mem_of_getElem? (l := tables_1_6) (i := 107) rfl))))))) rfl
theorem w_974 : Cond.code ⟨"HeronTalkModel", "back", "()I"⟩ prog_9_method_96_code 1 (some .int) ∈ tbG := tbG_in (List.mem_append_right _ (List.mem_append_right _ (List.mem_append_right _ (List.mem_append_right _ (List.mem_append_right _ (List.mem_append_right _ (List.mem_of_getElem? (l := tables_1_6) (i := 112) rfl))))))) rfl
theorem w_975 : Cond.instanceMethod ⟨"HeronTalkModel", "back", "()I"⟩ ∈ tbG := tbG_in (List.mem_append_right _ (List.mem_append_right _ (List.mem_append_right _ (List.mem_append_right _ (List.mem_append_right _ (List.mem_append_right _ (List.mem_of_getElem? (l := tables_1_6) (i := 110) rfl))))))) rfl
theorem w_976 : Cond.selects "HeronTalkModel" ⟨"HeronTalkModel", "back", "()I"⟩ ⟨"HeronTalkModel", "back", "()I"⟩ ∈ tbG := tbG_in (List.mem_append_right _ (List.mem_append_right _ (List.mem_append_right _ (List.mem_append_right _ (List.mem_append_right _ (List.mem_append_right _ (List.mem_of_getElem? (l := tables_1_6) (i := 111) rfl))))))) rfl
theorem w_977 : Cond.code ⟨"HeronTalkModel", "count", "(I)I"⟩ prog_9_method_97_code 2 (some .int) ∈ tbG := tbG_in (List.mem_append_right _ (List.mem_append_right _ (List.mem_append_right _ (List.mem_append_right _ (List.mem_append_right _ (List.mem_append_right _ (List.mem_of_getElem? (l := tables_1_6) (i := 116) rfl))))))) rfl
theorem w_978 : Cond.instanceMethod ⟨"HeronTalkModel", "count", "(I)I"⟩ ∈ tbG := tbG_in (List.mem_append_right _ (List.mem_append_right _ (List.mem_append_right _ (List.mem_append_right _ (List.mem_append_right _ (List.mem_append_right _ (List.mem_of_getElem? (l := tables_1_6) (i := 114) rfl))))))) rfl
theorem w_979 : Cond.selects "HeronTalkModel" ⟨"HeronTalkModel", "count", "(I)I"⟩ ⟨"HeronTalkModel", "count", "(I)I"⟩ ∈ tbG := tbG_in (List.mem_append_right _ (List.mem_append_right _ (List.mem_append_right _ (List.mem_append_right _ (List.mem_append_right _ (List.mem_append_right _ (List.mem_of_getElem? (l := tables_1_6) (i := 115) rfl))))))) rfl
theorem w_980 : Cond.code ⟨"java/lang/String", "coder", "()B"⟩ prog_12_method_152_code 1 (some .byte) ∈ tbG := tbG_in (List.mem_append_right _ (List.mem_append_right _ (List.mem_append_right _ (List.mem_append_left _ (List.mem_of_getElem? (l := tables_1_3) (i := 113) rfl))))) rfl
theorem w_981 : Cond.initialized "java/lang/String" ∈ tbG := tbG_in (List.mem_append_right _ (List.mem_append_left _ (List.mem_of_getElem? (l := tables_1_1) (i := 10) rfl))) rfl
theorem w_982 : Cond.instanceMethod ⟨"java/lang/String", "coder", "()B"⟩ ∈ tbG := tbG_in (List.mem_append_right _ (List.mem_append_right _ (List.mem_append_right _ (List.mem_append_left _ (List.mem_of_getElem? (l := tables_1_3) (i := 111) rfl))))) rfl
theorem w_983 : Cond.selects "java/lang/String" ⟨"java/lang/String", "coder", "()B"⟩ ⟨"java/lang/String", "coder", "()B"⟩ ∈ tbG := tbG_in (List.mem_append_right _ (List.mem_append_right _ (List.mem_append_right _ (List.mem_append_left _ (List.mem_of_getElem? (l := tables_1_3) (i := 112) rfl))))) rfl
theorem w_984 : Cond.code ⟨"java/lang/String", "length", "()I"⟩ prog_12_method_54_code 1 (some .int) ∈ tbG := tbG_in (List.mem_append_right _ (List.mem_append_right _ (List.mem_append_right _ (List.mem_append_left _ (List.mem_of_getElem? (l := tables_1_3) (i := 109) rfl))))) rfl
theorem w_985 : Cond.instanceMethod ⟨"java/lang/String", "length", "()I"⟩ ∈ tbG := tbG_in (List.mem_append_right _ (List.mem_append_right _ (List.mem_append_right _ (List.mem_append_left _ (List.mem_of_getElem? (l := tables_1_3) (i := 107) rfl))))) rfl
theorem w_986 : Cond.selects "java/lang/String" ⟨"java/lang/String", "length", "()I"⟩ ⟨"java/lang/String", "length", "()I"⟩ ∈ tbG := tbG_in (List.mem_append_right _ (List.mem_append_right _ (List.mem_append_right _ (List.mem_append_left _ (List.mem_of_getElem? (l := tables_1_3) (i := 108) rfl))))) rfl
theorem w_987 : Cond.code ⟨"java/lang/String", "isLatin1", "()Z"⟩ prog_12_method_154_code 1 (some .boolean) ∈ tbG := tbG_in (List.mem_append_right _ (List.mem_append_right _ (List.mem_append_right _ (List.mem_append_left _ (List.mem_of_getElem? (l := tables_1_3) (i := 123) rfl))))) rfl
theorem w_988 : Cond.instanceMethod ⟨"java/lang/String", "isLatin1", "()Z"⟩ ∈ tbG := tbG_in (List.mem_append_right _ (List.mem_append_right _ (List.mem_append_right _ (List.mem_append_left _ (List.mem_of_getElem? (l := tables_1_3) (i := 121) rfl))))) rfl
theorem w_989 : Cond.selects "java/lang/String" ⟨"java/lang/String", "isLatin1", "()Z"⟩ ⟨"java/lang/String", "isLatin1", "()Z"⟩ ∈ tbG := tbG_in (List.mem_append_right _ (List.mem_append_right _ (List.mem_append_right _ (List.mem_append_left _ (List.mem_of_getElem? (l := tables_1_3) (i := 122) rfl))))) rfl
theorem w_990 : Cond.code ⟨"jdk/internal/util/Preconditions", "checkIndex", "(IILjava/util/function/BiFunction;)I"⟩ prog_16_method_11_code 3 (some .int) ∈ tbG := tbG_in (List.mem_append_right _ (List.mem_append_right _ (List.mem_append_right _ (List.mem_append_left _ (List.mem_of_getElem? (l := tables_1_3) (i := 134) rfl))))) rfl
theorem w_991 : Cond.initialized "jdk/internal/util/Preconditions" ∈ tbG := tbG_in (List.mem_append_right _ (List.mem_append_left _ (List.mem_of_getElem? (l := tables_1_1) (i := 12) rfl))) rfl
theorem w_992 : Cond.code ⟨"java/lang/String", "checkIndex", "(II)V"⟩ prog_12_method_155_code 2 (none : Option Jvm.ClassFile.FieldType) ∈ tbG := tbG_in (List.mem_append_right _ (List.mem_append_right _ (List.mem_append_right _ (List.mem_append_left _ (List.mem_of_getElem? (l := tables_1_3) (i := 129) rfl))))) rfl
theorem w_993 : Cond.code ⟨"java/lang/StringLatin1", "charAt", "([BI)C"⟩ prog_13_method_2_code 2 (some .char) ∈ tbG := tbG_in (List.mem_append_right _ (List.mem_append_right _ (List.mem_append_right _ (List.mem_append_left _ (List.mem_of_getElem? (l := tables_1_3) (i := 126) rfl))))) rfl
theorem w_994 : Cond.initialized "java/lang/StringLatin1" ∈ tbG := tbG_in (List.mem_append_right _ (List.mem_append_left _ (List.mem_of_getElem? (l := tables_1_1) (i := 11) rfl))) rfl
theorem w_995 : Cond.code ⟨"java/lang/String", "charAt", "(I)C"⟩ prog_12_method_56_code 2 (some .char) ∈ tbG := tbG_in (List.mem_append_right _ (List.mem_append_right _ (List.mem_append_right _ (List.mem_append_left _ (List.mem_of_getElem? (l := tables_1_3) (i := 119) rfl))))) rfl
theorem w_996 : Cond.instanceMethod ⟨"java/lang/String", "charAt", "(I)C"⟩ ∈ tbG := tbG_in (List.mem_append_right _ (List.mem_append_right _ (List.mem_append_right _ (List.mem_append_left _ (List.mem_of_getElem? (l := tables_1_3) (i := 117) rfl))))) rfl
theorem w_997 : Cond.selects "java/lang/String" ⟨"java/lang/String", "charAt", "(I)C"⟩ ⟨"java/lang/String", "charAt", "(I)C"⟩ ∈ tbG := tbG_in (List.mem_append_right _ (List.mem_append_right _ (List.mem_append_right _ (List.mem_append_left _ (List.mem_of_getElem? (l := tables_1_3) (i := 118) rfl))))) rfl
theorem w_998 : Cond.fieldLink "java/lang/String" 38 "java/lang/String" "COMPACT_STRINGS" "Z" ∈ tbG := tbG_in (List.mem_append_right _ (List.mem_append_right _ (List.mem_append_right _ (List.mem_append_left _ (List.mem_of_getElem? (l := tables_1_3) (i := 114) rfl))))) rfl
theorem w_999 : Cond.fieldLink "java/lang/String" 15 "java/lang/String" "coder" "B" ∈ tbG := tbG_in (List.mem_append_right _ (List.mem_append_right _ (List.mem_append_right _ (List.mem_append_right _ (List.mem_append_right _ (List.mem_append_right _ (List.mem_of_getElem? (l := tables_1_6) (i := 118) rfl))))))) rfl
theorem w_1000 : Cond.fieldLink "java/lang/String" 9 "java/lang/String" "value" "[B" ∈ tbG := tbG_in (List.mem_append_right _ (List.mem_append_right _ (List.mem_append_right _ (List.mem_append_right _ (List.mem_append_right _ (List.mem_append_right _ (List.mem_of_getElem? (l := tables_1_6) (i := 117) rfl))))))) rfl
theorem w_1001 : Cond.methodLink "java/lang/String" 335 ⟨"java/lang/String", "coder", "()B"⟩ ∈ tbG := tbG_in (List.mem_append_right _ (List.mem_append_right _ (List.mem_append_right _ (List.mem_append_left _ (List.mem_of_getElem? (l := tables_1_3) (i := 110) rfl))))) rfl
theorem w_1002 : Cond.fieldLink "java/lang/String" 1053 "jdk/internal/util/Preconditions" "SIOOBE_FORMATTER" "Ljava/util/function/BiFunction;" ∈ tbG := tbG_in (List.mem_append_right _ (List.mem_append_right _ (List.mem_append_right _ (List.mem_append_left _ (List.mem_of_getElem? (l := tables_1_3) (i := 130) rfl))))) rfl
theorem w_1003 : Cond.static ⟨"jdk/internal/util/Preconditions", "checkIndex", "(IILjava/util/function/BiFunction;)I"⟩ ∈ tbG := tbG_in (List.mem_append_right _ (List.mem_append_right _ (List.mem_append_right _ (List.mem_append_left _ (List.mem_of_getElem? (l := tables_1_3) (i := 133) rfl))))) rfl
theorem w_1004 : Cond.methodLink "java/lang/String" 1059 ⟨"jdk/internal/util/Preconditions", "checkIndex", "(IILjava/util/function/BiFunction;)I"⟩ ∈ tbG := tbG_in (List.mem_append_right _ (List.mem_append_right _ (List.mem_append_right _ (List.mem_append_left _ (List.mem_of_getElem? (l := tables_1_3) (i := 132) rfl))))) rfl
theorem w_1005 : Cond.static ⟨"java/lang/String", "checkIndex", "(II)V"⟩ ∈ tbG := tbG_in (List.mem_append_right _ (List.mem_append_right _ (List.mem_append_right _ (List.mem_append_left _ (List.mem_of_getElem? (l := tables_1_3) (i := 128) rfl))))) rfl
theorem w_1006 : Cond.methodLink "java/lang/StringLatin1" 9 ⟨"java/lang/String", "checkIndex", "(II)V"⟩ ∈ tbG := tbG_in (List.mem_append_right _ (List.mem_append_right _ (List.mem_append_right _ (List.mem_append_left _ (List.mem_of_getElem? (l := tables_1_3) (i := 127) rfl))))) rfl
theorem w_1007 : Cond.methodLink "java/lang/String" 492 ⟨"java/lang/String", "isLatin1", "()Z"⟩ ∈ tbG := tbG_in (List.mem_append_right _ (List.mem_append_right _ (List.mem_append_right _ (List.mem_append_left _ (List.mem_of_getElem? (l := tables_1_3) (i := 120) rfl))))) rfl
theorem w_1008 : Cond.static ⟨"java/lang/StringLatin1", "charAt", "([BI)C"⟩ ∈ tbG := tbG_in (List.mem_append_right _ (List.mem_append_right _ (List.mem_append_right _ (List.mem_append_left _ (List.mem_of_getElem? (l := tables_1_3) (i := 125) rfl))))) rfl
theorem w_1009 : Cond.methodLink "java/lang/String" 495 ⟨"java/lang/StringLatin1", "charAt", "([BI)C"⟩ ∈ tbG := tbG_in (List.mem_append_right _ (List.mem_append_right _ (List.mem_append_right _ (List.mem_append_left _ (List.mem_of_getElem? (l := tables_1_3) (i := 124) rfl))))) rfl
def jF : Nat := 4096
def jL {β : Type} (F : β → β) (z : β) : Nat → β
  | 0 => z
  | n + 1 => F (jL F z n)
theorem jL_ind {β : Type} {F : β → β} {z : β} {P : β → Prop} (h0 : P z) (hs : ∀ b, P b → P (F b)) : ∀ n, P (jL F z n)
  | 0 => h0
  | n + 1 => hs _ (jL_ind h0 hs n)
def nmv {β : Type} (e : Int32) (g : Int32 → β) : β := g e
def nB (s : hS) (c N : Nat) : Option hS := some (nO s c N)
theorem Jo_nm {α : Type} {E : jE} {M : jM} {cv : α → Option Value} {pc : Nat} {ls : List (Nat × Value)} {st : List Value} {s : hS} {e : Int32} {g : Int32 → Option (α × hS)} (k : ∀ x, Jo E M cv pc ls (.int x :: st) s (g x)) : Jo E M cv pc ls (.int e :: st) s (nmv e g) := k e
theorem Jo_split {α : Type} {E : jE} {M : jM} {cv : α → Option Value} {pc : Nat} {ls : List (Nat × Value)} {st : List Value} {s : hS} {x v : Int32} {o : Option (α × hS)} (k1 : Jo E M cv pc ls (.int v :: st) s o) (k2 : ¬ x = v → Jo E M cv pc ls (.int x :: st) s o) : Jo E M cv pc ls (.int x :: st) s o := by
  by_cases h : x = v
  · subst h; exact k1
  · exact k2 h
theorem Jo_newB {α : Type} {E : jE} {M : jM} {cv : α → Option Value} {pc : Nat} {ls : List (Nat × Value)} {st : List Value} {s : hS} {c idx q : Nat} {C : String} {T : u_T} {N : Nat} {ty : Nat → FieldType} {g : hS → Option (α × hS)} (hf : classes[c]? = some (C, T, N) ∧ (∀ w ∈ u_ws C T N, w ∈ tbG) ∧ (∀ k, k < N → parseFieldDescriptor (T k).2.2.1 = some (ty k)) ∧ c < 8) (hw : Cond.classLink M.1 idx C ∈ tbG ∧ Cond.instantiable C N ∈ tbG ∧ Cond.initialized C ∈ tbG) (h0 : ∀ (s : hS) (a : Nat), s.2.2.2.1 a = (fun _ => 0) → s.2.2.2.2 a = (fun _ => none) → ∀ j, j < N → defaultValue (ty j) = vp_V (hs_fs s a c) j) (hd : dI M.2.1 pc q (.new idx) 3) (kk : ∀ s', Jo E M cv q ls (.ref s.1 :: st) s' (g s')) : Jo E M cv pc ls st s ((nB s c N).bind g) := Jo_new hf hw h0 hd (kk (nO s c N))
theorem Jo_callVi {α : Type} {E : jE} {M My : jM} {cv : α → Option Value} {pc q : Nat} {ls : List (Nat × Value)} {st rest : List Value} {s : hS} {oy : Option (Int32 × hS)} {g : Int32 × hS → Option (α × hS)} {y : MethodName} {a c idx n : Nat} {C : String} {T : u_T} {N : Nat} (As : List Value) (hc : classes[c]? = some (C, T, N) ∧ c < 8 ∧ C = y.cls) (hy : yF y My n) (hyv : Cond.instanceMethod y ∈ tbG ∧ Cond.selects y.cls y y ∈ tbG) (hl : Cond.methodLink M.1 idx y ∈ tbG) (hst : st = As.reverse ++ .ref a :: rest) (hn : As.length = n) (hroom : My.2.2.2.2.2.1 + 1 ≤ M.2.2.2.2.2.1 ∧ 8 + (My.2.2.1 + 11) + My.2.2.2.2.2.2 ≤ M.2.2.2.2.2.2 ∧ (rest.map fun v => v.category).sum ≤ 8) (hd : decode M.2.1 pc = .ok (.invokevirtual idx, 3)) (hq : pc + 3 = q) (hK : jK E y My cvI (.ref a :: As) s oy) (kk : ∀ r1 : Int32 × hS, Jo E M cv q ls (.int r1.1 :: rest) r1.2 (g r1)) : Jo E M cv pc ls st s ((cV s a c oy).bind g) := by
  subst hq
  exact Jo_callV As hc hy hyv hl hst hn hroom hd hK kk
theorem Jo_callVv {α : Type} {E : jE} {M My : jM} {cv : α → Option Value} {pc q : Nat} {ls : List (Nat × Value)} {st rest : List Value} {s : hS} {oy : Option (Unit × hS)} {g : Unit × hS → Option (α × hS)} {y : MethodName} {a c idx n : Nat} {C : String} {T : u_T} {N : Nat} (As : List Value) (hc : classes[c]? = some (C, T, N) ∧ c < 8 ∧ C = y.cls) (hy : yF y My n) (hyv : Cond.instanceMethod y ∈ tbG ∧ Cond.selects y.cls y y ∈ tbG) (hl : Cond.methodLink M.1 idx y ∈ tbG) (hst : st = As.reverse ++ .ref a :: rest) (hn : As.length = n) (hroom : My.2.2.2.2.2.1 + 1 ≤ M.2.2.2.2.2.1 ∧ 8 + (My.2.2.1 + 11) + My.2.2.2.2.2.2 ≤ M.2.2.2.2.2.2 ∧ (rest.map fun v => v.category).sum ≤ 8) (hd : decode M.2.1 pc = .ok (.invokevirtual idx, 3)) (hq : pc + 3 = q) (hK : jK E y My cvV (.ref a :: As) s oy) (kk : ∀ r1 : Unit × hS, Jo E M cv q ls (rest) r1.2 (g r1)) : Jo E M cv pc ls st s ((cV s a c oy).bind g) := by
  subst hq
  exact Jo_callV As hc hy hyv hl hst hn hroom hd hK kk
theorem Jo_callVr {α : Type} {E : jE} {M My : jM} {cv : α → Option Value} {pc q : Nat} {ls : List (Nat × Value)} {st rest : List Value} {s : hS} {oy : Option (Nat × hS)} {g : Nat × hS → Option (α × hS)} {y : MethodName} {a c idx n : Nat} {C : String} {T : u_T} {N : Nat} (As : List Value) (hc : classes[c]? = some (C, T, N) ∧ c < 8 ∧ C = y.cls) (hy : yF y My n) (hyv : Cond.instanceMethod y ∈ tbG ∧ Cond.selects y.cls y y ∈ tbG) (hl : Cond.methodLink M.1 idx y ∈ tbG) (hst : st = As.reverse ++ .ref a :: rest) (hn : As.length = n) (hroom : My.2.2.2.2.2.1 + 1 ≤ M.2.2.2.2.2.1 ∧ 8 + (My.2.2.1 + 11) + My.2.2.2.2.2.2 ≤ M.2.2.2.2.2.2 ∧ (rest.map fun v => v.category).sum ≤ 8) (hd : decode M.2.1 pc = .ok (.invokevirtual idx, 3)) (hq : pc + 3 = q) (hK : jK E y My cvR (.ref a :: As) s oy) (kk : ∀ r1 : Nat × hS, Jo E M cv q ls (.ref r1.1 :: rest) r1.2 (g r1)) : Jo E M cv pc ls st s ((cV s a c oy).bind g) := by
  subst hq
  exact Jo_callV As hc hy hyv hl hst hn hroom hd hK kk
theorem Jo_callSi {α : Type} {E : jE} {M My : jM} {cv : α → Option Value} {pc q : Nat} {ls : List (Nat × Value)} {st rest : List Value} {s : hS} {oy : Option (Int32 × hS)} {g : Int32 × hS → Option (α × hS)} {y : MethodName} {idx n : Nat} (As : List Value) (hy : yF y My n) (hys : Cond.static y ∈ tbG) (hl : Cond.methodLink M.1 idx y ∈ tbG) (hst : st = As.reverse ++ rest) (hn : As.length = n) (hroom : My.2.2.2.2.2.1 + 1 ≤ M.2.2.2.2.2.1 ∧ 8 + (My.2.2.1 + 11) + My.2.2.2.2.2.2 ≤ M.2.2.2.2.2.2 ∧ (rest.map fun v => v.category).sum ≤ 8) (hd : decode M.2.1 pc = .ok (.invokestatic idx, 3)) (hq : pc + 3 = q) (hK : jK E y My cvI As s oy) (kk : ∀ r1 : Int32 × hS, Jo E M cv q ls (.int r1.1 :: rest) r1.2 (g r1)) : Jo E M cv pc ls st s (oy.bind g) := by
  subst hq
  exact Jo_callS As hy hys hl hst hn hroom hd hK kk
theorem Jo_callSv {α : Type} {E : jE} {M My : jM} {cv : α → Option Value} {pc q : Nat} {ls : List (Nat × Value)} {st rest : List Value} {s : hS} {oy : Option (Unit × hS)} {g : Unit × hS → Option (α × hS)} {y : MethodName} {idx n : Nat} (As : List Value) (hy : yF y My n) (hys : Cond.static y ∈ tbG) (hl : Cond.methodLink M.1 idx y ∈ tbG) (hst : st = As.reverse ++ rest) (hn : As.length = n) (hroom : My.2.2.2.2.2.1 + 1 ≤ M.2.2.2.2.2.1 ∧ 8 + (My.2.2.1 + 11) + My.2.2.2.2.2.2 ≤ M.2.2.2.2.2.2 ∧ (rest.map fun v => v.category).sum ≤ 8) (hd : decode M.2.1 pc = .ok (.invokestatic idx, 3)) (hq : pc + 3 = q) (hK : jK E y My cvV As s oy) (kk : ∀ r1 : Unit × hS, Jo E M cv q ls (rest) r1.2 (g r1)) : Jo E M cv pc ls st s (oy.bind g) := by
  subst hq
  exact Jo_callS As hy hys hl hst hn hroom hd hK kk
theorem Jo_callNi {α : Type} {E : jE} {M My : jM} {cv : α → Option Value} {pc q : Nat} {ls : List (Nat × Value)} {st rest : List Value} {s : hS} {oy : Option (Int32 × hS)} {g : Int32 × hS → Option (α × hS)} {y : MethodName} {idx n : Nat} {host : String} (As : List Value) (hy : yF y My n) (hys : Cond.static y ∈ tbG) (hl : ∀ E U, hs_T E U → va_Nw (.methodLinkNest M.1 idx y host) U) (hst : st = As.reverse ++ rest) (hn : As.length = n) (hroom : My.2.2.2.2.2.1 + 1 ≤ M.2.2.2.2.2.1 ∧ 8 + (My.2.2.1 + 11) + My.2.2.2.2.2.2 ≤ M.2.2.2.2.2.2 ∧ (rest.map fun v => v.category).sum ≤ 8) (hd : decode M.2.1 pc = .ok (.invokestatic idx, 3)) (hq : pc + 3 = q) (hK : jK E y My cvI As s oy) (kk : ∀ r1 : Int32 × hS, Jo E M cv q ls (.int r1.1 :: rest) r1.2 (g r1)) : Jo E M cv pc ls st s (oy.bind g) := by
  subst hq
  exact Jo_callN As hy hys hl hst hn hroom hd hK kk
theorem Jo_callCv {α : Type} {E : jE} {M My : jM} {cv : α → Option Value} {pc q : Nat} {ls : List (Nat × Value)} {st rest : List Value} {s : hS} {oy : Option (Unit × hS)} {g : Unit × hS → Option (α × hS)} {y : MethodName} {a idx n : Nat} {nm : String} {nL fr lo : Nat} {own : String} {cc : ByteArray} (As : List Value) (hM : My = (own, cc, nL, none, nm, fr, lo)) (hy : yF y My n) (hyv : Cond.instanceMethod y ∈ tbG ∧ y.name = "<init>") (hl : Cond.methodLink M.1 idx y ∈ tbG) (hst : st = As.reverse ++ .ref a :: rest) (hn : As.length = n) (hroom : My.2.2.2.2.2.1 + 1 ≤ M.2.2.2.2.2.1 ∧ 8 + (My.2.2.1 + 11) + My.2.2.2.2.2.2 ≤ M.2.2.2.2.2.2 ∧ (rest.map fun v => v.category).sum ≤ 8) (hd : decode M.2.1 pc = .ok (.invokespecial idx, 3)) (hq : pc + 3 = q) (hK : jK E y My cvV (.ref a :: As) s oy) (kk : ∀ r1 : Unit × hS, Jo E M cv q ls (rest) r1.2 (g r1)) : Jo E M cv pc ls st s (oy.bind g) := by
  subst hq
  exact Jo_callC As hM hy hyv hl hst hn hroom hd hK kk
theorem in_0 : ∀ w ∈ u_ws RX0 TX0 10, w ∈ tbG := fun w hw => tbG_in ((by decide +kernel : ∀ w ∈ u_ws RX0 TX0 10, w ∈ lw_tbl) w hw) ((by decide +kernel : ∀ w ∈ u_ws RX0 TX0 10, goodWord w = true) w hw)
theorem nf_0 : classes[0]? = some (RX0, TX0, 10) ∧ (∀ w ∈ u_ws RX0 TX0 10, w ∈ tbG) ∧ (∀ k, k < 10 → parseFieldDescriptor (TX0 k).2.2.1 = some (tyX0 k)) ∧ 0 < 8 := ⟨rfl, in_0, tyX0_ok, by decide⟩
theorem n0_0 : ∀ (s : hS) (a : Nat), s.2.2.2.1 a = (fun _ => 0) → s.2.2.2.2 a = (fun _ => none) → ∀ j, j < 10 → defaultValue (tyX0 j) = vp_V (hs_fs s a 0) j := by
  intro s a h1 h2 j hj
  simp only [hs_fs, h1, h2]
  match j, hj with
  | 0, _ => rfl
  | 1, _ => rfl
  | 2, _ => rfl
  | 3, _ => rfl
  | 4, _ => rfl
  | 5, _ => rfl
  | 6, _ => rfl
  | 7, _ => rfl
  | 8, _ => rfl
  | 9, _ => rfl
  | j + 10, hj => exact absurd hj (by omega)
theorem cc_0 : classes[0]? = some (RX0, TX0, 10) ∧ 0 < 8 ∧ RX0 = "HeronTalk$Reader" := ⟨rfl, by decide, rfl⟩
theorem fF_0_0 : fF 0 0 RX0 TX0 10 tyX0 := ⟨rfl, by decide, in_0, tyX0_ok, nmX0, by decide⟩
theorem fR_0_0 : fR 0 0 := ⟨fun _ _ => rfl, fun s a v => by simp [hs_fs, uR]⟩
theorem fF_0_1 : fF 0 1 RX0 TX0 10 tyX0 := ⟨rfl, by decide, in_0, tyX0_ok, nmX0, by decide⟩
theorem fR_0_1 : fR 0 1 := ⟨fun _ _ => rfl, fun s a v => by simp [hs_fs, uR]⟩
theorem fF_0_2 : fF 0 2 RX0 TX0 10 tyX0 := ⟨rfl, by decide, in_0, tyX0_ok, nmX0, by decide⟩
theorem fI_0_2 : fI 0 2 := ⟨fun _ _ => rfl, fun s a v => by simp [hs_fs, uI]⟩
theorem fF_0_3 : fF 0 3 RX0 TX0 10 tyX0 := ⟨rfl, by decide, in_0, tyX0_ok, nmX0, by decide⟩
theorem fR_0_3 : fR 0 3 := ⟨fun _ _ => rfl, fun s a v => by simp [hs_fs, uR]⟩
theorem fF_0_4 : fF 0 4 RX0 TX0 10 tyX0 := ⟨rfl, by decide, in_0, tyX0_ok, nmX0, by decide⟩
theorem fI_0_4 : fI 0 4 := ⟨fun _ _ => rfl, fun s a v => by simp [hs_fs, uI]⟩
theorem fF_0_5 : fF 0 5 RX0 TX0 10 tyX0 := ⟨rfl, by decide, in_0, tyX0_ok, nmX0, by decide⟩
theorem fI_0_5 : fI 0 5 := ⟨fun _ _ => rfl, fun s a v => by simp [hs_fs, uI]⟩
theorem fF_0_6 : fF 0 6 RX0 TX0 10 tyX0 := ⟨rfl, by decide, in_0, tyX0_ok, nmX0, by decide⟩
theorem fI_0_6 : fI 0 6 := ⟨fun _ _ => rfl, fun s a v => by simp [hs_fs, uI]⟩
theorem fF_0_7 : fF 0 7 RX0 TX0 10 tyX0 := ⟨rfl, by decide, in_0, tyX0_ok, nmX0, by decide⟩
theorem fI_0_7 : fI 0 7 := ⟨fun _ _ => rfl, fun s a v => by simp [hs_fs, uI]⟩
theorem fF_0_8 : fF 0 8 RX0 TX0 10 tyX0 := ⟨rfl, by decide, in_0, tyX0_ok, nmX0, by decide⟩
theorem fI_0_8 : fI 0 8 := ⟨fun _ _ => rfl, fun s a v => by simp [hs_fs, uI]⟩
theorem fF_0_9 : fF 0 9 RX0 TX0 10 tyX0 := ⟨rfl, by decide, in_0, tyX0_ok, nmX0, by decide⟩
theorem fI_0_9 : fI 0 9 := ⟨fun _ _ => rfl, fun s a v => by simp [hs_fs, uI]⟩
theorem in_1 : ∀ w ∈ u_ws RX1 TX1 3, w ∈ tbG := fun w hw => tbG_in ((by decide +kernel : ∀ w ∈ u_ws RX1 TX1 3, w ∈ lw_tbl) w hw) ((by decide +kernel : ∀ w ∈ u_ws RX1 TX1 3, goodWord w = true) w hw)
theorem nf_1 : classes[1]? = some (RX1, TX1, 3) ∧ (∀ w ∈ u_ws RX1 TX1 3, w ∈ tbG) ∧ (∀ k, k < 3 → parseFieldDescriptor (TX1 k).2.2.1 = some (tyX1 k)) ∧ 1 < 8 := ⟨rfl, in_1, tyX1_ok, by decide⟩
theorem n0_1 : ∀ (s : hS) (a : Nat), s.2.2.2.1 a = (fun _ => 0) → s.2.2.2.2 a = (fun _ => none) → ∀ j, j < 3 → defaultValue (tyX1 j) = vp_V (hs_fs s a 1) j := by
  intro s a h1 h2 j hj
  simp only [hs_fs, h1, h2]
  match j, hj with
  | 0, _ => rfl
  | 1, _ => rfl
  | 2, _ => rfl
  | j + 3, hj => exact absurd hj (by omega)
theorem cc_1 : classes[1]? = some (RX1, TX1, 3) ∧ 1 < 8 ∧ RX1 = "HeronTalk$Sheet" := ⟨rfl, by decide, rfl⟩
theorem fF_1_0 : fF 1 0 RX1 TX1 3 tyX1 := ⟨rfl, by decide, in_1, tyX1_ok, nmX1, by decide⟩
theorem fI_1_0 : fI 1 0 := ⟨fun _ _ => rfl, fun s a v => by simp [hs_fs, uI]⟩
theorem fF_1_1 : fF 1 1 RX1 TX1 3 tyX1 := ⟨rfl, by decide, in_1, tyX1_ok, nmX1, by decide⟩
theorem fI_1_1 : fI 1 1 := ⟨fun _ _ => rfl, fun s a v => by simp [hs_fs, uI]⟩
theorem fF_1_2 : fF 1 2 RX1 TX1 3 tyX1 := ⟨rfl, by decide, in_1, tyX1_ok, nmX1, by decide⟩
theorem fR_1_2 : fR 1 2 := ⟨fun _ _ => rfl, fun s a v => by simp [hs_fs, uR]⟩
theorem in_2 : ∀ w ∈ u_ws RX2 TX2 6, w ∈ tbG := fun w hw => tbG_in ((by decide +kernel : ∀ w ∈ u_ws RX2 TX2 6, w ∈ lw_tbl) w hw) ((by decide +kernel : ∀ w ∈ u_ws RX2 TX2 6, goodWord w = true) w hw)
theorem nf_2 : classes[2]? = some (RX2, TX2, 6) ∧ (∀ w ∈ u_ws RX2 TX2 6, w ∈ tbG) ∧ (∀ k, k < 6 → parseFieldDescriptor (TX2 k).2.2.1 = some (tyX2 k)) ∧ 2 < 8 := ⟨rfl, in_2, tyX2_ok, by decide⟩
theorem n0_2 : ∀ (s : hS) (a : Nat), s.2.2.2.1 a = (fun _ => 0) → s.2.2.2.2 a = (fun _ => none) → ∀ j, j < 6 → defaultValue (tyX2 j) = vp_V (hs_fs s a 2) j := by
  intro s a h1 h2 j hj
  simp only [hs_fs, h1, h2]
  match j, hj with
  | 0, _ => rfl
  | 1, _ => rfl
  | 2, _ => rfl
  | 3, _ => rfl
  | 4, _ => rfl
  | 5, _ => rfl
  | j + 6, hj => exact absurd hj (by omega)
theorem cc_2 : classes[2]? = some (RX2, TX2, 6) ∧ 2 < 8 ∧ RX2 = "HeronTalk$Slot" := ⟨rfl, by decide, rfl⟩
theorem fF_2_0 : fF 2 0 RX2 TX2 6 tyX2 := ⟨rfl, by decide, in_2, tyX2_ok, nmX2, by decide⟩
theorem fI_2_0 : fI 2 0 := ⟨fun _ _ => rfl, fun s a v => by simp [hs_fs, uI]⟩
theorem fF_2_1 : fF 2 1 RX2 TX2 6 tyX2 := ⟨rfl, by decide, in_2, tyX2_ok, nmX2, by decide⟩
theorem fI_2_1 : fI 2 1 := ⟨fun _ _ => rfl, fun s a v => by simp [hs_fs, uI]⟩
theorem fF_2_2 : fF 2 2 RX2 TX2 6 tyX2 := ⟨rfl, by decide, in_2, tyX2_ok, nmX2, by decide⟩
theorem fI_2_2 : fI 2 2 := ⟨fun _ _ => rfl, fun s a v => by simp [hs_fs, uI]⟩
theorem fF_2_3 : fF 2 3 RX2 TX2 6 tyX2 := ⟨rfl, by decide, in_2, tyX2_ok, nmX2, by decide⟩
theorem fI_2_3 : fI 2 3 := ⟨fun _ _ => rfl, fun s a v => by simp [hs_fs, uI]⟩
theorem fF_2_4 : fF 2 4 RX2 TX2 6 tyX2 := ⟨rfl, by decide, in_2, tyX2_ok, nmX2, by decide⟩
theorem fI_2_4 : fI 2 4 := ⟨fun _ _ => rfl, fun s a v => by simp [hs_fs, uI]⟩
theorem fF_2_5 : fF 2 5 RX2 TX2 6 tyX2 := ⟨rfl, by decide, in_2, tyX2_ok, nmX2, by decide⟩
theorem fR_2_5 : fR 2 5 := ⟨fun _ _ => rfl, fun s a v => by simp [hs_fs, uR]⟩
theorem in_3 : ∀ w ∈ u_ws RX3 TX3 2, w ∈ tbG := fun w hw => tbG_in ((by decide +kernel : ∀ w ∈ u_ws RX3 TX3 2, w ∈ lw_tbl) w hw) ((by decide +kernel : ∀ w ∈ u_ws RX3 TX3 2, goodWord w = true) w hw)
theorem nf_3 : classes[3]? = some (RX3, TX3, 2) ∧ (∀ w ∈ u_ws RX3 TX3 2, w ∈ tbG) ∧ (∀ k, k < 2 → parseFieldDescriptor (TX3 k).2.2.1 = some (tyX3 k)) ∧ 3 < 8 := ⟨rfl, in_3, tyX3_ok, by decide⟩
theorem n0_3 : ∀ (s : hS) (a : Nat), s.2.2.2.1 a = (fun _ => 0) → s.2.2.2.2 a = (fun _ => none) → ∀ j, j < 2 → defaultValue (tyX3 j) = vp_V (hs_fs s a 3) j := by
  intro s a h1 h2 j hj
  simp only [hs_fs, h1, h2]
  match j, hj with
  | 0, _ => rfl
  | 1, _ => rfl
  | j + 2, hj => exact absurd hj (by omega)
theorem cc_3 : classes[3]? = some (RX3, TX3, 2) ∧ 3 < 8 ∧ RX3 = "HeronTalk$Tape" := ⟨rfl, by decide, rfl⟩
theorem fF_3_0 : fF 3 0 RX3 TX3 2 tyX3 := ⟨rfl, by decide, in_3, tyX3_ok, nmX3, by decide⟩
theorem fR_3_0 : fR 3 0 := ⟨fun _ _ => rfl, fun s a v => by simp [hs_fs, uR]⟩
theorem fF_3_1 : fF 3 1 RX3 TX3 2 tyX3 := ⟨rfl, by decide, in_3, tyX3_ok, nmX3, by decide⟩
theorem fI_3_1 : fI 3 1 := ⟨fun _ _ => rfl, fun s a v => by simp [hs_fs, uI]⟩
theorem in_4 : ∀ w ∈ u_ws RX4 TX4 4, w ∈ tbG := fun w hw => tbG_in ((by decide +kernel : ∀ w ∈ u_ws RX4 TX4 4, w ∈ lw_tbl) w hw) ((by decide +kernel : ∀ w ∈ u_ws RX4 TX4 4, goodWord w = true) w hw)
theorem nf_4 : classes[4]? = some (RX4, TX4, 4) ∧ (∀ w ∈ u_ws RX4 TX4 4, w ∈ tbG) ∧ (∀ k, k < 4 → parseFieldDescriptor (TX4 k).2.2.1 = some (tyX4 k)) ∧ 4 < 8 := ⟨rfl, in_4, tyX4_ok, by decide⟩
theorem n0_4 : ∀ (s : hS) (a : Nat), s.2.2.2.1 a = (fun _ => 0) → s.2.2.2.2 a = (fun _ => none) → ∀ j, j < 4 → defaultValue (tyX4 j) = vp_V (hs_fs s a 4) j := by
  intro s a h1 h2 j hj
  simp only [hs_fs, h1, h2]
  match j, hj with
  | 0, _ => rfl
  | 1, _ => rfl
  | 2, _ => rfl
  | 3, _ => rfl
  | j + 4, hj => exact absurd hj (by omega)
theorem cc_4 : classes[4]? = some (RX4, TX4, 4) ∧ 4 < 8 ∧ RX4 = "HeronTalk$Text" := ⟨rfl, by decide, rfl⟩
theorem fF_4_0 : fF 4 0 RX4 TX4 4 tyX4 := ⟨rfl, by decide, in_4, tyX4_ok, nmX4, by decide⟩
theorem fI_4_0 : fI 4 0 := ⟨fun _ _ => rfl, fun s a v => by simp [hs_fs, uI]⟩
theorem fF_4_1 : fF 4 1 RX4 TX4 4 tyX4 := ⟨rfl, by decide, in_4, tyX4_ok, nmX4, by decide⟩
theorem fI_4_1 : fI 4 1 := ⟨fun _ _ => rfl, fun s a v => by simp [hs_fs, uI]⟩
theorem fF_4_2 : fF 4 2 RX4 TX4 4 tyX4 := ⟨rfl, by decide, in_4, tyX4_ok, nmX4, by decide⟩
theorem fR_4_2 : fR 4 2 := ⟨fun _ _ => rfl, fun s a v => by simp [hs_fs, uR]⟩
theorem fF_4_3 : fF 4 3 RX4 TX4 4 tyX4 := ⟨rfl, by decide, in_4, tyX4_ok, nmX4, by decide⟩
theorem fR_4_3 : fR 4 3 := ⟨fun _ _ => rfl, fun s a v => by simp [hs_fs, uR]⟩
theorem in_5 : ∀ w ∈ u_ws RX5 TX5 18, w ∈ tbG := fun w hw => tbG_in ((by decide +kernel : ∀ w ∈ u_ws RX5 TX5 18, w ∈ lw_tbl) w hw) ((by decide +kernel : ∀ w ∈ u_ws RX5 TX5 18, goodWord w = true) w hw)
theorem nf_5 : classes[5]? = some (RX5, TX5, 18) ∧ (∀ w ∈ u_ws RX5 TX5 18, w ∈ tbG) ∧ (∀ k, k < 18 → parseFieldDescriptor (TX5 k).2.2.1 = some (tyX5 k)) ∧ 5 < 8 := ⟨rfl, in_5, tyX5_ok, by decide⟩
theorem n0_5 : ∀ (s : hS) (a : Nat), s.2.2.2.1 a = (fun _ => 0) → s.2.2.2.2 a = (fun _ => none) → ∀ j, j < 18 → defaultValue (tyX5 j) = vp_V (hs_fs s a 5) j := by
  intro s a h1 h2 j hj
  simp only [hs_fs, h1, h2]
  match j, hj with
  | 0, _ => rfl
  | 1, _ => rfl
  | 2, _ => rfl
  | 3, _ => rfl
  | 4, _ => rfl
  | 5, _ => rfl
  | 6, _ => rfl
  | 7, _ => rfl
  | 8, _ => rfl
  | 9, _ => rfl
  | 10, _ => rfl
  | 11, _ => rfl
  | 12, _ => rfl
  | 13, _ => rfl
  | 14, _ => rfl
  | 15, _ => rfl
  | 16, _ => rfl
  | 17, _ => rfl
  | j + 18, hj => exact absurd hj (by omega)
theorem cc_5 : classes[5]? = some (RX5, TX5, 18) ∧ 5 < 8 ∧ RX5 = "HeronTalk$Town" := ⟨rfl, by decide, rfl⟩
theorem fF_5_0 : fF 5 0 RX5 TX5 18 tyX5 := ⟨rfl, by decide, in_5, tyX5_ok, nmX5, by decide⟩
theorem fI_5_0 : fI 5 0 := ⟨fun _ _ => rfl, fun s a v => by simp [hs_fs, uI]⟩
theorem fF_5_1 : fF 5 1 RX5 TX5 18 tyX5 := ⟨rfl, by decide, in_5, tyX5_ok, nmX5, by decide⟩
theorem fI_5_1 : fI 5 1 := ⟨fun _ _ => rfl, fun s a v => by simp [hs_fs, uI]⟩
theorem fF_5_2 : fF 5 2 RX5 TX5 18 tyX5 := ⟨rfl, by decide, in_5, tyX5_ok, nmX5, by decide⟩
theorem fI_5_2 : fI 5 2 := ⟨fun _ _ => rfl, fun s a v => by simp [hs_fs, uI]⟩
theorem fF_5_3 : fF 5 3 RX5 TX5 18 tyX5 := ⟨rfl, by decide, in_5, tyX5_ok, nmX5, by decide⟩
theorem fI_5_3 : fI 5 3 := ⟨fun _ _ => rfl, fun s a v => by simp [hs_fs, uI]⟩
theorem fF_5_4 : fF 5 4 RX5 TX5 18 tyX5 := ⟨rfl, by decide, in_5, tyX5_ok, nmX5, by decide⟩
theorem fI_5_4 : fI 5 4 := ⟨fun _ _ => rfl, fun s a v => by simp [hs_fs, uI]⟩
theorem fF_5_5 : fF 5 5 RX5 TX5 18 tyX5 := ⟨rfl, by decide, in_5, tyX5_ok, nmX5, by decide⟩
theorem fI_5_5 : fI 5 5 := ⟨fun _ _ => rfl, fun s a v => by simp [hs_fs, uI]⟩
theorem fF_5_6 : fF 5 6 RX5 TX5 18 tyX5 := ⟨rfl, by decide, in_5, tyX5_ok, nmX5, by decide⟩
theorem fI_5_6 : fI 5 6 := ⟨fun _ _ => rfl, fun s a v => by simp [hs_fs, uI]⟩
theorem fF_5_7 : fF 5 7 RX5 TX5 18 tyX5 := ⟨rfl, by decide, in_5, tyX5_ok, nmX5, by decide⟩
theorem fI_5_7 : fI 5 7 := ⟨fun _ _ => rfl, fun s a v => by simp [hs_fs, uI]⟩
theorem fF_5_8 : fF 5 8 RX5 TX5 18 tyX5 := ⟨rfl, by decide, in_5, tyX5_ok, nmX5, by decide⟩
theorem fR_5_8 : fR 5 8 := ⟨fun _ _ => rfl, fun s a v => by simp [hs_fs, uR]⟩
theorem fF_5_9 : fF 5 9 RX5 TX5 18 tyX5 := ⟨rfl, by decide, in_5, tyX5_ok, nmX5, by decide⟩
theorem fR_5_9 : fR 5 9 := ⟨fun _ _ => rfl, fun s a v => by simp [hs_fs, uR]⟩
theorem fF_5_10 : fF 5 10 RX5 TX5 18 tyX5 := ⟨rfl, by decide, in_5, tyX5_ok, nmX5, by decide⟩
theorem fR_5_10 : fR 5 10 := ⟨fun _ _ => rfl, fun s a v => by simp [hs_fs, uR]⟩
theorem fF_5_11 : fF 5 11 RX5 TX5 18 tyX5 := ⟨rfl, by decide, in_5, tyX5_ok, nmX5, by decide⟩
theorem fR_5_11 : fR 5 11 := ⟨fun _ _ => rfl, fun s a v => by simp [hs_fs, uR]⟩
theorem fF_5_12 : fF 5 12 RX5 TX5 18 tyX5 := ⟨rfl, by decide, in_5, tyX5_ok, nmX5, by decide⟩
theorem fR_5_12 : fR 5 12 := ⟨fun _ _ => rfl, fun s a v => by simp [hs_fs, uR]⟩
theorem fF_5_13 : fF 5 13 RX5 TX5 18 tyX5 := ⟨rfl, by decide, in_5, tyX5_ok, nmX5, by decide⟩
theorem fR_5_13 : fR 5 13 := ⟨fun _ _ => rfl, fun s a v => by simp [hs_fs, uR]⟩
theorem fF_5_14 : fF 5 14 RX5 TX5 18 tyX5 := ⟨rfl, by decide, in_5, tyX5_ok, nmX5, by decide⟩
theorem fR_5_14 : fR 5 14 := ⟨fun _ _ => rfl, fun s a v => by simp [hs_fs, uR]⟩
theorem fF_5_15 : fF 5 15 RX5 TX5 18 tyX5 := ⟨rfl, by decide, in_5, tyX5_ok, nmX5, by decide⟩
theorem fR_5_15 : fR 5 15 := ⟨fun _ _ => rfl, fun s a v => by simp [hs_fs, uR]⟩
theorem fF_5_16 : fF 5 16 RX5 TX5 18 tyX5 := ⟨rfl, by decide, in_5, tyX5_ok, nmX5, by decide⟩
theorem fR_5_16 : fR 5 16 := ⟨fun _ _ => rfl, fun s a v => by simp [hs_fs, uR]⟩
theorem fF_5_17 : fF 5 17 RX5 TX5 18 tyX5 := ⟨rfl, by decide, in_5, tyX5_ok, nmX5, by decide⟩
theorem fR_5_17 : fR 5 17 := ⟨fun _ _ => rfl, fun s a v => by simp [hs_fs, uR]⟩
theorem in_6 : ∀ w ∈ u_ws RX6 TX6 11, w ∈ tbG := fun w hw => tbG_in ((by decide +kernel : ∀ w ∈ u_ws RX6 TX6 11, w ∈ lw_tbl) w hw) ((by decide +kernel : ∀ w ∈ u_ws RX6 TX6 11, goodWord w = true) w hw)
theorem nf_6 : classes[6]? = some (RX6, TX6, 11) ∧ (∀ w ∈ u_ws RX6 TX6 11, w ∈ tbG) ∧ (∀ k, k < 11 → parseFieldDescriptor (TX6 k).2.2.1 = some (tyX6 k)) ∧ 6 < 8 := ⟨rfl, in_6, tyX6_ok, by decide⟩
theorem n0_6 : ∀ (s : hS) (a : Nat), s.2.2.2.1 a = (fun _ => 0) → s.2.2.2.2 a = (fun _ => none) → ∀ j, j < 11 → defaultValue (tyX6 j) = vp_V (hs_fs s a 6) j := by
  intro s a h1 h2 j hj
  simp only [hs_fs, h1, h2]
  match j, hj with
  | 0, _ => rfl
  | 1, _ => rfl
  | 2, _ => rfl
  | 3, _ => rfl
  | 4, _ => rfl
  | 5, _ => rfl
  | 6, _ => rfl
  | 7, _ => rfl
  | 8, _ => rfl
  | 9, _ => rfl
  | 10, _ => rfl
  | j + 11, hj => exact absurd hj (by omega)
theorem cc_6 : classes[6]? = some (RX6, TX6, 11) ∧ 6 < 8 ∧ RX6 = "HeronTalk" := ⟨rfl, by decide, rfl⟩
theorem fF_6_0 : fF 6 0 RX6 TX6 11 tyX6 := ⟨rfl, by decide, in_6, tyX6_ok, nmX6, by decide⟩
theorem fR_6_0 : fR 6 0 := ⟨fun _ _ => rfl, fun s a v => by simp [hs_fs, uR]⟩
theorem fF_6_1 : fF 6 1 RX6 TX6 11 tyX6 := ⟨rfl, by decide, in_6, tyX6_ok, nmX6, by decide⟩
theorem fR_6_1 : fR 6 1 := ⟨fun _ _ => rfl, fun s a v => by simp [hs_fs, uR]⟩
theorem fF_6_2 : fF 6 2 RX6 TX6 11 tyX6 := ⟨rfl, by decide, in_6, tyX6_ok, nmX6, by decide⟩
theorem fR_6_2 : fR 6 2 := ⟨fun _ _ => rfl, fun s a v => by simp [hs_fs, uR]⟩
theorem fF_6_3 : fF 6 3 RX6 TX6 11 tyX6 := ⟨rfl, by decide, in_6, tyX6_ok, nmX6, by decide⟩
theorem fI_6_3 : fI 6 3 := ⟨fun _ _ => rfl, fun s a v => by simp [hs_fs, uI]⟩
theorem fF_6_4 : fF 6 4 RX6 TX6 11 tyX6 := ⟨rfl, by decide, in_6, tyX6_ok, nmX6, by decide⟩
theorem fR_6_4 : fR 6 4 := ⟨fun _ _ => rfl, fun s a v => by simp [hs_fs, uR]⟩
theorem fF_6_5 : fF 6 5 RX6 TX6 11 tyX6 := ⟨rfl, by decide, in_6, tyX6_ok, nmX6, by decide⟩
theorem fR_6_5 : fR 6 5 := ⟨fun _ _ => rfl, fun s a v => by simp [hs_fs, uR]⟩
theorem fF_6_6 : fF 6 6 RX6 TX6 11 tyX6 := ⟨rfl, by decide, in_6, tyX6_ok, nmX6, by decide⟩
theorem fR_6_6 : fR 6 6 := ⟨fun _ _ => rfl, fun s a v => by simp [hs_fs, uR]⟩
theorem fF_6_7 : fF 6 7 RX6 TX6 11 tyX6 := ⟨rfl, by decide, in_6, tyX6_ok, nmX6, by decide⟩
theorem fR_6_7 : fR 6 7 := ⟨fun _ _ => rfl, fun s a v => by simp [hs_fs, uR]⟩
theorem fF_6_8 : fF 6 8 RX6 TX6 11 tyX6 := ⟨rfl, by decide, in_6, tyX6_ok, nmX6, by decide⟩
theorem fR_6_8 : fR 6 8 := ⟨fun _ _ => rfl, fun s a v => by simp [hs_fs, uR]⟩
theorem fF_6_9 : fF 6 9 RX6 TX6 11 tyX6 := ⟨rfl, by decide, in_6, tyX6_ok, nmX6, by decide⟩
theorem fI_6_9 : fI 6 9 := ⟨fun _ _ => rfl, fun s a v => by simp [hs_fs, uI]⟩
theorem fF_6_10 : fF 6 10 RX6 TX6 11 tyX6 := ⟨rfl, by decide, in_6, tyX6_ok, nmX6, by decide⟩
theorem fR_6_10 : fR 6 10 := ⟨fun _ _ => rfl, fun s a v => by simp [hs_fs, uR]⟩
theorem in_7 : ∀ w ∈ u_ws RX7 TX7 34, w ∈ tbG := fun w hw => tbG_in ((by decide +kernel : ∀ w ∈ u_ws RX7 TX7 34, w ∈ lw_tbl) w hw) ((by decide +kernel : ∀ w ∈ u_ws RX7 TX7 34, goodWord w = true) w hw)
theorem nf_7 : classes[7]? = some (RX7, TX7, 34) ∧ (∀ w ∈ u_ws RX7 TX7 34, w ∈ tbG) ∧ (∀ k, k < 34 → parseFieldDescriptor (TX7 k).2.2.1 = some (tyX7 k)) ∧ 7 < 8 := ⟨rfl, in_7, tyX7_ok, by decide⟩
theorem n0_7 : ∀ (s : hS) (a : Nat), s.2.2.2.1 a = (fun _ => 0) → s.2.2.2.2 a = (fun _ => none) → ∀ j, j < 34 → defaultValue (tyX7 j) = vp_V (hs_fs s a 7) j := by
  intro s a h1 h2 j hj
  simp only [hs_fs, h1, h2]
  match j, hj with
  | 0, _ => rfl
  | 1, _ => rfl
  | 2, _ => rfl
  | 3, _ => rfl
  | 4, _ => rfl
  | 5, _ => rfl
  | 6, _ => rfl
  | 7, _ => rfl
  | 8, _ => rfl
  | 9, _ => rfl
  | 10, _ => rfl
  | 11, _ => rfl
  | 12, _ => rfl
  | 13, _ => rfl
  | 14, _ => rfl
  | 15, _ => rfl
  | 16, _ => rfl
  | 17, _ => rfl
  | 18, _ => rfl
  | 19, _ => rfl
  | 20, _ => rfl
  | 21, _ => rfl
  | 22, _ => rfl
  | 23, _ => rfl
  | 24, _ => rfl
  | 25, _ => rfl
  | 26, _ => rfl
  | 27, _ => rfl
  | 28, _ => rfl
  | 29, _ => rfl
  | 30, _ => rfl
  | 31, _ => rfl
  | 32, _ => rfl
  | 33, _ => rfl
  | j + 34, hj => exact absurd hj (by omega)
theorem cc_7 : classes[7]? = some (RX7, TX7, 34) ∧ 7 < 8 ∧ RX7 = "HeronTalkModel" := ⟨rfl, by decide, rfl⟩
theorem fF_7_0 : fF 7 0 RX7 TX7 34 tyX7 := ⟨rfl, by decide, in_7, tyX7_ok, nmX7, by decide⟩
theorem fR_7_0 : fR 7 0 := ⟨fun _ _ => rfl, fun s a v => by simp [hs_fs, uR]⟩
theorem fF_7_1 : fF 7 1 RX7 TX7 34 tyX7 := ⟨rfl, by decide, in_7, tyX7_ok, nmX7, by decide⟩
theorem fR_7_1 : fR 7 1 := ⟨fun _ _ => rfl, fun s a v => by simp [hs_fs, uR]⟩
theorem fF_7_2 : fF 7 2 RX7 TX7 34 tyX7 := ⟨rfl, by decide, in_7, tyX7_ok, nmX7, by decide⟩
theorem fR_7_2 : fR 7 2 := ⟨fun _ _ => rfl, fun s a v => by simp [hs_fs, uR]⟩
theorem fF_7_3 : fF 7 3 RX7 TX7 34 tyX7 := ⟨rfl, by decide, in_7, tyX7_ok, nmX7, by decide⟩
theorem fI_7_3 : fI 7 3 := ⟨fun _ _ => rfl, fun s a v => by simp [hs_fs, uI]⟩
theorem fF_7_4 : fF 7 4 RX7 TX7 34 tyX7 := ⟨rfl, by decide, in_7, tyX7_ok, nmX7, by decide⟩
theorem fR_7_4 : fR 7 4 := ⟨fun _ _ => rfl, fun s a v => by simp [hs_fs, uR]⟩
theorem fF_7_5 : fF 7 5 RX7 TX7 34 tyX7 := ⟨rfl, by decide, in_7, tyX7_ok, nmX7, by decide⟩
theorem fR_7_5 : fR 7 5 := ⟨fun _ _ => rfl, fun s a v => by simp [hs_fs, uR]⟩
theorem fF_7_6 : fF 7 6 RX7 TX7 34 tyX7 := ⟨rfl, by decide, in_7, tyX7_ok, nmX7, by decide⟩
theorem fR_7_6 : fR 7 6 := ⟨fun _ _ => rfl, fun s a v => by simp [hs_fs, uR]⟩
theorem fF_7_7 : fF 7 7 RX7 TX7 34 tyX7 := ⟨rfl, by decide, in_7, tyX7_ok, nmX7, by decide⟩
theorem fI_7_7 : fI 7 7 := ⟨fun _ _ => rfl, fun s a v => by simp [hs_fs, uI]⟩
theorem fF_7_8 : fF 7 8 RX7 TX7 34 tyX7 := ⟨rfl, by decide, in_7, tyX7_ok, nmX7, by decide⟩
theorem fI_7_8 : fI 7 8 := ⟨fun _ _ => rfl, fun s a v => by simp [hs_fs, uI]⟩
theorem fF_7_9 : fF 7 9 RX7 TX7 34 tyX7 := ⟨rfl, by decide, in_7, tyX7_ok, nmX7, by decide⟩
theorem fI_7_9 : fI 7 9 := ⟨fun _ _ => rfl, fun s a v => by simp [hs_fs, uI]⟩
theorem fF_7_10 : fF 7 10 RX7 TX7 34 tyX7 := ⟨rfl, by decide, in_7, tyX7_ok, nmX7, by decide⟩
theorem fI_7_10 : fI 7 10 := ⟨fun _ _ => rfl, fun s a v => by simp [hs_fs, uI]⟩
theorem fF_7_11 : fF 7 11 RX7 TX7 34 tyX7 := ⟨rfl, by decide, in_7, tyX7_ok, nmX7, by decide⟩
theorem fI_7_11 : fI 7 11 := ⟨fun _ _ => rfl, fun s a v => by simp [hs_fs, uI]⟩
theorem fF_7_12 : fF 7 12 RX7 TX7 34 tyX7 := ⟨rfl, by decide, in_7, tyX7_ok, nmX7, by decide⟩
theorem fI_7_12 : fI 7 12 := ⟨fun _ _ => rfl, fun s a v => by simp [hs_fs, uI]⟩
theorem fF_7_13 : fF 7 13 RX7 TX7 34 tyX7 := ⟨rfl, by decide, in_7, tyX7_ok, nmX7, by decide⟩
theorem fI_7_13 : fI 7 13 := ⟨fun _ _ => rfl, fun s a v => by simp [hs_fs, uI]⟩
theorem fF_7_14 : fF 7 14 RX7 TX7 34 tyX7 := ⟨rfl, by decide, in_7, tyX7_ok, nmX7, by decide⟩
theorem fR_7_14 : fR 7 14 := ⟨fun _ _ => rfl, fun s a v => by simp [hs_fs, uR]⟩
theorem fF_7_15 : fF 7 15 RX7 TX7 34 tyX7 := ⟨rfl, by decide, in_7, tyX7_ok, nmX7, by decide⟩
theorem fR_7_15 : fR 7 15 := ⟨fun _ _ => rfl, fun s a v => by simp [hs_fs, uR]⟩
theorem fF_7_16 : fF 7 16 RX7 TX7 34 tyX7 := ⟨rfl, by decide, in_7, tyX7_ok, nmX7, by decide⟩
theorem fR_7_16 : fR 7 16 := ⟨fun _ _ => rfl, fun s a v => by simp [hs_fs, uR]⟩
theorem fF_7_17 : fF 7 17 RX7 TX7 34 tyX7 := ⟨rfl, by decide, in_7, tyX7_ok, nmX7, by decide⟩
theorem fI_7_17 : fI 7 17 := ⟨fun _ _ => rfl, fun s a v => by simp [hs_fs, uI]⟩
theorem fF_7_18 : fF 7 18 RX7 TX7 34 tyX7 := ⟨rfl, by decide, in_7, tyX7_ok, nmX7, by decide⟩
theorem fI_7_18 : fI 7 18 := ⟨fun _ _ => rfl, fun s a v => by simp [hs_fs, uI]⟩
theorem fF_7_19 : fF 7 19 RX7 TX7 34 tyX7 := ⟨rfl, by decide, in_7, tyX7_ok, nmX7, by decide⟩
theorem fR_7_19 : fR 7 19 := ⟨fun _ _ => rfl, fun s a v => by simp [hs_fs, uR]⟩
theorem fF_7_20 : fF 7 20 RX7 TX7 34 tyX7 := ⟨rfl, by decide, in_7, tyX7_ok, nmX7, by decide⟩
theorem fI_7_20 : fI 7 20 := ⟨fun _ _ => rfl, fun s a v => by simp [hs_fs, uI]⟩
theorem fF_7_21 : fF 7 21 RX7 TX7 34 tyX7 := ⟨rfl, by decide, in_7, tyX7_ok, nmX7, by decide⟩
theorem fR_7_21 : fR 7 21 := ⟨fun _ _ => rfl, fun s a v => by simp [hs_fs, uR]⟩
theorem fF_7_22 : fF 7 22 RX7 TX7 34 tyX7 := ⟨rfl, by decide, in_7, tyX7_ok, nmX7, by decide⟩
theorem fR_7_22 : fR 7 22 := ⟨fun _ _ => rfl, fun s a v => by simp [hs_fs, uR]⟩
theorem fF_7_23 : fF 7 23 RX7 TX7 34 tyX7 := ⟨rfl, by decide, in_7, tyX7_ok, nmX7, by decide⟩
theorem fR_7_23 : fR 7 23 := ⟨fun _ _ => rfl, fun s a v => by simp [hs_fs, uR]⟩
theorem fF_7_24 : fF 7 24 RX7 TX7 34 tyX7 := ⟨rfl, by decide, in_7, tyX7_ok, nmX7, by decide⟩
theorem fR_7_24 : fR 7 24 := ⟨fun _ _ => rfl, fun s a v => by simp [hs_fs, uR]⟩
theorem fF_7_25 : fF 7 25 RX7 TX7 34 tyX7 := ⟨rfl, by decide, in_7, tyX7_ok, nmX7, by decide⟩
theorem fR_7_25 : fR 7 25 := ⟨fun _ _ => rfl, fun s a v => by simp [hs_fs, uR]⟩
theorem fF_7_26 : fF 7 26 RX7 TX7 34 tyX7 := ⟨rfl, by decide, in_7, tyX7_ok, nmX7, by decide⟩
theorem fR_7_26 : fR 7 26 := ⟨fun _ _ => rfl, fun s a v => by simp [hs_fs, uR]⟩
theorem fF_7_27 : fF 7 27 RX7 TX7 34 tyX7 := ⟨rfl, by decide, in_7, tyX7_ok, nmX7, by decide⟩
theorem fR_7_27 : fR 7 27 := ⟨fun _ _ => rfl, fun s a v => by simp [hs_fs, uR]⟩
theorem fF_7_28 : fF 7 28 RX7 TX7 34 tyX7 := ⟨rfl, by decide, in_7, tyX7_ok, nmX7, by decide⟩
theorem fR_7_28 : fR 7 28 := ⟨fun _ _ => rfl, fun s a v => by simp [hs_fs, uR]⟩
theorem fF_7_29 : fF 7 29 RX7 TX7 34 tyX7 := ⟨rfl, by decide, in_7, tyX7_ok, nmX7, by decide⟩
theorem fR_7_29 : fR 7 29 := ⟨fun _ _ => rfl, fun s a v => by simp [hs_fs, uR]⟩
theorem fF_7_30 : fF 7 30 RX7 TX7 34 tyX7 := ⟨rfl, by decide, in_7, tyX7_ok, nmX7, by decide⟩
theorem fR_7_30 : fR 7 30 := ⟨fun _ _ => rfl, fun s a v => by simp [hs_fs, uR]⟩
theorem fF_7_31 : fF 7 31 RX7 TX7 34 tyX7 := ⟨rfl, by decide, in_7, tyX7_ok, nmX7, by decide⟩
theorem fR_7_31 : fR 7 31 := ⟨fun _ _ => rfl, fun s a v => by simp [hs_fs, uR]⟩
theorem fF_7_32 : fF 7 32 RX7 TX7 34 tyX7 := ⟨rfl, by decide, in_7, tyX7_ok, nmX7, by decide⟩
theorem fR_7_32 : fR 7 32 := ⟨fun _ _ => rfl, fun s a v => by simp [hs_fs, uR]⟩
theorem fF_7_33 : fF 7 33 RX7 TX7 34 tyX7 := ⟨rfl, by decide, in_7, tyX7_ok, nmX7, by decide⟩
theorem fI_7_33 : fI 7 33 := ⟨fun _ _ => rfl, fun s a v => by simp [hs_fs, uI]⟩
theorem hti_8 : (∀ E, (hs_tys E)[0]? = some (E.2.2.2.1 8, .byte)) ∧ ¬ 8 < 8 ∧ 8 < 15 := ⟨fun _ => rfl, by decide, by decide⟩
theorem htn_8 : (∀ E, (hs_tys E)[0]? = some (E.2.2.2.1 8, .byte)) ∧ ¬ 8 < 8 ∧ 8 < 12 := ⟨fun _ => rfl, by decide, by decide⟩
theorem nty_8 : newarray.typeOf .byte = .byte ∧ (.byte : FieldType) ≠ .long ∧ componentBytes .byte ≤ 4 ∧ defaultValue .byte = .int 0 ∧ (∀ C, (.byte : FieldType) ≠ .object C) := ⟨rfl, by decide, by decide, rfl, fun C h => by cases h⟩
theorem hti_9 : (∀ E, (hs_tys E)[1]? = some (E.2.2.2.1 9, .char)) ∧ ¬ 9 < 8 ∧ 9 < 15 := ⟨fun _ => rfl, by decide, by decide⟩
theorem htn_9 : (∀ E, (hs_tys E)[1]? = some (E.2.2.2.1 9, .char)) ∧ ¬ 9 < 8 ∧ 9 < 12 := ⟨fun _ => rfl, by decide, by decide⟩
theorem nty_9 : newarray.typeOf .char = .char ∧ (.char : FieldType) ≠ .long ∧ componentBytes .char ≤ 4 ∧ defaultValue .char = .int 0 ∧ (∀ C, (.char : FieldType) ≠ .object C) := ⟨rfl, by decide, by decide, rfl, fun C h => by cases h⟩
theorem hti_10 : (∀ E, (hs_tys E)[2]? = some (E.2.2.2.1 10, .int)) ∧ ¬ 10 < 8 ∧ 10 < 15 := ⟨fun _ => rfl, by decide, by decide⟩
theorem htn_10 : (∀ E, (hs_tys E)[2]? = some (E.2.2.2.1 10, .int)) ∧ ¬ 10 < 8 ∧ 10 < 12 := ⟨fun _ => rfl, by decide, by decide⟩
theorem nty_10 : newarray.typeOf .int = .int ∧ (.int : FieldType) ≠ .long ∧ componentBytes .int ≤ 4 ∧ defaultValue .int = .int 0 ∧ (∀ C, (.int : FieldType) ≠ .object C) := ⟨rfl, by decide, by decide, rfl, fun C h => by cases h⟩
theorem hti_11 : (∀ E, (hs_tys E)[3]? = some (E.2.2.2.1 11, .boolean)) ∧ ¬ 11 < 8 ∧ 11 < 15 := ⟨fun _ => rfl, by decide, by decide⟩
theorem htn_11 : (∀ E, (hs_tys E)[3]? = some (E.2.2.2.1 11, .boolean)) ∧ ¬ 11 < 8 ∧ 11 < 12 := ⟨fun _ => rfl, by decide, by decide⟩
theorem nty_11 : newarray.typeOf .boolean = .boolean ∧ (.boolean : FieldType) ≠ .long ∧ componentBytes .boolean ≤ 4 ∧ defaultValue .boolean = .int 0 ∧ (∀ C, (.boolean : FieldType) ≠ .object C) := ⟨rfl, by decide, by decide, rfl, fun C h => by cases h⟩
theorem hta_12 : (∀ E, (hs_tys E)[4]? = some (E.2.2.2.1 12, .object RX1)) ∧ ¬ 12 < 12 ∧ 12 < 15 := ⟨fun _ => rfl, by decide, by decide⟩
theorem hti_12 : (∀ E, (hs_tys E)[4]? = some (E.2.2.2.1 12, .object RX1)) ∧ ¬ 12 < 8 ∧ 12 < 15 := ⟨fun _ => rfl, by decide, by decide⟩
theorem hts_12 : (∀ E, (hs_tys E)[4]? = some (E.2.2.2.1 12, .object ((RX1, TX1, 3) : vw_C).1)) ∧ ¬ 12 < 12 ∧ 12 < 15 ∧ classes[1]? = some (RX1, TX1, 3) ∧ 1 < 8 := ⟨fun _ => rfl, by decide, by decide, rfl, by decide⟩
theorem hao_12 : ∀ E U, hs_T E U → va_AO RX1 U := fun E U h => h.2.1.1
theorem hta_13 : (∀ E, (hs_tys E)[5]? = some (E.2.2.2.1 13, .object RX2)) ∧ ¬ 13 < 12 ∧ 13 < 15 := ⟨fun _ => rfl, by decide, by decide⟩
theorem hti_13 : (∀ E, (hs_tys E)[5]? = some (E.2.2.2.1 13, .object RX2)) ∧ ¬ 13 < 8 ∧ 13 < 15 := ⟨fun _ => rfl, by decide, by decide⟩
theorem hts_13 : (∀ E, (hs_tys E)[5]? = some (E.2.2.2.1 13, .object ((RX2, TX2, 6) : vw_C).1)) ∧ ¬ 13 < 12 ∧ 13 < 15 ∧ classes[2]? = some (RX2, TX2, 6) ∧ 2 < 8 := ⟨fun _ => rfl, by decide, by decide, rfl, by decide⟩
theorem hao_13 : ∀ E U, hs_T E U → va_AO RX2 U := fun E U h => h.2.1.2.1
theorem hta_14 : (∀ E, (hs_tys E)[6]? = some (E.2.2.2.1 14, .object RX4)) ∧ ¬ 14 < 12 ∧ 14 < 15 := ⟨fun _ => rfl, by decide, by decide⟩
theorem hti_14 : (∀ E, (hs_tys E)[6]? = some (E.2.2.2.1 14, .object RX4)) ∧ ¬ 14 < 8 ∧ 14 < 15 := ⟨fun _ => rfl, by decide, by decide⟩
theorem hts_14 : (∀ E, (hs_tys E)[6]? = some (E.2.2.2.1 14, .object ((RX4, TX4, 4) : vw_C).1)) ∧ ¬ 14 < 12 ∧ 14 < 15 ∧ classes[4]? = some (RX4, TX4, 4) ∧ 4 < 8 := ⟨fun _ => rfl, by decide, by decide, rfl, by decide⟩
theorem hao_14 : ∀ E U, hs_T E U → va_AO RX4 U := fun E U h => h.2.1.2.2
theorem nl_X6_held : ∀ E U, hs_T E U → va_Nw (.methodLinkNest "HeronTalk$Town" 119 yX6_held "HeronTalk") U := fun E U h => h.2.2.1.1
theorem nl_X6_isOfKind : ∀ E U, hs_T E U → va_Nw (.methodLinkNest "HeronTalk$Town" 126 yX6_isOfKind "HeronTalk") U := fun E U h => h.2.2.1.2.1
theorem nl_X6_goes : ∀ E U, hs_T E U → va_Nw (.methodLinkNest "HeronTalk$Town" 140 yX6_goes "HeronTalk") U := fun E U h => h.2.2.1.2.2
theorem w_oi1 : Cond.instanceMethod objectInit ∈ tbG := w_0
theorem w_oi2 : Cond.code objectInit ⟨#[0xb1]⟩ 1 none ∈ tbG := w_1
theorem w_math : Cond.initialized "java/lang/Math" ∈ tbG := w_2
theorem w_max1 : Cond.static Lib.Math.max.name ∈ tbG := w_3
theorem w_max2 : Cond.code Lib.Math.max.name Lib.Math.max.code 2 (some .int) ∈ tbG := w_4
theorem w_min1 : Cond.static Lib.Math.min.name ∈ tbG := w_5
theorem w_min2 : Cond.code Lib.Math.min.name Lib.Math.min.code 2 (some .int) ∈ tbG := w_6
theorem w_ac1 : Cond.native arraycopyName ∈ tbG := w_7
theorem w_ac2 : Cond.static arraycopyName ∈ tbG := w_8
theorem w_ac3 : Cond.initialized "java/lang/System" ∈ tbG := w_9
end
section
def slen (k : Nat) : Int32 := Int32.ofNat (([5, 4, 4] : List Nat).getD k 0)
def sat (k : Nat) (i : Int32) : Option Int32 := if k < 3 ∧ ¬ (i < 0 ∨ ([5, 4, 4] : List Nat).getD k 0 ≤ i.toNatClampNeg) then some ((hs_byt.getD k []).getD i.toNatClampNeg 0) else none
section JS
variable {α β : Type} {E : jE} {M My : jM} {cv : α → Option Value} {cvy : β → Option Value} {pc q : Nat} {ls ls' : List (Nat × Value)} {st rest : List Value} {s : hS} {o : Option (α × hS)} {oy : Option (β × hS)} {g : β × hS → Option (α × hS)} {y : MethodName}
theorem Jo_ldcS0 {idx : Nat} (hd : dI M.2.1 pc q (.ldc idx) 2) (hM : (M.1, idx) = (RX0, 81)) (k : Jo E M cv q ls (.ref (E.2.2.2.2.2.1 0) :: st) s o) : Jo E M cv pc ls st s o := by
  obtain ⟨hd, rfl⟩ := hd
  obtain ⟨h1, h2⟩ := Prod.mk.inj hM
  subst h2
  exact Jo.pure (fun _ _ _ _ _ _ _ _ _ _ _ _ _ lsA _ C _ hl0 _ _ kk => va_ldcS C.1 C.2.1 (by rw [← h1]; exact C.2.2.2.1) C.2.2.2.2.2.2.2.2.2.1.2.2.2.1 hd (kk lsA hl0)) k
theorem Jo_ldcS1 {idx : Nat} (hd : dI M.2.1 pc q (.ldc idx) 2) (hM : (M.1, idx) = (RX0, 87)) (k : Jo E M cv q ls (.ref (E.2.2.2.2.2.1 1) :: st) s o) : Jo E M cv pc ls st s o := by
  obtain ⟨hd, rfl⟩ := hd
  obtain ⟨h1, h2⟩ := Prod.mk.inj hM
  subst h2
  exact Jo.pure (fun _ _ _ _ _ _ _ _ _ _ _ _ _ lsA _ C _ hl0 _ _ kk => va_ldcS C.1 C.2.1 (by rw [← h1]; exact C.2.2.2.1) C.2.2.2.2.2.2.2.2.2.1.2.2.2.2.1 hd (kk lsA hl0)) k
theorem Jo_ldcS2 {idx : Nat} (hd : dI M.2.1 pc q (.ldc idx) 2) (hM : (M.1, idx) = (RX0, 89)) (k : Jo E M cv q ls (.ref (E.2.2.2.2.2.1 2) :: st) s o) : Jo E M cv pc ls st s o := by
  obtain ⟨hd, rfl⟩ := hd
  obtain ⟨h1, h2⟩ := Prod.mk.inj hM
  subst h2
  exact Jo.pure (fun _ _ _ _ _ _ _ _ _ _ _ _ _ lsA _ C _ hl0 _ _ kk => va_ldcS C.1 C.2.1 (by rw [← h1]; exact C.2.2.2.1) C.2.2.2.2.2.2.2.2.2.1.2.2.2.2.2 hd (kk lsA hl0)) k
theorem Jo_sval {idx k : Nat} (hk : k < 3) (hd : dI M.2.1 pc q (.getfield idx) 3) (hl : Cond.fieldLink M.1 idx "java/lang/String" "value" "[B" ∈ tbG) (kk : Jo E M cv q ls (.ref (E.2.2.2.2.2.2 k) :: st) s o) : Jo E M cv pc ls (.ref (E.2.2.2.2.2.1 k) :: st) s o := by
  obtain ⟨hd, rfl⟩ := hd
  exact Jo.pure (fun _ _ _ _ _ _ _ _ _ _ _ _ _ lsA _ C hS hl0 _ _ k9 => vk_getf C.1 C.2.1 (C.2.2.2.2.2.2.2.2.2.2.1.2.2.2.2.1 k hk).2.2.1 hS C.2.2.2.1 (C.2.2.2.2.1 _ hl) (fun _ h => h) hd (k9 lsA hl0)) kk
theorem Jo_scod {idx k : Nat} (hk : k < 3) (hd : dI M.2.1 pc q (.getfield idx) 3) (hl : Cond.fieldLink M.1 idx "java/lang/String" "coder" "B" ∈ tbG) (kk : Jo E M cv q ls (.int 0 :: st) s o) : Jo E M cv pc ls (.ref (E.2.2.2.2.2.1 k) :: st) s o := by
  obtain ⟨hd, rfl⟩ := hd
  exact Jo.pure (fun _ _ _ _ _ _ _ _ _ _ _ _ _ lsA _ C hS hl0 _ _ k9 => vk_getf C.1 C.2.1 (C.2.2.2.2.2.2.2.2.2.2.1.2.2.2.2.1 k hk).2.1 hS C.2.2.2.1 (C.2.2.2.2.1 _ hl) (fun _ h => h) hd (k9 lsA hl0)) kk
theorem Jo_svlen {k : Nat} (hk : k < 3) (hd : dI M.2.1 pc q .arraylength 1) (kk : Jo E M cv q ls (.int (slen k) :: st) s o) : Jo E M cv pc ls (.ref (E.2.2.2.2.2.2 k) :: st) s o := by
  obtain ⟨hd, rfl⟩ := hd
  exact Jo.pure (fun _ _ _ _ _ _ _ _ _ _ _ _ _ lsA _ C hS hl0 _ _ k9 => va_tlen C.1 C.2.1 (C.2.2.2.2.2.2.2.2.2.2.1.2.2.2.2.1 k hk).2.2.2 hS rfl hd (k9 lsA hl0)) kk
theorem Jo_svld {k : Nat} {i : Int32} (hk : k < 3) (hi : ¬ (i < 0 ∨ ([5, 4, 4] : List Nat).getD k 0 ≤ i.toNatClampNeg)) (hd : dI M.2.1 pc q .baload 1) (kk : Jo E M cv q ls (.int ((hs_byt.getD k []).getD i.toNatClampNeg 0) :: st) s o) : Jo E M cv pc ls (.int i :: .ref (E.2.2.2.2.2.2 k) :: st) s o := by
  obtain ⟨hd, rfl⟩ := hd
  exact Jo.pure (fun _ _ _ _ _ _ _ _ _ _ _ _ _ lsA _ C hS hl0 _ _ k9 => va_tb C.1 C.2.1 (C.2.2.2.2.2.2.2.2.2.2.1.2.2.2.2.1 k hk).2.2.2 hS hi rfl hd (k9 lsA hl0)) kk
theorem Jo_compact {idx : Nat} (hd : dI M.2.1 pc q (.getstatic idx) 3) (hl : Cond.fieldLink M.1 idx "java/lang/String" "COMPACT_STRINGS" "Z" ∈ tbG) (k : Jo E M cv q ls (.int 1 :: st) s o) : Jo E M cv pc ls st s o := by
  obtain ⟨hd, rfl⟩ := hd
  exact Jo.pure (fun _ _ _ _ _ _ _ _ _ _ _ _ _ lsA _ C hS hl0 _ _ kk => va_gets C.1 C.2.1 C.2.2.2.2.2.2.2.2.2.2.1.2.2.1 hS C.2.2.2.1 (C.2.2.2.2.1 _ hl) (fun _ h => h) hd (kk lsA hl0)) k
theorem Jo_sioobe {idx : Nat} (hd : dI M.2.1 pc q (.getstatic idx) 3) (hl : Cond.fieldLink M.1 idx "jdk/internal/util/Preconditions" "SIOOBE_FORMATTER" "Ljava/util/function/BiFunction;" ∈ tbG) (k : ∀ v : Value, (v = .null ∨ ∃ t, v = .ref t) → Jo E M cv q ls (v :: st) s o) : Jo E M cv pc ls st s o := by
  obtain ⟨hd, rfl⟩ := hd
  intro r hr
  refine ⟨(k .null (Or.inl rfl) r hr).1, fun p e R s0 m args below meth c H locs cells slots lsA C hH hS h1 h2 hl0 => ?_⟩
  rcases C.2.2.2.2.2.2.2.2.2.2.1.2.2.2.1 with hz | ⟨t, hz⟩
  · exact va_gets C.1 C.2.1 hz hS C.2.2.2.1 (C.2.2.2.2.1 _ hl) (fun _ h => h) hd ((k .null (Or.inl rfl) r hr).2 p e R s0 m args below meth c H locs cells slots lsA C hH hS h1 h2 hl0)
  · exact va_gets C.1 C.2.1 hz hS C.2.2.2.1 (C.2.2.2.2.1 _ hl) (fun _ h => h) hd ((k (.ref t) (Or.inr ⟨t, rfl⟩) r hr).2 p e R s0 m args below meth c H locs cells slots lsA C hH hS h1 h2 hl0)
theorem Jo_tret {v : Int32} {ty : FieldType} (hr : M.2.2.2.1 = some ty) (hn : narrow ty (.int v) = .int v) (hd : dI M.2.1 pc q .ireturn 1) : Jo E M cvI pc ls [.int v] s (some (v, s)) := by
  intro r hr0
  cases hr0
  refine ⟨hs_le.rf s, fun p e R s0 m args below meth c H locs cells slots lsA C hH hS h1 h2 hl => ?_⟩
  simp only [Nat.sub_self, Nat.add_zero]
  exact W.zret (ty := ty) C.1 C.2.1 (by rw [C.2.2.1]; exact hr) hn (J.ret C hH hS) hS.2.2 hd.1 C.2.2.2.2.2.1
/-- a call whose answer is known -/
theorem Jo.call1 {av : List Value} {r1 : β × hS} (hK : jK E y My cvy av s (some r1))
    (h : ∀ (p : Program) (e : Env) (R : Room) (s0 : State) (m : MethodId) (args : Array Value) (below : List Frame) (meth : Method) (c : Code) (H : Heap) (locs : List Loc) (cells slots : Nat) (lsA : Array Slot),
      jCx E M p R s0 m args meth c → hs_H E s H → va_S (hs_A E) s0.heap H locs → lsA.size = M.2.2.1 → cells + (r1.2.1 - s.1) ≤ R.cells → slots + (r1.2.2.1 - s.2.1) ≤ R.slots → Met E.1 y (Cond.code y My.2.1 My.2.2.1 My.2.2.2.1 :: tbG) { frames := My.2.2.2.2.2.1, cells := r1.2.1 - s.1, slots := r1.2.2.1 - s.2.1, locals := My.2.2.2.2.2.2 } (va_Pc av (hs_W E s)) (jQ E (cvy r1.1) r1.2) (r1.2.1 - s.1) (r1.2.2.1 - s.2.1) (hs_A E) →
      va_Run p E.1 e R s0 m args below meth c H locs cells slots (r1.2.1 - s.1) (r1.2.2.1 - s.2.1) (F0 m pc lsA st) rest (jQ E (cvy r1.1) r1.2 av.toArray) (hs_A E))
    (kk : Jo E M cv (pc + 3) ls ((cvy r1.1).toList ++ rest) r1.2 o) : Jo E M cv pc ls st s o := by
  intro r hr
  have k := kk r hr
  obtain ⟨hle, hM⟩ := hK r1 rfl
  refine ⟨hle.tr k.1, fun p e R s0 m args below meth c H locs cells slots lsA C hH hS h1 h2 hl => ?_⟩
  have a1 := hle.1
  have a2 := hle.2
  have b1 := k.1.1
  have b2 := k.1.2
  refine va_callJ (h p e R s0 m args below meth c H locs cells slots lsA C hH hS hl.1 (by omega) (by omega) hM) hS fun H1 locs1 hH1 hS1 => ?_
  have e1 : cells + (r1.2.1 - s.1) + (r.2.1 - r1.2.1) = cells + (r.2.1 - s.1) := by omega
  have e2 : slots + (r1.2.2.1 - s.2.1) + (r.2.2.1 - r1.2.2.1) = slots + (r.2.2.1 - s.2.1) := by omega
  have h3 := k.2 p e R s0 m args below meth c H1 locs1 (cells + (r1.2.1 - s.1)) (slots + (r1.2.2.1 - s.2.1)) lsA C hH1 hS1 (by rw [e1]; exact h1) (by rw [e2]; exact h2) hl
  rw [e1, e2] at h3
  exact h3
theorem Jo_call1St {k idx n : Nat} {v : Int32} (hk : k < 3) (As : List Value) (hyc : y.cls = "java/lang/String") (hy : yF y My n) (hyv : Cond.instanceMethod y ∈ tbG ∧ Cond.selects y.cls y y ∈ tbG) (hl : Cond.methodLink M.1 idx y ∈ tbG) (hst : st = As.reverse ++ .ref (E.2.2.2.2.2.1 k) :: rest) (hn : As.length = n) (hroom : My.2.2.2.2.2.1 + 1 ≤ M.2.2.2.2.2.1 ∧ 8 + (My.2.2.1 + 11) + My.2.2.2.2.2.2 ≤ M.2.2.2.2.2.2 ∧ (rest.map fun v => v.category).sum ≤ 8) (hd : decode M.2.1 pc = .ok (.invokevirtual idx, 3)) (hq : pc + 3 = q) (hK : jK E y My cvI (.ref (E.2.2.2.2.2.1 k) :: As) s (some (v, s)))
    (kk : Jo E M cv q ls (.int v :: rest) s o) : Jo E M cv pc ls st s o := by
  subst hq
  refine Jo.call1 hK (fun p e R s0 m args below meth cd H locs cells slots lsA C0 hH hS hsz h1 h2 hM => ?_) kk
  have hts := C0.2.2.2.2.1
  have h8 := C0.2.2.2.2.2.2.2.1
  refine va_runV (As := As) (rest := rest) (Ts := tbG) (C := y.cls) (n := n) ⟨C0.1, C0.2.1, C0.2.2.2.2.2.2.1, C0.2.2.2.1, hts⟩ hM ⟨callB_of n hts hy.good rfl rfl rfl (hts _ hy.2.1) (hts _ hl) hy.2.2 ⟨Nat.le_trans hroom.1 h8.1, Nat.le_trans hroom.2.1 h8.2⟩, hts _ hyv.1, hts _ hyv.2⟩ ⟨hs_blind E s _, ?_, hs_pre C0 hH hS⟩ rfl hn hsz hst (by show 2 * 0 + _ ≤ 8; have := hroom.2.2; omega) hd ⟨h1, h2⟩
  rw [hyc]
  exact vk_recv C0.2.2.2.2.2.2.2.2.2.2.1.2.2.2.2 hk hS
theorem Jo_call1S {idx n : Nat} {r1 : β × hS} (As : List Value) (hy : yF y My n) (hys : Cond.static y ∈ tbG) (hl : Cond.methodLink M.1 idx y ∈ tbG) (hst : st = As.reverse ++ rest) (hn : As.length = n) (hroom : My.2.2.2.2.2.1 + 1 ≤ M.2.2.2.2.2.1 ∧ 8 + (My.2.2.1 + 11) + My.2.2.2.2.2.2 ≤ M.2.2.2.2.2.2 ∧ (rest.map fun v => v.category).sum ≤ 8) (hd : decode M.2.1 pc = .ok (.invokestatic idx, 3)) (hK : jK E y My cvy As s (some r1))
    (kk : Jo E M cv (pc + 3) ls ((cvy r1.1).toList ++ rest) r1.2 o) : Jo E M cv pc ls st s o := by
  refine Jo.call1 hK (fun p e R s0 m args below meth cd H locs cells slots lsA C0 hH hS hsz h1 h2 hM => ?_) kk
  have hts := C0.2.2.2.2.1
  have h8 := C0.2.2.2.2.2.2.2.1
  exact va_runS (As := As) (rest := rest) (Ts := tbG) (n := n) ⟨C0.1, C0.2.1, C0.2.2.2.2.2.2.1, C0.2.2.2.1, hts⟩ hM ⟨callB_of n hts hy.good rfl rfl rfl (hts _ hy.2.1) (hts _ hl) hy.2.2 ⟨Nat.le_trans hroom.1 h8.1, Nat.le_trans hroom.2.1 h8.2⟩, hts _ hys⟩ ⟨hs_blind E s _, hs_pre C0 hH hS⟩ rfl hn hsz hst (by show 2 * 0 + _ ≤ 8; have := hroom.2.2; omega) hd ⟨h1, h2⟩
/-- a branch that is known -/
theorem Jo_ift {c : Prop} [Decidable c] (h : c) {o1 o2 : Option (α × hS)} (k : Jo E M cv pc ls st s (if c then o1 else o2)) : Jo E M cv pc ls st s o1 := by rw [if_pos h] at k; exact k
theorem Jo_iff {c : Prop} [Decidable c] (h : ¬ c) {o1 o2 : Option (α × hS)} (k : Jo E M cv pc ls st s (if c then o1 else o2)) : Jo E M cv pc ls st s o2 := by rw [if_neg h] at k; exact k
end JS
abbrev M_J0_coder : jM := (RJ0, cJ0_coder_7d493, 1, some .byte, "coder", 0, 0)
abbrev M_J0_length : jM := (RJ0, cJ0_length_8abf5, 1, some .int, "length", 1, 20)
abbrev M_J0_isLatin1 : jM := (RJ0, cJ0_isLatin1_aae02, 1, some .boolean, "isLatin1", 0, 0)
abbrev M_J3_checkIndex : jM := (RJ3, cJ3_checkIndex_8e157, 3, some .int, "checkIndex", 0, 0)
abbrev M_J0_checkIndex : jM := (RJ0, cJ0_checkIndex_df160, 2, none, "checkIndex", 1, 22)
abbrev M_J1_charAt : jM := (RJ1, cJ1_charAt_3b067, 2, some .char, "charAt", 2, 43)
abbrev M_J0_charAt : jM := (RJ0, cJ0_charAt_5068e, 2, some .char, "charAt", 3, 64)
theorem dJ0_coder_7d493_0 : dI cJ0_coder_7d493 0 3 (.getstatic 38) 3 := ⟨by decide +kernel, rfl⟩
theorem dJ0_coder_7d493_3 : decode cJ0_coder_7d493 3 = .ok (.ifCond .eq 10, 3) := by decide +kernel
theorem dJ0_coder_7d493_6 : dI cJ0_coder_7d493 6 7 (.aload_n 0) 1 := ⟨by decide +kernel, rfl⟩
theorem dJ0_coder_7d493_7 : dI cJ0_coder_7d493 7 10 (.getfield 15) 3 := ⟨by decide +kernel, rfl⟩
theorem dJ0_coder_7d493_10 : decode cJ0_coder_7d493 10 = .ok (.goto 4, 3) := by decide +kernel
theorem dJ0_coder_7d493_13 : dI cJ0_coder_7d493 13 14 (.iconst 1) 1 := ⟨by decide +kernel, rfl⟩
theorem dJ0_coder_7d493_14 : dI cJ0_coder_7d493 14 15 (.ireturn) 1 := ⟨by decide +kernel, rfl⟩
theorem dJ0_length_8abf5_0 : dI cJ0_length_8abf5 0 1 (.aload_n 0) 1 := ⟨by decide +kernel, rfl⟩
theorem dJ0_length_8abf5_1 : dI cJ0_length_8abf5 1 4 (.getfield 9) 3 := ⟨by decide +kernel, rfl⟩
theorem dJ0_length_8abf5_4 : dI cJ0_length_8abf5 4 5 (.arraylength) 1 := ⟨by decide +kernel, rfl⟩
theorem dJ0_length_8abf5_5 : dI cJ0_length_8abf5 5 6 (.aload_n 0) 1 := ⟨by decide +kernel, rfl⟩
theorem dJ0_length_8abf5_6 : decode cJ0_length_8abf5 6 = .ok (.invokevirtual 335, 3) := by decide +kernel
theorem dJ0_length_8abf5_9 : dI cJ0_length_8abf5 9 10 (.ishr) 1 := ⟨by decide +kernel, rfl⟩
theorem dJ0_length_8abf5_10 : dI cJ0_length_8abf5 10 11 (.ireturn) 1 := ⟨by decide +kernel, rfl⟩
theorem dJ0_isLatin1_aae02_0 : dI cJ0_isLatin1_aae02 0 3 (.getstatic 38) 3 := ⟨by decide +kernel, rfl⟩
theorem dJ0_isLatin1_aae02_3 : decode cJ0_isLatin1_aae02 3 = .ok (.ifCond .eq 14, 3) := by decide +kernel
theorem dJ0_isLatin1_aae02_6 : dI cJ0_isLatin1_aae02 6 7 (.aload_n 0) 1 := ⟨by decide +kernel, rfl⟩
theorem dJ0_isLatin1_aae02_7 : dI cJ0_isLatin1_aae02 7 10 (.getfield 15) 3 := ⟨by decide +kernel, rfl⟩
theorem dJ0_isLatin1_aae02_10 : decode cJ0_isLatin1_aae02 10 = .ok (.ifCond .ne 7, 3) := by decide +kernel
theorem dJ0_isLatin1_aae02_13 : dI cJ0_isLatin1_aae02 13 14 (.iconst 1) 1 := ⟨by decide +kernel, rfl⟩
theorem dJ0_isLatin1_aae02_14 : decode cJ0_isLatin1_aae02 14 = .ok (.goto 4, 3) := by decide +kernel
theorem dJ0_isLatin1_aae02_17 : dI cJ0_isLatin1_aae02 17 18 (.iconst 0) 1 := ⟨by decide +kernel, rfl⟩
theorem dJ0_isLatin1_aae02_18 : dI cJ0_isLatin1_aae02 18 19 (.ireturn) 1 := ⟨by decide +kernel, rfl⟩
theorem dJ3_checkIndex_8e157_0 : dI cJ3_checkIndex_8e157 0 1 (.iload_n 0) 1 := ⟨by decide +kernel, rfl⟩
theorem dJ3_checkIndex_8e157_1 : decode cJ3_checkIndex_8e157 1 = .ok (.ifCond .lt 8, 3) := by decide +kernel
theorem dJ3_checkIndex_8e157_4 : dI cJ3_checkIndex_8e157 4 5 (.iload_n 0) 1 := ⟨by decide +kernel, rfl⟩
theorem dJ3_checkIndex_8e157_5 : dI cJ3_checkIndex_8e157 5 6 (.iload_n 1) 1 := ⟨by decide +kernel, rfl⟩
theorem dJ3_checkIndex_8e157_6 : decode cJ3_checkIndex_8e157 6 = .ok (.if_icmp .lt 10, 3) := by decide +kernel
theorem dJ3_checkIndex_8e157_9 : dI cJ3_checkIndex_8e157 9 10 (.aload_n 2) 1 := ⟨by decide +kernel, rfl⟩
theorem dJ3_checkIndex_8e157_10 : dI cJ3_checkIndex_8e157 10 11 (.iload_n 0) 1 := ⟨by decide +kernel, rfl⟩
theorem dJ3_checkIndex_8e157_11 : dI cJ3_checkIndex_8e157 11 12 (.iload_n 1) 1 := ⟨by decide +kernel, rfl⟩
theorem dJ3_checkIndex_8e157_12 : decode cJ3_checkIndex_8e157 12 = .ok (.invokestatic 95, 3) := by decide +kernel
theorem dJ3_checkIndex_8e157_16 : dI cJ3_checkIndex_8e157 16 17 (.iload_n 0) 1 := ⟨by decide +kernel, rfl⟩
theorem dJ3_checkIndex_8e157_17 : dI cJ3_checkIndex_8e157 17 18 (.ireturn) 1 := ⟨by decide +kernel, rfl⟩
theorem dJ0_checkIndex_df160_0 : dI cJ0_checkIndex_df160 0 1 (.iload_n 0) 1 := ⟨by decide +kernel, rfl⟩
theorem dJ0_checkIndex_df160_1 : dI cJ0_checkIndex_df160 1 2 (.iload_n 1) 1 := ⟨by decide +kernel, rfl⟩
theorem dJ0_checkIndex_df160_2 : dI cJ0_checkIndex_df160 2 5 (.getstatic 1053) 3 := ⟨by decide +kernel, rfl⟩
theorem dJ0_checkIndex_df160_5 : decode cJ0_checkIndex_df160 5 = .ok (.invokestatic 1059, 3) := by decide +kernel
theorem dJ0_checkIndex_df160_8 : dI cJ0_checkIndex_df160 8 9 (.pop) 1 := ⟨by decide +kernel, rfl⟩
theorem dJ0_checkIndex_df160_9 : dI cJ0_checkIndex_df160 9 10 (.return_) 1 := ⟨by decide +kernel, rfl⟩
theorem dJ1_charAt_3b067_0 : dI cJ1_charAt_3b067 0 1 (.iload_n 1) 1 := ⟨by decide +kernel, rfl⟩
theorem dJ1_charAt_3b067_1 : dI cJ1_charAt_3b067 1 2 (.aload_n 0) 1 := ⟨by decide +kernel, rfl⟩
theorem dJ1_charAt_3b067_2 : dI cJ1_charAt_3b067 2 3 (.arraylength) 1 := ⟨by decide +kernel, rfl⟩
theorem dJ1_charAt_3b067_3 : decode cJ1_charAt_3b067 3 = .ok (.invokestatic 9, 3) := by decide +kernel
theorem dJ1_charAt_3b067_6 : dI cJ1_charAt_3b067 6 7 (.aload_n 0) 1 := ⟨by decide +kernel, rfl⟩
theorem dJ1_charAt_3b067_7 : dI cJ1_charAt_3b067 7 8 (.iload_n 1) 1 := ⟨by decide +kernel, rfl⟩
theorem dJ1_charAt_3b067_8 : dI cJ1_charAt_3b067 8 9 (.baload) 1 := ⟨by decide +kernel, rfl⟩
theorem dJ1_charAt_3b067_9 : dI cJ1_charAt_3b067 9 12 (.sipush 255) 3 := ⟨by decide +kernel, rfl⟩
theorem dJ1_charAt_3b067_12 : dI cJ1_charAt_3b067 12 13 (.iand) 1 := ⟨by decide +kernel, rfl⟩
theorem dJ1_charAt_3b067_13 : dI cJ1_charAt_3b067 13 14 (.i2c) 1 := ⟨by decide +kernel, rfl⟩
theorem dJ1_charAt_3b067_14 : dI cJ1_charAt_3b067 14 15 (.ireturn) 1 := ⟨by decide +kernel, rfl⟩
theorem dJ0_charAt_5068e_0 : dI cJ0_charAt_5068e 0 1 (.aload_n 0) 1 := ⟨by decide +kernel, rfl⟩
theorem dJ0_charAt_5068e_1 : decode cJ0_charAt_5068e 1 = .ok (.invokevirtual 492, 3) := by decide +kernel
theorem dJ0_charAt_5068e_4 : decode cJ0_charAt_5068e 4 = .ok (.ifCond .eq 12, 3) := by decide +kernel
theorem dJ0_charAt_5068e_7 : dI cJ0_charAt_5068e 7 8 (.aload_n 0) 1 := ⟨by decide +kernel, rfl⟩
theorem dJ0_charAt_5068e_8 : dI cJ0_charAt_5068e 8 11 (.getfield 9) 3 := ⟨by decide +kernel, rfl⟩
theorem dJ0_charAt_5068e_11 : dI cJ0_charAt_5068e 11 12 (.iload_n 1) 1 := ⟨by decide +kernel, rfl⟩
theorem dJ0_charAt_5068e_12 : decode cJ0_charAt_5068e 12 = .ok (.invokestatic 495, 3) := by decide +kernel
theorem dJ0_charAt_5068e_15 : dI cJ0_charAt_5068e 15 16 (.ireturn) 1 := ⟨by decide +kernel, rfl⟩
theorem dJ0_charAt_5068e_16 : dI cJ0_charAt_5068e 16 17 (.aload_n 0) 1 := ⟨by decide +kernel, rfl⟩
theorem dJ0_charAt_5068e_17 : dI cJ0_charAt_5068e 17 20 (.getfield 9) 3 := ⟨by decide +kernel, rfl⟩
theorem dJ0_charAt_5068e_20 : dI cJ0_charAt_5068e 20 21 (.iload_n 1) 1 := ⟨by decide +kernel, rfl⟩
theorem dJ0_charAt_5068e_21 : decode cJ0_charAt_5068e 21 = .ok (.invokestatic 498, 3) := by decide +kernel
theorem dJ0_charAt_5068e_24 : dI cJ0_charAt_5068e 24 25 (.ireturn) 1 := ⟨by decide +kernel, rfl⟩
theorem yF_J0_coder : yF yJ0_coder_7d493 M_J0_coder 0 := ⟨w_980, w_981, by decide +kernel⟩
theorem yV_J0_coder : Cond.instanceMethod yJ0_coder_7d493 ∈ tbG ∧ Cond.selects yJ0_coder_7d493.cls yJ0_coder_7d493 yJ0_coder_7d493 ∈ tbG := ⟨w_982, w_983⟩
theorem yF_J0_length : yF yJ0_length_8abf5 M_J0_length 0 := ⟨w_984, w_981, by decide +kernel⟩
theorem yV_J0_length : Cond.instanceMethod yJ0_length_8abf5 ∈ tbG ∧ Cond.selects yJ0_length_8abf5.cls yJ0_length_8abf5 yJ0_length_8abf5 ∈ tbG := ⟨w_985, w_986⟩
theorem yF_J0_isLatin1 : yF yJ0_isLatin1_aae02 M_J0_isLatin1 0 := ⟨w_987, w_981, by decide +kernel⟩
theorem yV_J0_isLatin1 : Cond.instanceMethod yJ0_isLatin1_aae02 ∈ tbG ∧ Cond.selects yJ0_isLatin1_aae02.cls yJ0_isLatin1_aae02 yJ0_isLatin1_aae02 ∈ tbG := ⟨w_988, w_989⟩
theorem yF_J3_checkIndex : yF yJ3_checkIndex_8e157 M_J3_checkIndex 3 := ⟨w_990, w_991, by decide +kernel⟩
theorem yF_J0_checkIndex : yF yJ0_checkIndex_df160 M_J0_checkIndex 2 := ⟨w_992, w_981, by decide +kernel⟩
theorem yF_J1_charAt : yF yJ1_charAt_3b067 M_J1_charAt 2 := ⟨w_993, w_994, by decide +kernel⟩
theorem yF_J0_charAt : yF yJ0_charAt_5068e M_J0_charAt 1 := ⟨w_995, w_981, by decide +kernel⟩
theorem yV_J0_charAt : Cond.instanceMethod yJ0_charAt_5068e ∈ tbG ∧ Cond.selects yJ0_charAt_5068e.cls yJ0_charAt_5068e yJ0_charAt_5068e ∈ tbG := ⟨w_996, w_997⟩
theorem K_J0_coder (E : jE) (s : hS) (k : Nat) (hk : k < 3) : jK E yJ0_coder_7d493 M_J0_coder cvI [.ref (E.2.2.2.2.2.1 k)] s (some (0, s)) := by
  refine jK_of ⟨by decide, rfl, rfl⟩ (Nat.le_of_ble_eq_true rfl) ?_
  refine Jo_compact dJ0_coder_7d493_0 w_998 ?_
  refine Jo_iff (c := (1 : Int32) = 0) (by decide) (Jo_if_eq 13 dJ0_coder_7d493_3 (by decide) rfl (o1 := none) Jo_none ?_)
  refine Jo_aloadn 0 dJ0_coder_7d493_6 rfl rfl ?_
  refine Jo_scod hk dJ0_coder_7d493_7 w_999 ?_
  refine Jo_goto 14 dJ0_coder_7d493_10 (by decide) ?_
  exact Jo_tret (ty := .byte) rfl rfl dJ0_coder_7d493_14
theorem K_J0_length (E : jE) (s : hS) (k : Nat) (hk : k < 3) : jK E yJ0_length_8abf5 M_J0_length cvI [.ref (E.2.2.2.2.2.1 k)] s (some (slen k, s)) := by
  refine jK_of ⟨by decide, rfl, rfl⟩ (Nat.le_of_ble_eq_true rfl) ?_
  refine Jo_aloadn 0 dJ0_length_8abf5_0 rfl rfl ?_
  refine Jo_sval hk dJ0_length_8abf5_1 w_1000 ?_
  refine Jo_svlen hk dJ0_length_8abf5_4 ?_
  refine Jo_aloadn 0 dJ0_length_8abf5_5 rfl rfl ?_
  refine Jo_call1St (k := k) (rest := [.int (slen k)]) hk [] rfl yF_J0_coder yV_J0_coder w_1001 rfl rfl ⟨by decide, by decide, Nat.le_of_ble_eq_true rfl⟩ dJ0_length_8abf5_6 rfl (K_J0_coder E s k hk) ?_
  refine Jo_ishr dJ0_length_8abf5_9 ?_
  have h0 : slen k >>> ((0 : Int32) &&& 31) = slen k := by
    match k, hk with
    | 0, _ => decide
    | 1, _ => decide
    | 2, _ => decide
    | j + 3, h => omega
  rw [h0]
  exact Jo_iret rfl dJ0_length_8abf5_10
theorem K_J0_isLatin1 (E : jE) (s : hS) (k : Nat) (hk : k < 3) : jK E yJ0_isLatin1_aae02 M_J0_isLatin1 cvI [.ref (E.2.2.2.2.2.1 k)] s (some (1, s)) := by
  refine jK_of ⟨by decide, rfl, rfl⟩ (Nat.le_of_ble_eq_true rfl) ?_
  refine Jo_compact dJ0_isLatin1_aae02_0 w_998 ?_
  refine Jo_iff (c := (1 : Int32) = 0) (by decide) (Jo_if_eq 17 dJ0_isLatin1_aae02_3 (by decide) rfl (o1 := none) Jo_none ?_)
  refine Jo_aloadn 0 dJ0_isLatin1_aae02_6 rfl rfl ?_
  refine Jo_scod hk dJ0_isLatin1_aae02_7 w_999 ?_
  refine Jo_ift (c := (0 : Int32) = 0) rfl (Jo_if_ne 17 dJ0_isLatin1_aae02_10 (by decide) rfl ?_ (o2 := none) Jo_none)
  refine Jo_iconst (v := 1) dJ0_isLatin1_aae02_13 (by decide) ?_
  refine Jo_goto 18 dJ0_isLatin1_aae02_14 (by decide) ?_
  exact Jo_zret1 rfl dJ0_isLatin1_aae02_18
theorem K_J3_checkIndex (E : jE) (s : hS) (i n : Int32) (v : Value) (hv : v = .null ∨ ∃ t, v = .ref t) (h0 : ¬ i < 0) (h1 : i < n) : jK E yJ3_checkIndex_8e157 M_J3_checkIndex cvI [.int i, .int n, v] s (some (i, s)) := by
  have hl : lv_args 0 [.int i, .int n, v] = [(0, .int i), (1, .int n), (2, v)] ∧ (lg_sl [.int i, .int n, v]).length ≤ 3 := by
    rcases hv with rfl | ⟨t, rfl⟩ <;> exact ⟨rfl, Nat.le_of_ble_eq_true rfl⟩
  refine jK_of ⟨by decide, rfl, rfl⟩ hl.2 ?_
  rw [hl.1]
  refine Jo_iloadn 0 dJ3_checkIndex_8e157_0 rfl rfl ?_
  refine Jo_iff (c := i < 0) h0 (Jo_if_lt 9 dJ3_checkIndex_8e157_1 (by decide) rfl (o1 := none) Jo_none ?_)
  refine Jo_iloadn 0 dJ3_checkIndex_8e157_4 rfl rfl ?_
  refine Jo_iloadn 1 dJ3_checkIndex_8e157_5 rfl rfl ?_
  refine Jo_ift (c := i < n) h1 (Jo_icmp_lt 16 dJ3_checkIndex_8e157_6 (by decide) rfl ?_ (o2 := none) Jo_none)
  refine Jo_iloadn 0 dJ3_checkIndex_8e157_16 rfl rfl ?_
  exact Jo_iret rfl dJ3_checkIndex_8e157_17
theorem K_J0_checkIndex (E : jE) (s : hS) (i n : Int32) (h0 : ¬ i < 0) (h1 : i < n) : jK E yJ0_checkIndex_df160 M_J0_checkIndex cvV [.int i, .int n] s (some ((), s)) := by
  refine jK_of ⟨by decide, rfl, rfl⟩ (Nat.le_of_ble_eq_true rfl) ?_
  refine Jo_iloadn 0 dJ0_checkIndex_df160_0 rfl rfl ?_
  refine Jo_iloadn 1 dJ0_checkIndex_df160_1 rfl rfl ?_
  refine Jo_sioobe dJ0_checkIndex_df160_2 w_1002 (fun v hv => ?_)
  refine Jo_call1S (rest := []) [.int i, .int n, v] yF_J3_checkIndex w_1003 w_1004 rfl rfl ⟨by decide, by decide, Nat.le_of_ble_eq_true rfl⟩ dJ0_checkIndex_df160_5 (K_J3_checkIndex E s i n v hv h0 h1) ?_
  refine Jo_pop (v := .int i) dJ0_checkIndex_df160_8 rfl ?_
  exact Jo_vret rfl dJ0_checkIndex_df160_9
theorem sb_bytes : ∀ k, k < 3 → ∀ j, j < ([5, 4, 4] : List Nat).getD k 0 → (((hs_byt.getD k []).getD j 0 &&& 255).toUInt32 % 65536).toInt32 = (hs_byt.getD k []).getD j 0 := by decide
theorem sb_bytes2 : ∀ k, k < 3 → ∀ j, j < ([5, 4, 4] : List Nat).getD k 0 → narrow .char (.int ((hs_byt.getD k []).getD j 0)) = .int ((hs_byt.getD k []).getD j 0) := by
  intro k hk j hj
  match k, hk with
  | 0, _ => match j, hj with
    | 0, _ => rfl
    | 1, _ => rfl
    | 2, _ => rfl
    | 3, _ => rfl
    | 4, _ => rfl
    | j + 5, h => exact absurd h (by simp)
  | 1, _ => match j, hj with
    | 0, _ => rfl
    | 1, _ => rfl
    | 2, _ => rfl
    | 3, _ => rfl
    | j + 4, h => exact absurd h (by simp)
  | 2, _ => match j, hj with
    | 0, _ => rfl
    | 1, _ => rfl
    | 2, _ => rfl
    | 3, _ => rfl
    | j + 4, h => exact absurd h (by simp)
  | j + 3, h => omega
theorem slen_lt {k : Nat} (hk : k < 3) {i : Int32} (hi : ¬ (i < 0 ∨ ([5, 4, 4] : List Nat).getD k 0 ≤ i.toNatClampNeg)) : i < slen k := by
  have h0 : ¬ i < 0 := fun h => hi (Or.inl h)
  have h1 : i.toNatClampNeg < ([5, 4, 4] : List Nat).getD k 0 := Nat.not_le.mp fun h => hi (Or.inr h)
  have h2 := nn_i i h0
  have h3 : (slen k).toInt = ((([5, 4, 4] : List Nat).getD k 0 : Nat) : Int) := by
    match k, hk with
    | 0, _ => decide
    | 1, _ => decide
    | 2, _ => decide
    | j + 3, h => omega
  rw [Int32.lt_iff_toInt_lt, h3, h2]
  omega
theorem K_J1_charAt (E : jE) (s : hS) (k : Nat) (hk : k < 3) (i : Int32) (hi : ¬ (i < 0 ∨ ([5, 4, 4] : List Nat).getD k 0 ≤ i.toNatClampNeg)) : jK E yJ1_charAt_3b067 M_J1_charAt cvI [.ref (E.2.2.2.2.2.2 k), .int i] s (some ((hs_byt.getD k []).getD i.toNatClampNeg 0, s)) := by
  have h0 : ¬ i < 0 := fun h => hi (Or.inl h)
  have h1 : i.toNatClampNeg < ([5, 4, 4] : List Nat).getD k 0 := Nat.not_le.mp fun h => hi (Or.inr h)
  refine jK_of ⟨by decide, rfl, rfl⟩ (Nat.le_of_ble_eq_true rfl) ?_
  refine Jo_iloadn 1 dJ1_charAt_3b067_0 rfl rfl ?_
  refine Jo_aloadn 0 dJ1_charAt_3b067_1 rfl rfl ?_
  refine Jo_svlen hk dJ1_charAt_3b067_2 ?_
  refine Jo_call1S (rest := []) [.int i, .int (slen k)] yF_J0_checkIndex w_1005 w_1006 rfl rfl ⟨by decide, by decide, Nat.le_of_ble_eq_true rfl⟩ dJ1_charAt_3b067_3 (K_J0_checkIndex E s i (slen k) h0 (slen_lt hk hi)) ?_
  refine Jo_aloadn (st := []) 0 dJ1_charAt_3b067_6 rfl rfl ?_
  refine Jo_iloadn 1 dJ1_charAt_3b067_7 rfl rfl ?_
  refine Jo_svld hk hi dJ1_charAt_3b067_8 ?_
  refine Jo_sipush (v := 255) dJ1_charAt_3b067_9 (by decide) ?_
  refine Jo_iand dJ1_charAt_3b067_12 ?_
  refine Jo_i2c dJ1_charAt_3b067_13 ?_
  rw [sb_bytes k hk _ h1]
  exact Jo_tret (ty := .char) rfl (sb_bytes2 k hk _ h1) dJ1_charAt_3b067_14
theorem K_J0_charAt (E : jE) (s : hS) (k : Nat) (hk : k < 3) (i : Int32) (hi : ¬ (i < 0 ∨ ([5, 4, 4] : List Nat).getD k 0 ≤ i.toNatClampNeg)) : jK E yJ0_charAt_5068e M_J0_charAt cvI [.ref (E.2.2.2.2.2.1 k), .int i] s (some ((hs_byt.getD k []).getD i.toNatClampNeg 0, s)) := by
  have h1 : i.toNatClampNeg < ([5, 4, 4] : List Nat).getD k 0 := Nat.not_le.mp fun h => hi (Or.inr h)
  refine jK_of ⟨by decide, rfl, rfl⟩ (Nat.le_of_ble_eq_true rfl) ?_
  refine Jo_aloadn 0 dJ0_charAt_5068e_0 rfl rfl ?_
  refine Jo_call1St (k := k) (rest := []) hk [] rfl yF_J0_isLatin1 yV_J0_isLatin1 w_1007 rfl rfl ⟨by decide, by decide, Nat.le_of_ble_eq_true rfl⟩ dJ0_charAt_5068e_1 rfl (K_J0_isLatin1 E s k hk) ?_
  refine Jo_iff (c := (1 : Int32) = 0) (by decide) (Jo_if_eq 16 dJ0_charAt_5068e_4 (by decide) rfl (o1 := none) Jo_none ?_)
  refine Jo_aloadn 0 dJ0_charAt_5068e_7 rfl rfl ?_
  refine Jo_sval hk dJ0_charAt_5068e_8 w_1000 ?_
  refine Jo_iloadn 1 dJ0_charAt_5068e_11 rfl rfl ?_
  refine Jo_call1S (rest := []) [.ref (E.2.2.2.2.2.2 k), .int i] yF_J1_charAt w_1008 w_1009 rfl rfl ⟨by decide, by decide, Nat.le_of_ble_eq_true rfl⟩ dJ0_charAt_5068e_12 (K_J1_charAt E s k hk i hi) ?_
  exact Jo_tret (ty := .char) rfl (sb_bytes2 k hk _ h1) dJ0_charAt_5068e_15
section JS2
variable {α : Type} {E : jE} {M : jM} {cv : α → Option Value} {pc q : Nat} {ls : List (Nat × Value)} {st : List Value} {s : hS}
theorem Jo_slen {k idx : Nat} {g : Int32 → Option (α × hS)} (hd : dI M.2.1 pc q (.invokevirtual idx) 3) (hl : Cond.methodLink M.1 idx yJ0_length_8abf5 ∈ tbG) (hroom : 2 ≤ M.2.2.2.2.2.1 ∧ 40 ≤ M.2.2.2.2.2.2 ∧ (st.map fun v => v.category).sum ≤ 8) (kk : ∀ x, Jo E M cv q ls (.int x :: st) s (g x)) : Jo E M cv pc ls (.ref (E.2.2.2.2.2.1 k) :: st) s ((if k < 3 then some (slen k) else none).bind g) := by
  by_cases hk : k < 3
  · rw [if_pos hk]
    exact Jo_call1St (k := k) (rest := st) hk [] rfl yF_J0_length yV_J0_length hl rfl rfl ⟨by show 1 + 1 ≤ _; exact hroom.1, by show 8 + (1 + 11) + 20 ≤ _; exact hroom.2.1, hroom.2.2⟩ hd.1 hd.2 (K_J0_length E s k hk) (kk (slen k))
  · rw [if_neg hk]; exact Jo_none
theorem Jo_sat {k idx : Nat} {i : Int32} {g : Int32 → Option (α × hS)} (hd : dI M.2.1 pc q (.invokevirtual idx) 3) (hl : Cond.methodLink M.1 idx yJ0_charAt_5068e ∈ tbG) (hroom : 4 ≤ M.2.2.2.2.2.1 ∧ 85 ≤ M.2.2.2.2.2.2 ∧ (st.map fun v => v.category).sum ≤ 8) (kk : ∀ x, Jo E M cv q ls (.int x :: st) s (g x)) : Jo E M cv pc ls (.int i :: .ref (E.2.2.2.2.2.1 k) :: st) s ((sat k i).bind g) := by
  by_cases hk : k < 3 ∧ ¬ (i < 0 ∨ ([5, 4, 4] : List Nat).getD k 0 ≤ i.toNatClampNeg)
  · rw [sat, if_pos hk]
    exact Jo_call1St (k := k) (rest := st) hk.1 [.int i] rfl yF_J0_charAt yV_J0_charAt hl rfl rfl ⟨by show 3 + 1 ≤ _; exact hroom.1, by show 8 + (2 + 11) + 64 ≤ _; exact hroom.2.1, hroom.2.2⟩ hd.1 hd.2 (K_J0_charAt E s k hk.1 i hk.2) (kk _)
  · rw [sat, if_neg hk]; exact Jo_none
end JS2
end
