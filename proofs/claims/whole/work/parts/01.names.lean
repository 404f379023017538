-- ===== PART A: goes FIRST, ahead of the names: the tables' words, and 'selects' of the private methods out of them =====
/-- a private method of a class that the tables say can be made, by its rows of tables_1 -/
def lw_okq (q : MethodName × Nat) : Prop := (q.1.cls ≠ "java/lang/invoke/MethodHandle" ∧ q.1.cls ≠ "java/lang/invoke/VarHandle") ∧ Cond.instantiable q.1.cls q.2 ∈ tables_1 ∧ Cond.privateMethod q.1 ∈ tables_1 ∧ Cond.instanceMethod q.1 ∈ tables_1
theorem lw_p0 : lw_okq (⟨"DropsDance$TextReader", "beginAnew", "(I)V"⟩, 12) := ⟨⟨by decide +kernel, by decide +kernel⟩, List.mem_of_getElem? (i := 30) (by decide +kernel), List.mem_of_getElem? (i := 393) (by decide +kernel), List.mem_of_getElem? (i := 394) (by decide +kernel)⟩
theorem lw_p1 : lw_okq (⟨"DropsDance$TextReader", "readToken", "()V"⟩, 12) := ⟨⟨by decide +kernel, by decide +kernel⟩, List.mem_of_getElem? (i := 30) (by decide +kernel), List.mem_of_getElem? (i := 402) (by decide +kernel), List.mem_of_getElem? (i := 403) (by decide +kernel)⟩
theorem lw_p2 : lw_okq (⟨"DropsDance$TextReader", "byteAt", "(I)I"⟩, 12) := ⟨⟨by decide +kernel, by decide +kernel⟩, List.mem_of_getElem? (i := 30) (by decide +kernel), List.mem_of_getElem? (i := 406) (by decide +kernel), List.mem_of_getElem? (i := 407) (by decide +kernel)⟩
theorem lw_p3 : lw_okq (⟨"DropsDance$TextReader", "refuse", "(II)V"⟩, 12) := ⟨⟨by decide +kernel, by decide +kernel⟩, List.mem_of_getElem? (i := 30) (by decide +kernel), List.mem_of_getElem? (i := 413) (by decide +kernel), List.mem_of_getElem? (i := 414) (by decide +kernel)⟩
theorem lw_p4 : lw_okq (⟨"DropsDance$TextReader", "isName", "(Ljava/lang/String;)Z"⟩, 12) := ⟨⟨by decide +kernel, by decide +kernel⟩, List.mem_of_getElem? (i := 30) (by decide +kernel), List.mem_of_getElem? (i := 418) (by decide +kernel), List.mem_of_getElem? (i := 419) (by decide +kernel)⟩
theorem lw_p5 : lw_okq (⟨"DropsDance$TextReader", "readRow", "()V"⟩, 12) := ⟨⟨by decide +kernel, by decide +kernel⟩, List.mem_of_getElem? (i := 30) (by decide +kernel), List.mem_of_getElem? (i := 470) (by decide +kernel), List.mem_of_getElem? (i := 471) (by decide +kernel)⟩
theorem lw_p6 : lw_okq (⟨"DropsDance$TextReader", "take", "(I)V"⟩, 12) := ⟨⟨by decide +kernel, by decide +kernel⟩, List.mem_of_getElem? (i := 30) (by decide +kernel), List.mem_of_getElem? (i := 474) (by decide +kernel), List.mem_of_getElem? (i := 475) (by decide +kernel)⟩
theorem lw_p7 : lw_okq (⟨"DropsDance$TextReader", "ruleNamed", "()I"⟩, 12) := ⟨⟨by decide +kernel, by decide +kernel⟩, List.mem_of_getElem? (i := 30) (by decide +kernel), List.mem_of_getElem? (i := 536) (by decide +kernel), List.mem_of_getElem? (i := 537) (by decide +kernel)⟩
theorem lw_p8 : lw_okq (⟨"DropsDance$TextReader", "readRule", "(I)V"⟩, 12) := ⟨⟨by decide +kernel, by decide +kernel⟩, List.mem_of_getElem? (i := 30) (by decide +kernel), List.mem_of_getElem? (i := 552) (by decide +kernel), List.mem_of_getElem? (i := 553) (by decide +kernel)⟩
theorem lw_p9 : lw_okq (⟨"DropsDance$TextReader", "readValue", "(II)V"⟩, 12) := ⟨⟨by decide +kernel, by decide +kernel⟩, List.mem_of_getElem? (i := 30) (by decide +kernel), List.mem_of_getElem? (i := 558) (by decide +kernel), List.mem_of_getElem? (i := 559) (by decide +kernel)⟩
theorem lw_p10 : lw_okq (⟨"DropsDance", "setDown", "(III)I"⟩, 12) := ⟨⟨by decide +kernel, by decide +kernel⟩, List.mem_of_getElem? (i := 22) (by decide +kernel), List.mem_of_getElem? (i := 629) (by decide +kernel), List.mem_of_getElem? (i := 630) (by decide +kernel)⟩
theorem lw_p11 : lw_okq (⟨"DropsDance$Scene", "loseSteam", "(LDropsDance$Drop;I)V"⟩, 11) := ⟨⟨by decide +kernel, by decide +kernel⟩, List.mem_of_getElem? (i := 103) (by decide +kernel), List.mem_of_getElem? (i := 671) (by decide +kernel), List.mem_of_getElem? (i := 672) (by decide +kernel)⟩
theorem lw_p12 : lw_okq (⟨"DropsDance$Scene", "leave", "(LDropsDance$Drop;I)V"⟩, 11) := ⟨⟨by decide +kernel, by decide +kernel⟩, List.mem_of_getElem? (i := 103) (by decide +kernel), List.mem_of_getElem? (i := 675) (by decide +kernel), List.mem_of_getElem? (i := 676) (by decide +kernel)⟩
theorem lw_p13 : lw_okq (⟨"DropsDance$Scene", "floatOn", "(LDropsDance$Drop;LDropsDance$Rules;I)V"⟩, 11) := ⟨⟨by decide +kernel, by decide +kernel⟩, List.mem_of_getElem? (i := 103) (by decide +kernel), List.mem_of_getElem? (i := 679) (by decide +kernel), List.mem_of_getElem? (i := 680) (by decide +kernel)⟩
theorem lw_p14 : lw_okq (⟨"DropsDance$Scene", "drawWay", "()I"⟩, 11) := ⟨⟨by decide +kernel, by decide +kernel⟩, List.mem_of_getElem? (i := 103) (by decide +kernel), List.mem_of_getElem? (i := 704) (by decide +kernel), List.mem_of_getElem? (i := 705) (by decide +kernel)⟩
theorem lw_p15 : lw_okq (⟨"DropsDance$Scene", "joinWhoIsThere", "(LDropsDance$Drop;)V"⟩, 11) := ⟨⟨by decide +kernel, by decide +kernel⟩, List.mem_of_getElem? (i := 103) (by decide +kernel), List.mem_of_getElem? (i := 716) (by decide +kernel), List.mem_of_getElem? (i := 717) (by decide +kernel)⟩
def lw_privs_1 : List (MethodName × Nat) := [(⟨"DropsDance$TextReader", "beginAnew", "(I)V"⟩, 12), (⟨"DropsDance$TextReader", "readToken", "()V"⟩, 12), (⟨"DropsDance$TextReader", "byteAt", "(I)I"⟩, 12), (⟨"DropsDance$TextReader", "refuse", "(II)V"⟩, 12), (⟨"DropsDance$TextReader", "isName", "(Ljava/lang/String;)Z"⟩, 12), (⟨"DropsDance$TextReader", "readRow", "()V"⟩, 12), (⟨"DropsDance$TextReader", "take", "(I)V"⟩, 12), (⟨"DropsDance$TextReader", "ruleNamed", "()I"⟩, 12), (⟨"DropsDance$TextReader", "readRule", "(I)V"⟩, 12), (⟨"DropsDance$TextReader", "readValue", "(II)V"⟩, 12), (⟨"DropsDance", "setDown", "(III)I"⟩, 12), (⟨"DropsDance$Scene", "loseSteam", "(LDropsDance$Drop;I)V"⟩, 11), (⟨"DropsDance$Scene", "leave", "(LDropsDance$Drop;I)V"⟩, 11), (⟨"DropsDance$Scene", "floatOn", "(LDropsDance$Drop;LDropsDance$Rules;I)V"⟩, 11), (⟨"DropsDance$Scene", "drawWay", "()I"⟩, 11), (⟨"DropsDance$Scene", "joinWhoIsThere", "(LDropsDance$Drop;)V"⟩, 11)]
theorem lw_r1 : ∀ q ∈ lw_privs_1, lw_okq q := List.forall_mem_cons.mpr ⟨lw_p0, List.forall_mem_cons.mpr ⟨lw_p1, List.forall_mem_cons.mpr ⟨lw_p2, List.forall_mem_cons.mpr ⟨lw_p3, List.forall_mem_cons.mpr ⟨lw_p4, List.forall_mem_cons.mpr ⟨lw_p5, List.forall_mem_cons.mpr ⟨lw_p6, List.forall_mem_cons.mpr ⟨lw_p7, List.forall_mem_cons.mpr ⟨lw_p8, List.forall_mem_cons.mpr ⟨lw_p9, List.forall_mem_cons.mpr ⟨lw_p10, List.forall_mem_cons.mpr ⟨lw_p11, List.forall_mem_cons.mpr ⟨lw_p12, List.forall_mem_cons.mpr ⟨lw_p13, List.forall_mem_cons.mpr ⟨lw_p14, List.forall_mem_cons.mpr ⟨lw_p15, fun _ h => absurd h List.not_mem_nil⟩⟩⟩⟩⟩⟩⟩⟩⟩⟩⟩⟩⟩⟩⟩⟩
theorem lw_p16 : lw_okq (⟨"DropsDance$Rules", "lifeFloating", "(I)I"⟩, 1) := ⟨⟨by decide +kernel, by decide +kernel⟩, List.mem_of_getElem? (i := 36) (by decide +kernel), List.mem_of_getElem? (i := 848) (by decide +kernel), List.mem_of_getElem? (i := 849) (by decide +kernel)⟩
theorem lw_p17 : lw_okq (⟨"DropsDance$Rules", "lifeTouching", "(II)I"⟩, 1) := ⟨⟨by decide +kernel, by decide +kernel⟩, List.mem_of_getElem? (i := 36) (by decide +kernel), List.mem_of_getElem? (i := 853) (by decide +kernel), List.mem_of_getElem? (i := 854) (by decide +kernel)⟩
theorem lw_p18 : lw_okq (⟨"DropsDance$Roller", "takeOut", "(I)J"⟩, 2) := ⟨⟨by decide +kernel, by decide +kernel⟩, List.mem_of_getElem? (i := 265) (by decide +kernel), List.mem_of_getElem? (i := 893) (by decide +kernel), List.mem_of_getElem? (i := 894) (by decide +kernel)⟩
theorem lw_p19 : lw_okq (⟨"DropsDance$Roller", "rollAll", "(LDropsDance$Scene;)V"⟩, 2) := ⟨⟨by decide +kernel, by decide +kernel⟩, List.mem_of_getElem? (i := 265) (by decide +kernel), List.mem_of_getElem? (i := 897) (by decide +kernel), List.mem_of_getElem? (i := 898) (by decide +kernel)⟩
theorem lw_p20 : lw_okq (⟨"DropsDance", "howManyImages", "()I"⟩, 12) := ⟨⟨by decide +kernel, by decide +kernel⟩, List.mem_of_getElem? (i := 22) (by decide +kernel), List.mem_of_getElem? (i := 995) (by decide +kernel), List.mem_of_getElem? (i := 996) (by decide +kernel)⟩
theorem lw_p21 : lw_okq (⟨"DropsDanceModel", "firstDraft", "()V"⟩, 29) := ⟨⟨by decide +kernel, by decide +kernel⟩, List.mem_of_getElem? (i := 1003) (by decide +kernel), List.mem_of_getElem? (i := 1009) (by decide +kernel), List.mem_of_getElem? (i := 1010) (by decide +kernel)⟩
theorem lw_p22 : lw_okq (⟨"DropsDanceModel", "keepDraft", "()V"⟩, 29) := ⟨⟨by decide +kernel, by decide +kernel⟩, List.mem_of_getElem? (i := 1003) (by decide +kernel), List.mem_of_getElem? (i := 1013) (by decide +kernel), List.mem_of_getElem? (i := 1014) (by decide +kernel)⟩
theorem lw_p23 : lw_okq (⟨"DropsDanceModel", "next", "()V"⟩, 29) := ⟨⟨by decide +kernel, by decide +kernel⟩, List.mem_of_getElem? (i := 1003) (by decide +kernel), List.mem_of_getElem? (i := 1121) (by decide +kernel), List.mem_of_getElem? (i := 1122) (by decide +kernel)⟩
theorem lw_p24 : lw_okq (⟨"DropsDanceModel", "look", "(I)I"⟩, 29) := ⟨⟨by decide +kernel, by decide +kernel⟩, List.mem_of_getElem? (i := 1003) (by decide +kernel), List.mem_of_getElem? (i := 1125) (by decide +kernel), List.mem_of_getElem? (i := 1126) (by decide +kernel)⟩
theorem lw_p25 : lw_okq (⟨"DropsDanceModel", "needs", "(ZI)V"⟩, 29) := ⟨⟨by decide +kernel, by decide +kernel⟩, List.mem_of_getElem? (i := 1003) (by decide +kernel), List.mem_of_getElem? (i := 1133) (by decide +kernel), List.mem_of_getElem? (i := 1134) (by decide +kernel)⟩
theorem lw_p26 : lw_okq (⟨"DropsDanceModel", "readLine", "()V"⟩, 29) := ⟨⟨by decide +kernel, by decide +kernel⟩, List.mem_of_getElem? (i := 1003) (by decide +kernel), List.mem_of_getElem? (i := 1137) (by decide +kernel), List.mem_of_getElem? (i := 1138) (by decide +kernel)⟩
theorem lw_p27 : lw_okq (⟨"DropsDanceModel", "nameNow", "()I"⟩, 29) := ⟨⟨by decide +kernel, by decide +kernel⟩, List.mem_of_getElem? (i := 1003) (by decide +kernel), List.mem_of_getElem? (i := 1141) (by decide +kernel), List.mem_of_getElem? (i := 1142) (by decide +kernel)⟩
theorem lw_p28 : lw_okq (⟨"DropsDanceModel", "starts", "(IIIII)Z"⟩, 29) := ⟨⟨by decide +kernel, by decide +kernel⟩, List.mem_of_getElem? (i := 1003) (by decide +kernel), List.mem_of_getElem? (i := 1145) (by decide +kernel), List.mem_of_getElem? (i := 1146) (by decide +kernel)⟩
theorem lw_p29 : lw_okq (⟨"DropsDanceModel", "readRow", "()V"⟩, 29) := ⟨⟨by decide +kernel, by decide +kernel⟩, List.mem_of_getElem? (i := 1003) (by decide +kernel), List.mem_of_getElem? (i := 1149) (by decide +kernel), List.mem_of_getElem? (i := 1150) (by decide +kernel)⟩
theorem lw_p30 : lw_okq (⟨"DropsDanceModel", "lowest", "(I)I"⟩, 29) := ⟨⟨by decide +kernel, by decide +kernel⟩, List.mem_of_getElem? (i := 1003) (by decide +kernel), List.mem_of_getElem? (i := 1159) (by decide +kernel), List.mem_of_getElem? (i := 1160) (by decide +kernel)⟩
theorem lw_p31 : lw_okq (⟨"DropsDanceModel", "highest", "(I)I"⟩, 29) := ⟨⟨by decide +kernel, by decide +kernel⟩, List.mem_of_getElem? (i := 1003) (by decide +kernel), List.mem_of_getElem? (i := 1163) (by decide +kernel), List.mem_of_getElem? (i := 1164) (by decide +kernel)⟩
def lw_privs_2 : List (MethodName × Nat) := [(⟨"DropsDance$Rules", "lifeFloating", "(I)I"⟩, 1), (⟨"DropsDance$Rules", "lifeTouching", "(II)I"⟩, 1), (⟨"DropsDance$Roller", "takeOut", "(I)J"⟩, 2), (⟨"DropsDance$Roller", "rollAll", "(LDropsDance$Scene;)V"⟩, 2), (⟨"DropsDance", "howManyImages", "()I"⟩, 12), (⟨"DropsDanceModel", "firstDraft", "()V"⟩, 29), (⟨"DropsDanceModel", "keepDraft", "()V"⟩, 29), (⟨"DropsDanceModel", "next", "()V"⟩, 29), (⟨"DropsDanceModel", "look", "(I)I"⟩, 29), (⟨"DropsDanceModel", "needs", "(ZI)V"⟩, 29), (⟨"DropsDanceModel", "readLine", "()V"⟩, 29), (⟨"DropsDanceModel", "nameNow", "()I"⟩, 29), (⟨"DropsDanceModel", "starts", "(IIIII)Z"⟩, 29), (⟨"DropsDanceModel", "readRow", "()V"⟩, 29), (⟨"DropsDanceModel", "lowest", "(I)I"⟩, 29), (⟨"DropsDanceModel", "highest", "(I)I"⟩, 29)]
theorem lw_r2 : ∀ q ∈ lw_privs_2, lw_okq q := List.forall_mem_cons.mpr ⟨lw_p16, List.forall_mem_cons.mpr ⟨lw_p17, List.forall_mem_cons.mpr ⟨lw_p18, List.forall_mem_cons.mpr ⟨lw_p19, List.forall_mem_cons.mpr ⟨lw_p20, List.forall_mem_cons.mpr ⟨lw_p21, List.forall_mem_cons.mpr ⟨lw_p22, List.forall_mem_cons.mpr ⟨lw_p23, List.forall_mem_cons.mpr ⟨lw_p24, List.forall_mem_cons.mpr ⟨lw_p25, List.forall_mem_cons.mpr ⟨lw_p26, List.forall_mem_cons.mpr ⟨lw_p27, List.forall_mem_cons.mpr ⟨lw_p28, List.forall_mem_cons.mpr ⟨lw_p29, List.forall_mem_cons.mpr ⟨lw_p30, List.forall_mem_cons.mpr ⟨lw_p31, fun _ h => absurd h List.not_mem_nil⟩⟩⟩⟩⟩⟩⟩⟩⟩⟩⟩⟩⟩⟩⟩⟩
theorem lw_p32 : lw_okq (⟨"DropsDanceModel", "readNumber", "(II)I"⟩, 29) := ⟨⟨by decide +kernel, by decide +kernel⟩, List.mem_of_getElem? (i := 1003) (by decide +kernel), List.mem_of_getElem? (i := 1167) (by decide +kernel), List.mem_of_getElem? (i := 1168) (by decide +kernel)⟩
theorem lw_p33 : lw_okq (⟨"DropsDanceModel", "inCell", "(II)I"⟩, 29) := ⟨⟨by decide +kernel, by decide +kernel⟩, List.mem_of_getElem? (i := 1003) (by decide +kernel), List.mem_of_getElem? (i := 1196) (by decide +kernel), List.mem_of_getElem? (i := 1197) (by decide +kernel)⟩
theorem lw_p34 : lw_okq (⟨"DropsDanceModel", "isThere", "(I)Z"⟩, 29) := ⟨⟨by decide +kernel, by decide +kernel⟩, List.mem_of_getElem? (i := 1003) (by decide +kernel), List.mem_of_getElem? (i := 1200) (by decide +kernel), List.mem_of_getElem? (i := 1201) (by decide +kernel)⟩
theorem lw_p35 : lw_okq (⟨"DropsDanceModel", "acts", "(I)V"⟩, 29) := ⟨⟨by decide +kernel, by decide +kernel⟩, List.mem_of_getElem? (i := 1003) (by decide +kernel), List.mem_of_getElem? (i := 1223) (by decide +kernel), List.mem_of_getElem? (i := 1224) (by decide +kernel)⟩
theorem lw_p36 : lw_okq (⟨"DropsDanceModel", "touches", "(I)Z"⟩, 29) := ⟨⟨by decide +kernel, by decide +kernel⟩, List.mem_of_getElem? (i := 1003) (by decide +kernel), List.mem_of_getElem? (i := 1227) (by decide +kernel), List.mem_of_getElem? (i := 1228) (by decide +kernel)⟩
theorem lw_p37 : lw_okq (⟨"DropsDanceModel", "hisses", "(II)I"⟩, 29) := ⟨⟨by decide +kernel, by decide +kernel⟩, List.mem_of_getElem? (i := 1003) (by decide +kernel), List.mem_of_getElem? (i := 1231) (by decide +kernel), List.mem_of_getElem? (i := 1232) (by decide +kernel)⟩
theorem lw_p38 : lw_okq (⟨"DropsDanceModel", "loses", "(II)V"⟩, 29) := ⟨⟨by decide +kernel, by decide +kernel⟩, List.mem_of_getElem? (i := 1003) (by decide +kernel), List.mem_of_getElem? (i := 1238) (by decide +kernel), List.mem_of_getElem? (i := 1239) (by decide +kernel)⟩
theorem lw_p39 : lw_okq (⟨"DropsDanceModel", "ends", "(II)V"⟩, 29) := ⟨⟨by decide +kernel, by decide +kernel⟩, List.mem_of_getElem? (i := 1003) (by decide +kernel), List.mem_of_getElem? (i := 1242) (by decide +kernel), List.mem_of_getElem? (i := 1243) (by decide +kernel)⟩
theorem lw_p40 : lw_okq (⟨"DropsDanceModel", "thins", "(II)I"⟩, 29) := ⟨⟨by decide +kernel, by decide +kernel⟩, List.mem_of_getElem? (i := 1003) (by decide +kernel), List.mem_of_getElem? (i := 1246) (by decide +kernel), List.mem_of_getElem? (i := 1247) (by decide +kernel)⟩
theorem lw_p41 : lw_okq (⟨"DropsDanceModel", "goesOn", "(I)V"⟩, 29) := ⟨⟨by decide +kernel, by decide +kernel⟩, List.mem_of_getElem? (i := 1003) (by decide +kernel), List.mem_of_getElem? (i := 1250) (by decide +kernel), List.mem_of_getElem? (i := 1251) (by decide +kernel)⟩
theorem lw_p42 : lw_okq (⟨"DropsDanceModel", "isTooth", "(II)Z"⟩, 29) := ⟨⟨by decide +kernel, by decide +kernel⟩, List.mem_of_getElem? (i := 1003) (by decide +kernel), List.mem_of_getElem? (i := 1254) (by decide +kernel), List.mem_of_getElem? (i := 1255) (by decide +kernel)⟩
theorem lw_p43 : lw_okq (⟨"DropsDanceModel", "draws", "()I"⟩, 29) := ⟨⟨by decide +kernel, by decide +kernel⟩, List.mem_of_getElem? (i := 1003) (by decide +kernel), List.mem_of_getElem? (i := 1258) (by decide +kernel), List.mem_of_getElem? (i := 1259) (by decide +kernel)⟩
theorem lw_p44 : lw_okq (⟨"DropsDanceModel", "isWall", "(I)Z"⟩, 29) := ⟨⟨by decide +kernel, by decide +kernel⟩, List.mem_of_getElem? (i := 1003) (by decide +kernel), List.mem_of_getElem? (i := 1267) (by decide +kernel), List.mem_of_getElem? (i := 1268) (by decide +kernel)⟩
theorem lw_p45 : lw_okq (⟨"DropsDanceModel", "thereMany", "()I"⟩, 29) := ⟨⟨by decide +kernel, by decide +kernel⟩, List.mem_of_getElem? (i := 1003) (by decide +kernel), List.mem_of_getElem? (i := 1271) (by decide +kernel), List.mem_of_getElem? (i := 1272) (by decide +kernel)⟩
theorem lw_p46 : lw_okq (⟨"DropsDanceModel", "copies", "(II)V"⟩, 29) := ⟨⟨by decide +kernel, by decide +kernel⟩, List.mem_of_getElem? (i := 1003) (by decide +kernel), List.mem_of_getElem? (i := 1299) (by decide +kernel), List.mem_of_getElem? (i := 1300) (by decide +kernel)⟩
theorem lw_p47 : lw_okq (⟨"DropsDanceModel", "sets", "(III)V"⟩, 29) := ⟨⟨by decide +kernel, by decide +kernel⟩, List.mem_of_getElem? (i := 1003) (by decide +kernel), List.mem_of_getElem? (i := 1312) (by decide +kernel), List.mem_of_getElem? (i := 1313) (by decide +kernel)⟩
def lw_privs_3 : List (MethodName × Nat) := [(⟨"DropsDanceModel", "readNumber", "(II)I"⟩, 29), (⟨"DropsDanceModel", "inCell", "(II)I"⟩, 29), (⟨"DropsDanceModel", "isThere", "(I)Z"⟩, 29), (⟨"DropsDanceModel", "acts", "(I)V"⟩, 29), (⟨"DropsDanceModel", "touches", "(I)Z"⟩, 29), (⟨"DropsDanceModel", "hisses", "(II)I"⟩, 29), (⟨"DropsDanceModel", "loses", "(II)V"⟩, 29), (⟨"DropsDanceModel", "ends", "(II)V"⟩, 29), (⟨"DropsDanceModel", "thins", "(II)I"⟩, 29), (⟨"DropsDanceModel", "goesOn", "(I)V"⟩, 29), (⟨"DropsDanceModel", "isTooth", "(II)Z"⟩, 29), (⟨"DropsDanceModel", "draws", "()I"⟩, 29), (⟨"DropsDanceModel", "isWall", "(I)Z"⟩, 29), (⟨"DropsDanceModel", "thereMany", "()I"⟩, 29), (⟨"DropsDanceModel", "copies", "(II)V"⟩, 29), (⟨"DropsDanceModel", "sets", "(III)V"⟩, 29)]
theorem lw_r3 : ∀ q ∈ lw_privs_3, lw_okq q := List.forall_mem_cons.mpr ⟨lw_p32, List.forall_mem_cons.mpr ⟨lw_p33, List.forall_mem_cons.mpr ⟨lw_p34, List.forall_mem_cons.mpr ⟨lw_p35, List.forall_mem_cons.mpr ⟨lw_p36, List.forall_mem_cons.mpr ⟨lw_p37, List.forall_mem_cons.mpr ⟨lw_p38, List.forall_mem_cons.mpr ⟨lw_p39, List.forall_mem_cons.mpr ⟨lw_p40, List.forall_mem_cons.mpr ⟨lw_p41, List.forall_mem_cons.mpr ⟨lw_p42, List.forall_mem_cons.mpr ⟨lw_p43, List.forall_mem_cons.mpr ⟨lw_p44, List.forall_mem_cons.mpr ⟨lw_p45, List.forall_mem_cons.mpr ⟨lw_p46, List.forall_mem_cons.mpr ⟨lw_p47, fun _ h => absurd h List.not_mem_nil⟩⟩⟩⟩⟩⟩⟩⟩⟩⟩⟩⟩⟩⟩⟩⟩
theorem lw_p48 : lw_okq (⟨"DropsDanceModel", "oneActs", "(I)V"⟩, 29) := ⟨⟨by decide +kernel, by decide +kernel⟩, List.mem_of_getElem? (i := 1003) (by decide +kernel), List.mem_of_getElem? (i := 1316) (by decide +kernel), List.mem_of_getElem? (i := 1317) (by decide +kernel)⟩
theorem lw_p49 : lw_okq (⟨"DropsDanceModel", "oneEnds", "(II)V"⟩, 29) := ⟨⟨by decide +kernel, by decide +kernel⟩, List.mem_of_getElem? (i := 1003) (by decide +kernel), List.mem_of_getElem? (i := 1320) (by decide +kernel), List.mem_of_getElem? (i := 1321) (by decide +kernel)⟩
theorem lw_p50 : lw_okq (⟨"DropsDanceModel", "oneGoes", "(I)V"⟩, 29) := ⟨⟨by decide +kernel, by decide +kernel⟩, List.mem_of_getElem? (i := 1003) (by decide +kernel), List.mem_of_getElem? (i := 1324) (by decide +kernel), List.mem_of_getElem? (i := 1325) (by decide +kernel)⟩
theorem lw_p51 : lw_okq (⟨"DropsDanceModel", "reachOf", "(IIII)I"⟩, 29) := ⟨⟨by decide +kernel, by decide +kernel⟩, List.mem_of_getElem? (i := 1003) (by decide +kernel), List.mem_of_getElem? (i := 1332) (by decide +kernel), List.mem_of_getElem? (i := 1333) (by decide +kernel)⟩
theorem lw_p52 : lw_okq (⟨"DropsDanceModel", "along", "(III)I"⟩, 29) := ⟨⟨by decide +kernel, by decide +kernel⟩, List.mem_of_getElem? (i := 1003) (by decide +kernel), List.mem_of_getElem? (i := 1341) (by decide +kernel), List.mem_of_getElem? (i := 1342) (by decide +kernel)⟩
theorem lw_p53 : lw_okq (⟨"DropsDanceModel", "lifeAt", "(IIZ)I"⟩, 29) := ⟨⟨by decide +kernel, by decide +kernel⟩, List.mem_of_getElem? (i := 1003) (by decide +kernel), List.mem_of_getElem? (i := 1365) (by decide +kernel), List.mem_of_getElem? (i := 1366) (by decide +kernel)⟩
theorem lw_p54 : lw_okq (⟨"DropsDanceModel", "floatsAt", "(IZ)Z"⟩, 29) := ⟨⟨by decide +kernel, by decide +kernel⟩, List.mem_of_getElem? (i := 1003) (by decide +kernel), List.mem_of_getElem? (i := 1369) (by decide +kernel), List.mem_of_getElem? (i := 1370) (by decide +kernel)⟩
theorem lw_p55 : lw_okq (⟨"DropsDanceModel", "lifeOf", "(IIZ)I"⟩, 29) := ⟨⟨by decide +kernel, by decide +kernel⟩, List.mem_of_getElem? (i := 1003) (by decide +kernel), List.mem_of_getElem? (i := 1373) (by decide +kernel), List.mem_of_getElem? (i := 1374) (by decide +kernel)⟩
theorem lw_p56 : lw_okq (⟨"DropsDanceModel", "spreads", "(I)J"⟩, 29) := ⟨⟨by decide +kernel, by decide +kernel⟩, List.mem_of_getElem? (i := 1003) (by decide +kernel), List.mem_of_getElem? (i := 1396) (by decide +kernel), List.mem_of_getElem? (i := 1397) (by decide +kernel)⟩
theorem lw_p57 : lw_okq (⟨"DropsDanceModel", "isRight", "(I)Z"⟩, 29) := ⟨⟨by decide +kernel, by decide +kernel⟩, List.mem_of_getElem? (i := 1003) (by decide +kernel), List.mem_of_getElem? (i := 1419) (by decide +kernel), List.mem_of_getElem? (i := 1420) (by decide +kernel)⟩
theorem lw_p58 : lw_okq (⟨"DropsDanceModel", "takesBack", "(II)V"⟩, 29) := ⟨⟨by decide +kernel, by decide +kernel⟩, List.mem_of_getElem? (i := 1003) (by decide +kernel), List.mem_of_getElem? (i := 1445) (by decide +kernel), List.mem_of_getElem? (i := 1446) (by decide +kernel)⟩
def lw_privs_4 : List (MethodName × Nat) := [(⟨"DropsDanceModel", "oneActs", "(I)V"⟩, 29), (⟨"DropsDanceModel", "oneEnds", "(II)V"⟩, 29), (⟨"DropsDanceModel", "oneGoes", "(I)V"⟩, 29), (⟨"DropsDanceModel", "reachOf", "(IIII)I"⟩, 29), (⟨"DropsDanceModel", "along", "(III)I"⟩, 29), (⟨"DropsDanceModel", "lifeAt", "(IIZ)I"⟩, 29), (⟨"DropsDanceModel", "floatsAt", "(IZ)Z"⟩, 29), (⟨"DropsDanceModel", "lifeOf", "(IIZ)I"⟩, 29), (⟨"DropsDanceModel", "spreads", "(I)J"⟩, 29), (⟨"DropsDanceModel", "isRight", "(I)Z"⟩, 29), (⟨"DropsDanceModel", "takesBack", "(II)V"⟩, 29)]
theorem lw_r4 : ∀ q ∈ lw_privs_4, lw_okq q := List.forall_mem_cons.mpr ⟨lw_p48, List.forall_mem_cons.mpr ⟨lw_p49, List.forall_mem_cons.mpr ⟨lw_p50, List.forall_mem_cons.mpr ⟨lw_p51, List.forall_mem_cons.mpr ⟨lw_p52, List.forall_mem_cons.mpr ⟨lw_p53, List.forall_mem_cons.mpr ⟨lw_p54, List.forall_mem_cons.mpr ⟨lw_p55, List.forall_mem_cons.mpr ⟨lw_p56, List.forall_mem_cons.mpr ⟨lw_p57, List.forall_mem_cons.mpr ⟨lw_p58, fun _ h => absurd h List.not_mem_nil⟩⟩⟩⟩⟩⟩⟩⟩⟩⟩⟩
def lw_privs : List (MethodName × Nat) := lw_privs_1 ++ (lw_privs_2 ++ (lw_privs_3 ++ (lw_privs_4)))
def lw_tbl : List Cond := k2_sels lw_privs ++ tables_1
theorem lw_privs_ok : ∀ q ∈ lw_privs, lw_okq q := by
  show ∀ q ∈ lw_privs_1 ++ (lw_privs_2 ++ (lw_privs_3 ++ (lw_privs_4))), lw_okq q
  exact List.forall_mem_append.mpr ⟨lw_r1, List.forall_mem_append.mpr ⟨lw_r2, List.forall_mem_append.mpr ⟨lw_r3, lw_r4⟩⟩⟩

theorem goodIn_r {big : List Cond} (ws : List Cond) (ps : List Nat) (hp : ws = ps.filterMap (fun i => big[i]?)) (h : ws.all goodWord = true) : GoodIn big ws := by
  intro w hw
  have h1 := List.all_eq_true.mp h w hw
  rw [hp] at hw
  obtain ⟨i, -, hi⟩ := List.mem_filterMap.mp hw
  have hm : w ∈ big := by first | exact List.mem_of_getElem? hi | exact List.getElem?_mem hi
  exact ⟨hm, good_of_word h1⟩
theorem goodIn_app {big a b : List Cond} (ha : GoodIn big a) (hb : GoodIn big b) : GoodIn big (a ++ b) := fun w h => (List.mem_append.mp h).elim (ha w) (hb w)
theorem goodIn_ca {big a b : List Cond} {c : Cond} (ha : GoodIn big (c :: a)) (hb : GoodIn big b) : GoodIn big (c :: (a ++ b)) := fun w h => (List.mem_cons.mp h).elim (fun e => ha w (List.mem_cons.mpr (Or.inl e))) (fun h => (List.mem_append.mp h).elim (fun h => ha w (List.mem_cons.mpr (Or.inr h))) (hb w))
theorem goodIn_sub {big ws : List Cond} (hm : ∀ w ∈ ws, w ∈ big) (h : ws.all goodWord = true) : GoodIn big ws := fun w hw => ⟨hm w hw, good_of_word (List.all_eq_true.mp h w hw)⟩
def RX0 : String := "DropsDance$Drop"
def TX0 : u_T := fun k => match k with
  | 0 => ("DropsDance$Drop", "cell", "I", false)
  | 1 => ("DropsDance$Drop", "size", "I", false)
  | 2 => ("DropsDance$Drop", "way", "I", false)
  | 3 => ("DropsDance$Drop", "gone", "I", false)
  | 4 => ("DropsDance$Drop", "goneTick", "I", false)
  | _ => ("DropsDance$Drop", "joinedTo", "I", false)
def tyX0 : Nat → FieldType := fun k => match k with
  | 0 => .int
  | 1 => .int
  | 2 => .int
  | 3 => .int
  | 4 => .int
  | _ => .int
abbrev wsX00 : List Cond := u_ws RX0 TX0 6
theorem nmX0 : ∀ a, a < 6 → ∀ b, b < 6 → a ≠ b → (TX0 a).2.1 ≠ (TX0 b).2.1 := by decide +kernel
theorem tyX0_ok : ∀ k, k < 6 → parseFieldDescriptor (TX0 k).2.2.1 = some (tyX0 k) := by decide +kernel
abbrev cX0_init : ByteArray := prog_2_method_1_code
def yX0_init : MethodName := ⟨RX0, "<init>", "()V"⟩
abbrev cX0_begin : ByteArray := prog_2_method_2_code
def yX0_begin : MethodName := ⟨RX0, "begin", "(III)V"⟩
abbrev cX0_takeAll : ByteArray := prog_2_method_3_code
def yX0_takeAll : MethodName := ⟨RX0, "takeAll", "(LDropsDance$Drop;)V"⟩
def RX1 : String := "DropsDance$Image"
def TX1 : u_T := fun k => match k with
  | 0 => ("DropsDance$Image", "scene", "LDropsDance$Scene;", true)
  | _ => ("DropsDance$Image", "there", "Z", false)
def tyX1 : Nat → FieldType := fun k => match k with
  | 0 => .object "DropsDance$Scene"
  | _ => .boolean
abbrev wsX10 : List Cond := u_ws RX1 TX1 2
theorem nmX1 : ∀ a, a < 2 → ∀ b, b < 2 → a ≠ b → (TX1 a).2.1 ≠ (TX1 b).2.1 := by decide +kernel
theorem tyX1_ok : ∀ k, k < 2 → parseFieldDescriptor (TX1 k).2.2.1 = some (tyX1 k) := by decide +kernel
abbrev cX1_init : ByteArray := prog_3_method_1_code
def yX1_init : MethodName := ⟨RX1, "<init>", "()V"⟩
def RX2 : String := "DropsDance$Loner"
def TX2 : u_T := fun k => match k with
  | 0 => ("DropsDance$Loner", "own", "LDropsDance$Scene;", true)
  | 1 => ("DropsDance$Loner", "been", "[I", true)
  | 2 => ("DropsDance$Loner", "worthTrying", "[I", true)
  | 3 => ("DropsDance$Loner", "firstCell", "I", false)
  | 4 => ("DropsDance$Loner", "firstSize", "I", false)
  | 5 => ("DropsDance$Loner", "firstWay", "I", false)
  | 6 => ("DropsDance$Loner", "bestTicks", "I", false)
  | 7 => ("DropsDance$Loner", "bestCell", "I", false)
  | _ => ("DropsDance$Loner", "bestKind", "I", false)
def tyX2 : Nat → FieldType := fun k => match k with
  | 0 => .object "DropsDance$Scene"
  | 1 => .array .int
  | 2 => .array .int
  | 3 => .int
  | 4 => .int
  | 5 => .int
  | 6 => .int
  | 7 => .int
  | _ => .int
abbrev wsX20 : List Cond := u_ws RX2 TX2 9
theorem nmX2 : ∀ a, a < 9 → ∀ b, b < 9 → a ≠ b → (TX2 a).2.1 ≠ (TX2 b).2.1 := by decide +kernel
theorem tyX2_ok : ∀ k, k < 9 → parseFieldDescriptor (TX2 k).2.2.1 = some (tyX2 k) := by decide +kernel
abbrev cX2_init : ByteArray := prog_4_method_1_code
def yX2_init : MethodName := ⟨RX2, "<init>", "()V"⟩
abbrev cX2_begin : ByteArray := prog_4_method_2_code
def yX2_begin : MethodName := ⟨RX2, "begin", "(LDropsDance$Scene;III)V"⟩
abbrev cX2_runOn : ByteArray := prog_4_method_3_code
def yX2_runOn : MethodName := ⟨RX2, "runOn", "(LDropsDance$Rules;I)LDropsDance$Drop;"⟩
abbrev cX2_ticksTill : ByteArray := prog_4_method_4_code
def yX2_ticksTill : MethodName := ⟨RX2, "ticksTill", "(LDropsDance$Rules;II)I"⟩
abbrev cX2_findMend : ByteArray := prog_4_method_5_code
def yX2_findMend : MethodName := ⟨RX2, "findMend", "(LDropsDance$Rules;I)Z"⟩
def RX3 : String := "DropsDance$Path"
def TX3 : u_T := fun k => match k with
  | 0 => ("DropsDance$Path", "walker", "LDropsDance$Drop;", true)
  | 1 => ("DropsDance$Path", "seenAt", "[I", true)
  | 2 => ("DropsDance$Path", "ticksBefore", "I", false)
  | _ => ("DropsDance$Path", "ticksRound", "I", false)
def tyX3 : Nat → FieldType := fun k => match k with
  | 0 => .object "DropsDance$Drop"
  | 1 => .array .int
  | 2 => .int
  | _ => .int
abbrev wsX30 : List Cond := u_ws RX3 TX3 4
theorem nmX3 : ∀ a, a < 4 → ∀ b, b < 4 → a ≠ b → (TX3 a).2.1 ≠ (TX3 b).2.1 := by decide +kernel
theorem tyX3_ok : ∀ k, k < 4 → parseFieldDescriptor (TX3 k).2.2.1 = some (tyX3 k) := by decide +kernel
abbrev cX3_init : ByteArray := prog_5_method_1_code
def yX3_init : MethodName := ⟨RX3, "<init>", "()V"⟩
abbrev cX3_follow : ByteArray := prog_5_method_2_code
def yX3_follow : MethodName := ⟨RX3, "follow", "(LDropsDance$Scene;LDropsDance$Rules;III)I"⟩
abbrev cX3_cellsRound : ByteArray := prog_5_method_3_code
def yX3_cellsRound : MethodName := ⟨RX3, "cellsRound", "()I"⟩
def RX4 : String := "DropsDance$Roller"
def TX4 : u_T := fun k => match k with
  | 0 => ("DropsDance$Roller", "courses", "[J", true)
  | _ => ("DropsDance$Roller", "coursesNext", "[J", true)
def tyX4 : Nat → FieldType := fun k => match k with
  | 0 => .array .long
  | _ => .array .long
abbrev wsX40 : List Cond := u_ws RX4 TX4 2
theorem nmX4 : ∀ a, a < 2 → ∀ b, b < 2 → a ≠ b → (TX4 a).2.1 ≠ (TX4 b).2.1 := by decide +kernel
theorem tyX4_ok : ∀ k, k < 2 → parseFieldDescriptor (TX4 k).2.2.1 = some (tyX4 k) := by decide +kernel
abbrev cX4_init : ByteArray := prog_6_method_1_code
def yX4_init : MethodName := ⟨RX4, "<init>", "()V"⟩
abbrev cX4_beenIn : ByteArray := prog_6_method_2_code
def yX4_beenIn : MethodName := ⟨RX4, "beenIn", "(LDropsDance$Scene;III)J"⟩
abbrev cX4_takeOut : ByteArray := prog_6_method_3_code
def yX4_takeOut : MethodName := ⟨RX4, "takeOut", "(I)J"⟩
abbrev cX4_rollAll : ByteArray := prog_6_method_4_code
def yX4_rollAll : MethodName := ⟨RX4, "rollAll", "(LDropsDance$Scene;)V"⟩
abbrev cX4_rolledTo : ByteArray := prog_6_method_5_code
def yX4_rolledTo : MethodName := ⟨RX4, "rolledTo", "(LDropsDance$Scene;II)I"⟩
def RX5 : String := "DropsDance$Rules"
def TX5 : u_T := fun k => match k with
  | _ => ("DropsDance$Rules", "values", "[I", true)
def tyX5 : Nat → FieldType := fun k => match k with
  | _ => .array .int
abbrev wsX50 : List Cond := u_ws RX5 TX5 1
theorem nmX5 : ∀ a, a < 1 → ∀ b, b < 1 → a ≠ b → (TX5 a).2.1 ≠ (TX5 b).2.1 := by decide +kernel
theorem tyX5_ok : ∀ k, k < 1 → parseFieldDescriptor (TX5 k).2.2.1 = some (tyX5 k) := by decide +kernel
abbrev cX5_init : ByteArray := prog_7_method_1_code
def yX5_init : MethodName := ⟨RX5, "<init>", "()V"⟩
abbrev cX5_beginAnew : ByteArray := prog_7_method_2_code
def yX5_beginAnew : MethodName := ⟨RX5, "beginAnew", "()V"⟩
abbrev cX5_takeAll : ByteArray := prog_7_method_3_code
def yX5_takeAll : MethodName := ⟨RX5, "takeAll", "(LDropsDance$Rules;)V"⟩
abbrev cX5_value : ByteArray := prog_7_method_4_code
def yX5_value : MethodName := ⟨RX5, "value", "(I)I"⟩
abbrev cX5_become : ByteArray := prog_7_method_5_code
def yX5_become : MethodName := ⟨RX5, "become", "(II)V"⟩
abbrev cX5_floatsAt : ByteArray := prog_7_method_6_code
def yX5_floatsAt : MethodName := ⟨RX5, "floatsAt", "(IZ)Z"⟩
abbrev cX5_teethSend : ByteArray := prog_7_method_7_code
def yX5_teethSend : MethodName := ⟨RX5, "teethSend", "(I)Z"⟩
abbrev cX5_hasChimney : ByteArray := prog_7_method_8_code
def yX5_hasChimney : MethodName := ⟨RX5, "hasChimney", "(I)Z"⟩
abbrev cX5_losesFloatingAt : ByteArray := prog_7_method_9_code
def yX5_losesFloatingAt : MethodName := ⟨RX5, "losesFloatingAt", "(I)Z"⟩
abbrev cX5_lossFloating : ByteArray := prog_7_method_10_code
def yX5_lossFloating : MethodName := ⟨RX5, "lossFloating", "(I)I"⟩
abbrev cX5_lossTouching : ByteArray := prog_7_method_11_code
def yX5_lossTouching : MethodName := ⟨RX5, "lossTouching", "(I)I"⟩
abbrev cX5_lifeOf : ByteArray := prog_7_method_12_code
def yX5_lifeOf : MethodName := ⟨RX5, "lifeOf", "(IIZ)I"⟩
abbrev cX5_lifeBy : ByteArray := prog_7_method_13_code
def yX5_lifeBy : MethodName := ⟨RX5, "lifeBy", "(IIZ)I"⟩
abbrev cX5_lifeTouching : ByteArray := prog_7_method_14_code
def yX5_lifeTouching : MethodName := ⟨RX5, "lifeTouching", "(II)I"⟩
abbrev cX5_lifeFloating : ByteArray := prog_7_method_15_code
def yX5_lifeFloating : MethodName := ⟨RX5, "lifeFloating", "(I)I"⟩
abbrev cX5_longestHeat : ByteArray := prog_7_method_16_code
def yX5_longestHeat : MethodName := ⟨RX5, "longestHeat", "(IZ)I"⟩
abbrev cX5_shortestLife : ByteArray := prog_7_method_17_code
def yX5_shortestLife : MethodName := ⟨RX5, "shortestLife", "(IZ)I"⟩
abbrev cX5_firstLonger : ByteArray := prog_7_method_18_code
def yX5_firstLonger : MethodName := ⟨RX5, "firstLonger", "(IZ)I"⟩
def RX6 : String := "DropsDance$Scene"
def TX6 : u_T := fun k => match k with
  | 0 => ("DropsDance$Scene", "cells", "[I", true)
  | 1 => ("DropsDance$Scene", "drops", "[LDropsDance$Drop;", true)
  | 2 => ("DropsDance$Scene", "many", "I", false)
  | 3 => ("DropsDance$Scene", "heat", "I", false)
  | 4 => ("DropsDance$Scene", "tick", "I", false)
  | 5 => ("DropsDance$Scene", "seed", "I", false)
  | 6 => ("DropsDance$Scene", "floating", "Z", false)
  | 7 => ("DropsDance$Scene", "steam", "I", false)
  | 8 => ("DropsDance$Scene", "fallen", "I", false)
  | 9 => ("DropsDance$Scene", "leapt", "I", false)
  | _ => ("DropsDance$Scene", "poured", "I", false)
def tyX6 : Nat → FieldType := fun k => match k with
  | 0 => .array .int
  | 1 => .array (.object "DropsDance$Drop")
  | 2 => .int
  | 3 => .int
  | 4 => .int
  | 5 => .int
  | 6 => .boolean
  | 7 => .int
  | 8 => .int
  | 9 => .int
  | _ => .int
abbrev wsX60 : List Cond := u_ws RX6 TX6 11
theorem nmX6 : ∀ a, a < 11 → ∀ b, b < 11 → a ≠ b → (TX6 a).2.1 ≠ (TX6 b).2.1 := by decide +kernel
theorem tyX6_ok : ∀ k, k < 11 → parseFieldDescriptor (TX6 k).2.2.1 = some (tyX6 k) := by decide +kernel
abbrev cX6_init : ByteArray := prog_8_method_1_code
def yX6_init : MethodName := ⟨RX6, "<init>", "()V"⟩
abbrev cX6_takeAll : ByteArray := prog_8_method_2_code
def yX6_takeAll : MethodName := ⟨RX6, "takeAll", "(LDropsDance$Scene;)V"⟩
abbrev cX6_beginAnew : ByteArray := prog_8_method_3_code
def yX6_beginAnew : MethodName := ⟨RX6, "beginAnew", "([I)V"⟩
abbrev cX6_beginAlone : ByteArray := prog_8_method_4_code
def yX6_beginAlone : MethodName := ⟨RX6, "beginAlone", "(LDropsDance$Scene;III)V"⟩
abbrev cX6_clearDrops : ByteArray := prog_8_method_5_code
def yX6_clearDrops : MethodName := ⟨RX6, "clearDrops", "()V"⟩
abbrev cX6_addDrop : ByteArray := prog_8_method_6_code
def yX6_addDrop : MethodName := ⟨RX6, "addDrop", "(III)I"⟩
abbrev cX6_kindAt : ByteArray := prog_8_method_7_code
def yX6_kindAt : MethodName := ⟨RX6, "kindAt", "(I)I"⟩
abbrev cX6_isOpen : ByteArray := prog_8_method_8_code
def yX6_isOpen : MethodName := ⟨RX6, "isOpen", "(I)Z"⟩
abbrev cX6_isDrop : ByteArray := prog_8_method_9_code
def yX6_isDrop : MethodName := ⟨RX6, "isDrop", "(I)Z"⟩
abbrev cX6_dropAt : ByteArray := prog_8_method_10_code
def yX6_dropAt : MethodName := ⟨RX6, "dropAt", "(I)I"⟩
abbrev cX6_howManyThere : ByteArray := prog_8_method_11_code
def yX6_howManyThere : MethodName := ⟨RX6, "howManyThere", "()I"⟩
abbrev cX6_sizesThere : ByteArray := prog_8_method_12_code
def yX6_sizesThere : MethodName := ⟨RX6, "sizesThere", "()I"⟩
abbrev cX6_howManyHoles : ByteArray := prog_8_method_13_code
def yX6_howManyHoles : MethodName := ⟨RX6, "howManyHoles", "()I"⟩
abbrev cX6_touches : ByteArray := prog_8_method_14_code
def yX6_touches : MethodName := ⟨RX6, "touches", "(LDropsDance$Drop;)Z"⟩
abbrev cX6_passTick : ByteArray := prog_8_method_15_code
def yX6_passTick : MethodName := ⟨RX6, "passTick", "(LDropsDance$Rules;I)V"⟩
abbrev cX6_loseSteam : ByteArray := prog_8_method_16_code
def yX6_loseSteam : MethodName := ⟨RX6, "loseSteam", "(LDropsDance$Drop;I)V"⟩
abbrev cX6_leave : ByteArray := prog_8_method_17_code
def yX6_leave : MethodName := ⟨RX6, "leave", "(LDropsDance$Drop;I)V"⟩
abbrev cX6_floatOn : ByteArray := prog_8_method_18_code
def yX6_floatOn : MethodName := ⟨RX6, "floatOn", "(LDropsDance$Drop;LDropsDance$Rules;I)V"⟩
abbrev cX6_joinWhoIsThere : ByteArray := prog_8_method_19_code
def yX6_joinWhoIsThere : MethodName := ⟨RX6, "joinWhoIsThere", "(LDropsDance$Drop;)V"⟩
abbrev cX6_wayOf : ByteArray := prog_8_method_20_code
def yX6_wayOf : MethodName := ⟨RX6, "wayOf", "(LDropsDance$Drop;LDropsDance$Rules;I)I"⟩
abbrev cX6_drawWay : ByteArray := prog_8_method_21_code
def yX6_drawWay : MethodName := ⟨RX6, "drawWay", "()I"⟩
abbrev cX6_stepOn : ByteArray := prog_8_method_22_code
def yX6_stepOn : MethodName := ⟨RX6, "stepOn", "(LDropsDance$Drop;I)V"⟩
def RX7 : String := "DropsDance$Sheet"
def TX7 : u_T := fun k => match k with
  | 0 => ("DropsDance$Sheet", "row", "[I", true)
  | 1 => ("DropsDance$Sheet", "lane", "I", false)
  | _ => ("DropsDance$Sheet", "length", "I", false)
def tyX7 : Nat → FieldType := fun k => match k with
  | 0 => .array .int
  | 1 => .int
  | _ => .int
abbrev wsX70 : List Cond := u_ws RX7 TX7 3
theorem nmX7 : ∀ a, a < 3 → ∀ b, b < 3 → a ≠ b → (TX7 a).2.1 ≠ (TX7 b).2.1 := by decide +kernel
theorem tyX7_ok : ∀ k, k < 3 → parseFieldDescriptor (TX7 k).2.2.1 = some (tyX7 k) := by decide +kernel
abbrev cX7_init : ByteArray := prog_9_method_1_code
def yX7_init : MethodName := ⟨RX7, "<init>", "()V"⟩
abbrev cX7_becomeNew : ByteArray := prog_9_method_2_code
def yX7_becomeNew : MethodName := ⟨RX7, "becomeNew", "(II)V"⟩
abbrev cX7_faultAt : ByteArray := prog_9_method_3_code
def yX7_faultAt : MethodName := ⟨RX7, "faultAt", "(I)I"⟩
abbrev cX7_faultOfDrop : ByteArray := prog_9_method_4_code
def yX7_faultOfDrop : MethodName := ⟨RX7, "faultOfDrop", "(III)I"⟩
abbrev cX7_write : ByteArray := prog_9_method_5_code
def yX7_write : MethodName := ⟨RX7, "write", "(II)V"⟩
abbrev cX7_valueAt : ByteArray := prog_9_method_6_code
def yX7_valueAt : MethodName := ⟨RX7, "valueAt", "(I)I"⟩
def RX8 : String := "DropsDance$TextReader"
def TX8 : u_T := fun k => match k with
  | 0 => ("DropsDance$TextReader", "tape", "[B", true)
  | 1 => ("DropsDance$TextReader", "rules", "LDropsDance$Rules;", true)
  | 2 => ("DropsDance$TextReader", "cells", "[I", true)
  | 3 => ("DropsDance$TextReader", "ruleTold", "[Z", true)
  | 4 => ("DropsDance$TextReader", "length", "I", false)
  | 5 => ("DropsDance$TextReader", "next", "I", false)
  | 6 => ("DropsDance$TextReader", "rows", "I", false)
  | 7 => ("DropsDance$TextReader", "kind", "I", false)
  | 8 => ("DropsDance$TextReader", "start", "I", false)
  | 9 => ("DropsDance$TextReader", "lines", "I", false)
  | 10 => ("DropsDance$TextReader", "fault", "I", false)
  | _ => ("DropsDance$TextReader", "place", "I", false)
def tyX8 : Nat → FieldType := fun k => match k with
  | 0 => .array .byte
  | 1 => .object "DropsDance$Rules"
  | 2 => .array .int
  | 3 => .array .boolean
  | 4 => .int
  | 5 => .int
  | 6 => .int
  | 7 => .int
  | 8 => .int
  | 9 => .int
  | 10 => .int
  | _ => .int
abbrev wsX80 : List Cond := u_ws RX8 TX8 12
theorem nmX8 : ∀ a, a < 12 → ∀ b, b < 12 → a ≠ b → (TX8 a).2.1 ≠ (TX8 b).2.1 := by decide +kernel
theorem tyX8_ok : ∀ k, k < 12 → parseFieldDescriptor (TX8 k).2.2.1 = some (tyX8 k) := by decide +kernel
abbrev cX8_init : ByteArray := prog_10_method_1_code
def yX8_init : MethodName := ⟨RX8, "<init>", "()V"⟩
abbrev cX8_readAll : ByteArray := prog_10_method_2_code
def yX8_readAll : MethodName := ⟨RX8, "readAll", "(I)V"⟩
abbrev cX8_beginAnew : ByteArray := prog_10_method_3_code
def yX8_beginAnew : MethodName := ⟨RX8, "beginAnew", "(I)V"⟩
abbrev cX8_refuse : ByteArray := prog_10_method_4_code
def yX8_refuse : MethodName := ⟨RX8, "refuse", "(II)V"⟩
abbrev cX8_readRow : ByteArray := prog_10_method_5_code
def yX8_readRow : MethodName := ⟨RX8, "readRow", "()V"⟩
abbrev cX8_readRule : ByteArray := prog_10_method_6_code
def yX8_readRule : MethodName := ⟨RX8, "readRule", "(I)V"⟩
abbrev cX8_readValue : ByteArray := prog_10_method_7_code
def yX8_readValue : MethodName := ⟨RX8, "readValue", "(II)V"⟩
abbrev cX8_take : ByteArray := prog_10_method_8_code
def yX8_take : MethodName := ⟨RX8, "take", "(I)V"⟩
abbrev cX8_readToken : ByteArray := prog_10_method_9_code
def yX8_readToken : MethodName := ⟨RX8, "readToken", "()V"⟩
abbrev cX8_kindOf : ByteArray := prog_10_method_10_code
def yX8_kindOf : MethodName := ⟨RX8, "kindOf", "(I)I"⟩
abbrev cX8_byteAt : ByteArray := prog_10_method_11_code
def yX8_byteAt : MethodName := ⟨RX8, "byteAt", "(I)I"⟩
abbrev cX8_ruleNamed : ByteArray := prog_10_method_12_code
def yX8_ruleNamed : MethodName := ⟨RX8, "ruleNamed", "()I"⟩
abbrev cX8_nameOf : ByteArray := prog_10_method_13_code
def yX8_nameOf : MethodName := ⟨RX8, "nameOf", "(I)Ljava/lang/String;"⟩
abbrev cX8_isName : ByteArray := prog_10_method_14_code
def yX8_isName : MethodName := ⟨RX8, "isName", "(Ljava/lang/String;)Z"⟩
def RX9 : String := "DropsDance$ToldLives"
def TX9 : u_T := fun k => match k with
  | 0 => ("DropsDance$ToldLives", "sizes", "[I", true)
  | 1 => ("DropsDance$ToldLives", "heats", "[I", true)
  | 2 => ("DropsDance$ToldLives", "lives", "[I", true)
  | 3 => ("DropsDance$ToldLives", "fromBelow", "[Z", true)
  | _ => ("DropsDance$ToldLives", "many", "I", false)
def tyX9 : Nat → FieldType := fun k => match k with
  | 0 => .array .int
  | 1 => .array .int
  | 2 => .array .int
  | 3 => .array .boolean
  | _ => .int
abbrev wsX90 : List Cond := u_ws RX9 TX9 5
theorem nmX9 : ∀ a, a < 5 → ∀ b, b < 5 → a ≠ b → (TX9 a).2.1 ≠ (TX9 b).2.1 := by decide +kernel
theorem tyX9_ok : ∀ k, k < 5 → parseFieldDescriptor (TX9 k).2.2.1 = some (tyX9 k) := by decide +kernel
abbrev cX9_init : ByteArray := prog_11_method_1_code
def yX9_init : MethodName := ⟨RX9, "<init>", "()V"⟩
abbrev cX9_tell : ByteArray := prog_11_method_2_code
def yX9_tell : MethodName := ⟨RX9, "tell", "(IIZI)Z"⟩
abbrev cX9_isSo : ByteArray := prog_11_method_3_code
def yX9_isSo : MethodName := ⟨RX9, "isSo", "(ILDropsDance$Rules;I)Z"⟩
abbrev cX9_allSo : ByteArray := prog_11_method_4_code
def yX9_allSo : MethodName := ⟨RX9, "allSo", "(LDropsDance$Rules;I)Z"⟩
def RX10 : String := "DropsDance"
def TX10 : u_T := fun k => match k with
  | 0 => ("DropsDance", "reader", "LDropsDance$TextReader;", true)
  | 1 => ("DropsDance", "tapeLength", "I", false)
  | 2 => ("DropsDance", "textFault", "I", false)
  | 3 => ("DropsDance", "rules", "LDropsDance$Rules;", true)
  | 4 => ("DropsDance", "scene", "LDropsDance$Scene;", true)
  | 5 => ("DropsDance", "images", "[LDropsDance$Image;", true)
  | 6 => ("DropsDance", "loner", "LDropsDance$Loner;", true)
  | 7 => ("DropsDance", "path", "LDropsDance$Path;", true)
  | 8 => ("DropsDance", "roller", "LDropsDance$Roller;", true)
  | 9 => ("DropsDance", "told", "LDropsDance$ToldLives;", true)
  | 10 => ("DropsDance", "sheets", "[LDropsDance$Sheet;", true)
  | _ => ("DropsDance", "readFault", "I", false)
def tyX10 : Nat → FieldType := fun k => match k with
  | 0 => .object "DropsDance$TextReader"
  | 1 => .int
  | 2 => .int
  | 3 => .object "DropsDance$Rules"
  | 4 => .object "DropsDance$Scene"
  | 5 => .array (.object "DropsDance$Image")
  | 6 => .object "DropsDance$Loner"
  | 7 => .object "DropsDance$Path"
  | 8 => .object "DropsDance$Roller"
  | 9 => .object "DropsDance$ToldLives"
  | 10 => .array (.object "DropsDance$Sheet")
  | _ => .int
abbrev wsX100 : List Cond := u_ws RX10 TX10 12
theorem nmX10 : ∀ a, a < 12 → ∀ b, b < 12 → a ≠ b → (TX10 a).2.1 ≠ (TX10 b).2.1 := by decide +kernel
theorem tyX10_ok : ∀ k, k < 12 → parseFieldDescriptor (TX10 k).2.2.1 = some (tyX10 k) := by decide +kernel
abbrev cX10_init : ByteArray := prog_1_method_1_code
def yX10_init : MethodName := ⟨RX10, "<init>", "()V"⟩
abbrev cX10_feed : ByteArray := prog_1_method_2_code
def yX10_feed : MethodName := ⟨RX10, "feed", "(J)I"⟩
abbrev cX10_end : ByteArray := prog_1_method_3_code
def yX10_end : MethodName := ⟨RX10, "end", "(I)I"⟩
abbrev cX10_text : ByteArray := prog_1_method_4_code
def yX10_text : MethodName := ⟨RX10, "text", "()I"⟩
abbrev cX10_fault : ByteArray := prog_1_method_5_code
def yX10_fault : MethodName := ⟨RX10, "fault", "()I"⟩
abbrev cX10_rule : ByteArray := prog_1_method_6_code
def yX10_rule : MethodName := ⟨RX10, "rule", "(I)I"⟩
abbrev cX10_cell : ByteArray := prog_1_method_7_code
def yX10_cell : MethodName := ⟨RX10, "cell", "(I)I"⟩
abbrev cX10_put : ByteArray := prog_1_method_8_code
def yX10_put : MethodName := ⟨RX10, "put", "(II)I"⟩
abbrev cX10_heat : ByteArray := prog_1_method_9_code
def yX10_heat : MethodName := ⟨RX10, "heat", "(I)I"⟩
abbrev cX10_drop : ByteArray := prog_1_method_10_code
def yX10_drop : MethodName := ⟨RX10, "drop", "(III)I"⟩
abbrev cX10_go : ByteArray := prog_1_method_11_code
def yX10_go : MethodName := ⟨RX10, "go", "(I)I"⟩
abbrev cX10_seed : ByteArray := prog_1_method_12_code
def yX10_seed : MethodName := ⟨RX10, "seed", "(I)I"⟩
abbrev cX10_of : ByteArray := prog_1_method_13_code
def yX10_of : MethodName := ⟨RX10, "of", "(II)I"⟩
abbrev cX10_at : ByteArray := prog_1_method_14_code
def yX10_at : MethodName := ⟨RX10, "at", "(I)I"⟩
abbrev cX10_now : ByteArray := prog_1_method_15_code
def yX10_now : MethodName := ⟨RX10, "now", "(I)I"⟩
abbrev cX10_points : ByteArray := prog_1_method_16_code
def yX10_points : MethodName := ⟨RX10, "points", "(I)I"⟩
abbrev cX10_keep : ByteArray := prog_1_method_17_code
def yX10_keep : MethodName := ⟨RX10, "keep", "(I)I"⟩
abbrev cX10_back : ByteArray := prog_1_method_18_code
def yX10_back : MethodName := ⟨RX10, "back", "(I)I"⟩
abbrev cX10_alone : ByteArray := prog_1_method_19_code
def yX10_alone : MethodName := ⟨RX10, "alone", "(IIIII)I"⟩
abbrev cX10_reach : ByteArray := prog_1_method_20_code
def yX10_reach : MethodName := ⟨RX10, "reach", "(IIII)I"⟩
abbrev cX10_ring : ByteArray := prog_1_method_21_code
def yX10_ring : MethodName := ⟨RX10, "ring", "(IIII)I"⟩
abbrev cX10_falls : ByteArray := prog_1_method_22_code
def yX10_falls : MethodName := ⟨RX10, "falls", "(III)J"⟩
abbrev cX10_mend : ByteArray := prog_1_method_23_code
def yX10_mend : MethodName := ⟨RX10, "mend", "(IIIII)I"⟩
abbrev cX10_life : ByteArray := prog_1_method_24_code
def yX10_life : MethodName := ⟨RX10, "life", "(IIZ)I"⟩
abbrev cX10_hump : ByteArray := prog_1_method_25_code
def yX10_hump : MethodName := ⟨RX10, "hump", "(IZI)I"⟩
abbrev cX10_hot : ByteArray := prog_1_method_26_code
def yX10_hot : MethodName := ⟨RX10, "hot", "(IIZI)I"⟩
abbrev cX10_odds : ByteArray := prog_1_method_27_code
def yX10_odds : MethodName := ⟨RX10, "odds", "(IIII)J"⟩
abbrev cX10_cools : ByteArray := prog_1_method_28_code
def yX10_cools : MethodName := ⟨RX10, "cools", "(III)I"⟩
abbrev cX10_saw : ByteArray := prog_1_method_29_code
def yX10_saw : MethodName := ⟨RX10, "saw", "(IIZI)I"⟩
abbrev cX10_forget : ByteArray := prog_1_method_30_code
def yX10_forget : MethodName := ⟨RX10, "forget", "()I"⟩
abbrev cX10_fits : ByteArray := prog_1_method_31_code
def yX10_fits : MethodName := ⟨RX10, "fits", "(I)I"⟩
abbrev cX10_right : ByteArray := prog_1_method_32_code
def yX10_right : MethodName := ⟨RX10, "right", "()I"⟩
abbrev cX10_sheet : ByteArray := prog_1_method_33_code
def yX10_sheet : MethodName := ⟨RX10, "sheet", "(III)I"⟩
abbrev cX10_lay : ByteArray := prog_1_method_34_code
def yX10_lay : MethodName := ⟨RX10, "lay", "(III)I"⟩
abbrev cX10_read : ByteArray := prog_1_method_35_code
def yX10_read : MethodName := ⟨RX10, "read", "(IIII)I"⟩
abbrev cX10_torn : ByteArray := prog_1_method_36_code
def yX10_torn : MethodName := ⟨RX10, "torn", "()I"⟩
abbrev cX10_count : ByteArray := prog_1_method_37_code
def yX10_count : MethodName := ⟨RX10, "count", "(I)I"⟩
abbrev cX10_setDown : ByteArray := prog_1_method_38_code
def yX10_setDown : MethodName := ⟨RX10, "setDown", "(III)I"⟩
abbrev cX10_howManyImages : ByteArray := prog_1_method_39_code
def yX10_howManyImages : MethodName := ⟨RX10, "howManyImages", "()I"⟩
abbrev cX10_within : ByteArray := prog_1_method_40_code
def yX10_within : MethodName := ⟨RX10, "within", "(III)Z"⟩
abbrev cX10_isCell : ByteArray := prog_1_method_41_code
def yX10_isCell : MethodName := ⟨RX10, "isCell", "(I)Z"⟩
abbrev cX10_isWay : ByteArray := prog_1_method_42_code
def yX10_isWay : MethodName := ⟨RX10, "isWay", "(I)Z"⟩
abbrev cX10_isSize : ByteArray := prog_1_method_43_code
def yX10_isSize : MethodName := ⟨RX10, "isSize", "(I)Z"⟩
abbrev cX10_isHeat : ByteArray := prog_1_method_44_code
def yX10_isHeat : MethodName := ⟨RX10, "isHeat", "(I)Z"⟩
abbrev cX10_isSheet : ByteArray := prog_1_method_45_code
def yX10_isSheet : MethodName := ⟨RX10, "isSheet", "(I)Z"⟩
abbrev cX10_isLane : ByteArray := prog_1_method_46_code
def yX10_isLane : MethodName := ⟨RX10, "isLane", "(I)Z"⟩
abbrev cX10_isDropToBe : ByteArray := prog_1_method_47_code
def yX10_isDropToBe : MethodName := ⟨RX10, "isDropToBe", "(III)Z"⟩
abbrev cX10_nextCell : ByteArray := prog_1_method_48_code
def yX10_nextCell : MethodName := ⟨RX10, "nextCell", "(II)I"⟩
def RX11 : String := "DropsDanceModel"
def TX11 : u_T := fun k => match k with
  | 0 => ("DropsDanceModel", "st", "[I", true)
  | 1 => ("DropsDanceModel", "isKept", "[Z", true)
  | 2 => ("DropsDanceModel", "rule", "[I", true)
  | 3 => ("DropsDanceModel", "dRule", "[I", true)
  | 4 => ("DropsDanceModel", "isTold", "[Z", true)
  | 5 => ("DropsDanceModel", "dRows", "I", false)
  | 6 => ("DropsDanceModel", "dPlate", "[I", true)
  | 7 => ("DropsDanceModel", "tape", "[I", true)
  | 8 => ("DropsDanceModel", "taped", "I", false)
  | 9 => ("DropsDanceModel", "pos", "I", false)
  | 10 => ("DropsDanceModel", "from", "I", false)
  | 11 => ("DropsDanceModel", "sort", "I", false)
  | 12 => ("DropsDanceModel", "value", "I", false)
  | 13 => ("DropsDanceModel", "fault", "I", false)
  | 14 => ("DropsDanceModel", "wrongAt", "I", false)
  | 15 => ("DropsDanceModel", "oneAt", "I", false)
  | 16 => ("DropsDanceModel", "oneBig", "I", false)
  | 17 => ("DropsDanceModel", "oneWay", "I", false)
  | 18 => ("DropsDanceModel", "oneGone", "I", false)
  | 19 => ("DropsDanceModel", "oneWhen", "I", false)
  | 20 => ("DropsDanceModel", "seen", "[I", true)
  | 21 => ("DropsDanceModel", "waysTo", "[J", true)
  | 22 => ("DropsDanceModel", "waysThen", "[J", true)
  | 23 => ("DropsDanceModel", "saws", "I", false)
  | 24 => ("DropsDanceModel", "saw", "[I", true)
  | 25 => ("DropsDanceModel", "lanes", "[I", true)
  | 26 => ("DropsDanceModel", "sizes", "[I", true)
  | 27 => ("DropsDanceModel", "cells", "[I", true)
  | _ => ("DropsDanceModel", "torn", "I", false)
def tyX11 : Nat → FieldType := fun k => match k with
  | 0 => .array .int
  | 1 => .array .boolean
  | 2 => .array .int
  | 3 => .array .int
  | 4 => .array .boolean
  | 5 => .int
  | 6 => .array .int
  | 7 => .array .int
  | 8 => .int
  | 9 => .int
  | 10 => .int
  | 11 => .int
  | 12 => .int
  | 13 => .int
  | 14 => .int
  | 15 => .int
  | 16 => .int
  | 17 => .int
  | 18 => .int
  | 19 => .int
  | 20 => .array .int
  | 21 => .array .long
  | 22 => .array .long
  | 23 => .int
  | 24 => .array .int
  | 25 => .array .int
  | 26 => .array .int
  | 27 => .array .int
  | _ => .int
abbrev wsX110 : List Cond := u_ws RX11 TX11 29
theorem nmX11 : ∀ a, a < 29 → ∀ b, b < 29 → a ≠ b → (TX11 a).2.1 ≠ (TX11 b).2.1 := by decide +kernel
theorem tyX11_ok : ∀ k, k < 29 → parseFieldDescriptor (TX11 k).2.2.1 = some (tyX11 k) := by decide +kernel
abbrev cX11_init : ByteArray := prog_13_method_1_code
def yX11_init : MethodName := ⟨RX11, "<init>", "()V"⟩
abbrev cX11_in : ByteArray := prog_13_method_3_code
def yX11_in : MethodName := ⟨RX11, "in", "(JJJ)Z"⟩
abbrev cX11_flag : ByteArray := prog_13_method_4_code
def yX11_flag : MethodName := ⟨RX11, "flag", "(Z)I"⟩
abbrev cX11_less : ByteArray := prog_13_method_5_code
def yX11_less : MethodName := ⟨RX11, "less", "(II)I"⟩
abbrev cX11_firstDraft : ByteArray := prog_13_method_6_code
def yX11_firstDraft : MethodName := ⟨RX11, "firstDraft", "()V"⟩
abbrev cX11_keepDraft : ByteArray := prog_13_method_7_code
def yX11_keepDraft : MethodName := ⟨RX11, "keepDraft", "()V"⟩
abbrev cX11_feed : ByteArray := prog_13_method_8_code
def yX11_feed : MethodName := ⟨RX11, "feed", "(J)I"⟩
abbrev cX11_end : ByteArray := prog_13_method_9_code
def yX11_end : MethodName := ⟨RX11, "end", "(I)I"⟩
abbrev cX11_needs : ByteArray := prog_13_method_10_code
def yX11_needs : MethodName := ⟨RX11, "needs", "(ZI)V"⟩
abbrev cX11_look : ByteArray := prog_13_method_11_code
def yX11_look : MethodName := ⟨RX11, "look", "(I)I"⟩
abbrev cX11_starts : ByteArray := prog_13_method_12_code
def yX11_starts : MethodName := ⟨RX11, "starts", "(IIIII)Z"⟩
abbrev cX11_nameNow : ByteArray := prog_13_method_13_code
def yX11_nameNow : MethodName := ⟨RX11, "nameNow", "()I"⟩
abbrev cX11_next : ByteArray := prog_13_method_14_code
def yX11_next : MethodName := ⟨RX11, "next", "()V"⟩
abbrev cX11_readNumber : ByteArray := prog_13_method_15_code
def yX11_readNumber : MethodName := ⟨RX11, "readNumber", "(II)I"⟩
abbrev cX11_kindOf : ByteArray := prog_13_method_16_code
def yX11_kindOf : MethodName := ⟨RX11, "kindOf", "(I)I"⟩
abbrev cX11_readRow : ByteArray := prog_13_method_17_code
def yX11_readRow : MethodName := ⟨RX11, "readRow", "()V"⟩
abbrev cX11_lowest : ByteArray := prog_13_method_18_code
def yX11_lowest : MethodName := ⟨RX11, "lowest", "(I)I"⟩
abbrev cX11_highest : ByteArray := prog_13_method_19_code
def yX11_highest : MethodName := ⟨RX11, "highest", "(I)I"⟩
abbrev cX11_readLine : ByteArray := prog_13_method_20_code
def yX11_readLine : MethodName := ⟨RX11, "readLine", "()V"⟩
abbrev cX11_text : ByteArray := prog_13_method_21_code
def yX11_text : MethodName := ⟨RX11, "text", "()I"⟩
abbrev cX11_fault : ByteArray := prog_13_method_22_code
def yX11_fault : MethodName := ⟨RX11, "fault", "()I"⟩
abbrev cX11_rule : ByteArray := prog_13_method_23_code
def yX11_rule : MethodName := ⟨RX11, "rule", "(I)I"⟩
abbrev cX11_isCell : ByteArray := prog_13_method_24_code
def yX11_isCell : MethodName := ⟨RX11, "isCell", "(I)Z"⟩
abbrev cX11_cell : ByteArray := prog_13_method_25_code
def yX11_cell : MethodName := ⟨RX11, "cell", "(I)I"⟩
abbrev cX11_isThere : ByteArray := prog_13_method_26_code
def yX11_isThere : MethodName := ⟨RX11, "isThere", "(I)Z"⟩
abbrev cX11_inCell : ByteArray := prog_13_method_27_code
def yX11_inCell : MethodName := ⟨RX11, "inCell", "(II)I"⟩
abbrev cX11_isShut : ByteArray := prog_13_method_28_code
def yX11_isShut : MethodName := ⟨RX11, "isShut", "(I)Z"⟩
abbrev cX11_put : ByteArray := prog_13_method_29_code
def yX11_put : MethodName := ⟨RX11, "put", "(II)I"⟩
abbrev cX11_heat : ByteArray := prog_13_method_30_code
def yX11_heat : MethodName := ⟨RX11, "heat", "(I)I"⟩
abbrev cX11_isDrop : ByteArray := prog_13_method_31_code
def yX11_isDrop : MethodName := ⟨RX11, "isDrop", "(III)Z"⟩
abbrev cX11_drop : ByteArray := prog_13_method_32_code
def yX11_drop : MethodName := ⟨RX11, "drop", "(III)I"⟩
abbrev cX11_nextTo : ByteArray := prog_13_method_33_code
def yX11_nextTo : MethodName := ⟨RX11, "nextTo", "(II)I"⟩
abbrev cX11_isWall : ByteArray := prog_13_method_34_code
def yX11_isWall : MethodName := ⟨RX11, "isWall", "(I)Z"⟩
abbrev cX11_draws : ByteArray := prog_13_method_35_code
def yX11_draws : MethodName := ⟨RX11, "draws", "()I"⟩
abbrev cX11_thins : ByteArray := prog_13_method_36_code
def yX11_thins : MethodName := ⟨RX11, "thins", "(II)I"⟩
abbrev cX11_hisses : ByteArray := prog_13_method_37_code
def yX11_hisses : MethodName := ⟨RX11, "hisses", "(II)I"⟩
abbrev cX11_ends : ByteArray := prog_13_method_38_code
def yX11_ends : MethodName := ⟨RX11, "ends", "(II)V"⟩
abbrev cX11_loses : ByteArray := prog_13_method_39_code
def yX11_loses : MethodName := ⟨RX11, "loses", "(II)V"⟩
abbrev cX11_isTooth : ByteArray := prog_13_method_40_code
def yX11_isTooth : MethodName := ⟨RX11, "isTooth", "(II)Z"⟩
abbrev cX11_goesOn : ByteArray := prog_13_method_41_code
def yX11_goesOn : MethodName := ⟨RX11, "goesOn", "(I)V"⟩
abbrev cX11_touches : ByteArray := prog_13_method_42_code
def yX11_touches : MethodName := ⟨RX11, "touches", "(I)Z"⟩
abbrev cX11_acts : ByteArray := prog_13_method_43_code
def yX11_acts : MethodName := ⟨RX11, "acts", "(I)V"⟩
abbrev cX11_thereMany : ByteArray := prog_13_method_44_code
def yX11_thereMany : MethodName := ⟨RX11, "thereMany", "()I"⟩
abbrev cX11_go : ByteArray := prog_13_method_45_code
def yX11_go : MethodName := ⟨RX11, "go", "(I)I"⟩
abbrev cX11_seed : ByteArray := prog_13_method_46_code
def yX11_seed : MethodName := ⟨RX11, "seed", "(I)I"⟩
abbrev cX11_of : ByteArray := prog_13_method_47_code
def yX11_of : MethodName := ⟨RX11, "of", "(II)I"⟩
abbrev cX11_at : ByteArray := prog_13_method_48_code
def yX11_at : MethodName := ⟨RX11, "at", "(I)I"⟩
abbrev cX11_now : ByteArray := prog_13_method_49_code
def yX11_now : MethodName := ⟨RX11, "now", "(I)I"⟩
abbrev cX11_points : ByteArray := prog_13_method_50_code
def yX11_points : MethodName := ⟨RX11, "points", "(I)I"⟩
abbrev cX11_copies : ByteArray := prog_13_method_51_code
def yX11_copies : MethodName := ⟨RX11, "copies", "(II)V"⟩
abbrev cX11_keep : ByteArray := prog_13_method_52_code
def yX11_keep : MethodName := ⟨RX11, "keep", "(I)I"⟩
abbrev cX11_back : ByteArray := prog_13_method_53_code
def yX11_back : MethodName := ⟨RX11, "back", "(I)I"⟩
abbrev cX11_sets : ByteArray := prog_13_method_54_code
def yX11_sets : MethodName := ⟨RX11, "sets", "(III)V"⟩
abbrev cX11_oneEnds : ByteArray := prog_13_method_55_code
def yX11_oneEnds : MethodName := ⟨RX11, "oneEnds", "(II)V"⟩
abbrev cX11_oneGoes : ByteArray := prog_13_method_56_code
def yX11_oneGoes : MethodName := ⟨RX11, "oneGoes", "(I)V"⟩
abbrev cX11_oneActs : ByteArray := prog_13_method_57_code
def yX11_oneActs : MethodName := ⟨RX11, "oneActs", "(I)V"⟩
abbrev cX11_alone : ByteArray := prog_13_method_58_code
def yX11_alone : MethodName := ⟨RX11, "alone", "(IIIII)I"⟩
abbrev cX11_reachOf : ByteArray := prog_13_method_59_code
def yX11_reachOf : MethodName := ⟨RX11, "reachOf", "(IIII)I"⟩
abbrev cX11_reach : ByteArray := prog_13_method_60_code
def yX11_reach : MethodName := ⟨RX11, "reach", "(IIII)I"⟩
abbrev cX11_along : ByteArray := prog_13_method_61_code
def yX11_along : MethodName := ⟨RX11, "along", "(III)I"⟩
abbrev cX11_ring : ByteArray := prog_13_method_62_code
def yX11_ring : MethodName := ⟨RX11, "ring", "(IIII)I"⟩
abbrev cX11_falls : ByteArray := prog_13_method_63_code
def yX11_falls : MethodName := ⟨RX11, "falls", "(III)J"⟩
abbrev cX11_mend : ByteArray := prog_13_method_64_code
def yX11_mend : MethodName := ⟨RX11, "mend", "(IIIII)I"⟩
abbrev cX11_lifeOf : ByteArray := prog_13_method_65_code
def yX11_lifeOf : MethodName := ⟨RX11, "lifeOf", "(IIZ)I"⟩
abbrev cX11_floatsAt : ByteArray := prog_13_method_66_code
def yX11_floatsAt : MethodName := ⟨RX11, "floatsAt", "(IZ)Z"⟩
abbrev cX11_lifeAt : ByteArray := prog_13_method_67_code
def yX11_lifeAt : MethodName := ⟨RX11, "lifeAt", "(IIZ)I"⟩
abbrev cX11_isSize : ByteArray := prog_13_method_68_code
def yX11_isSize : MethodName := ⟨RX11, "isSize", "(I)Z"⟩
abbrev cX11_isHeat : ByteArray := prog_13_method_69_code
def yX11_isHeat : MethodName := ⟨RX11, "isHeat", "(I)Z"⟩
abbrev cX11_life : ByteArray := prog_13_method_70_code
def yX11_life : MethodName := ⟨RX11, "life", "(IIZ)I"⟩
abbrev cX11_hump : ByteArray := prog_13_method_71_code
def yX11_hump : MethodName := ⟨RX11, "hump", "(IZI)I"⟩
abbrev cX11_isLife : ByteArray := prog_13_method_72_code
def yX11_isLife : MethodName := ⟨RX11, "isLife", "(I)Z"⟩
abbrev cX11_hot : ByteArray := prog_13_method_73_code
def yX11_hot : MethodName := ⟨RX11, "hot", "(IIZI)I"⟩
abbrev cX11_spreads : ByteArray := prog_13_method_74_code
def yX11_spreads : MethodName := ⟨RX11, "spreads", "(I)J"⟩
abbrev cX11_told : ByteArray := prog_13_method_75_code
def yX11_told : MethodName := ⟨RX11, "told", "(JJI)J"⟩
abbrev cX11_odds : ByteArray := prog_13_method_76_code
def yX11_odds : MethodName := ⟨RX11, "odds", "(IIII)J"⟩
abbrev cX11_cools : ByteArray := prog_13_method_77_code
def yX11_cools : MethodName := ⟨RX11, "cools", "(III)I"⟩
abbrev cX11_saw : ByteArray := prog_13_method_78_code
def yX11_saw : MethodName := ⟨RX11, "saw", "(IIZI)I"⟩
abbrev cX11_forget : ByteArray := prog_13_method_79_code
def yX11_forget : MethodName := ⟨RX11, "forget", "()I"⟩
abbrev cX11_isRight : ByteArray := prog_13_method_80_code
def yX11_isRight : MethodName := ⟨RX11, "isRight", "(I)Z"⟩
abbrev cX11_right : ByteArray := prog_13_method_81_code
def yX11_right : MethodName := ⟨RX11, "right", "()I"⟩
abbrev cX11_fits : ByteArray := prog_13_method_82_code
def yX11_fits : MethodName := ⟨RX11, "fits", "(I)I"⟩
abbrev cX11_isSheet : ByteArray := prog_13_method_83_code
def yX11_isSheet : MethodName := ⟨RX11, "isSheet", "(II)Z"⟩
abbrev cX11_sheet : ByteArray := prog_13_method_84_code
def yX11_sheet : MethodName := ⟨RX11, "sheet", "(III)I"⟩
abbrev cX11_lay : ByteArray := prog_13_method_85_code
def yX11_lay : MethodName := ⟨RX11, "lay", "(III)I"⟩
abbrev cX11_takesBack : ByteArray := prog_13_method_86_code
def yX11_takesBack : MethodName := ⟨RX11, "takesBack", "(II)V"⟩
abbrev cX11_read : ByteArray := prog_13_method_87_code
def yX11_read : MethodName := ⟨RX11, "read", "(IIII)I"⟩
abbrev cX11_torn : ByteArray := prog_13_method_88_code
def yX11_torn : MethodName := ⟨RX11, "torn", "()I"⟩
abbrev cX11_count : ByteArray := prog_13_method_89_code
def yX11_count : MethodName := ⟨RX11, "count", "(I)I"⟩
def RJx145de : String := "java/io/Serializable"
def TJx145de : u_T := fun k => match k with
  | _ => ("", "", "", false)
def tyJx145de : Nat → FieldType := fun k => match k with
  | _ => .int
abbrev wsJx145de0 : List Cond := u_ws RJx145de TJx145de 0
theorem nmJx145de : ∀ a, a < 0 → ∀ b, b < 0 → a ≠ b → (TJx145de a).2.1 ≠ (TJx145de b).2.1 := by decide +kernel
theorem tyJx145de_ok : ∀ k, k < 0 → parseFieldDescriptor (TJx145de k).2.2.1 = some (tyJx145de k) := by decide +kernel
def RJx9f9b0 : String := "java/lang/CharSequence"
def TJx9f9b0 : u_T := fun k => match k with
  | _ => ("", "", "", false)
def tyJx9f9b0 : Nat → FieldType := fun k => match k with
  | _ => .int
abbrev wsJx9f9b00 : List Cond := u_ws RJx9f9b0 TJx9f9b0 0
theorem nmJx9f9b0 : ∀ a, a < 0 → ∀ b, b < 0 → a ≠ b → (TJx9f9b0 a).2.1 ≠ (TJx9f9b0 b).2.1 := by decide +kernel
theorem tyJx9f9b0_ok : ∀ k, k < 0 → parseFieldDescriptor (TJx9f9b0 k).2.2.1 = some (tyJx9f9b0 k) := by decide +kernel
def RJ11 : String := "java/lang/Character"
def TJ11 : u_T := fun k => match k with
  | _ => ("", "", "", false)
def tyJ11 : Nat → FieldType := fun k => match k with
  | _ => .int
abbrev wsJ110 : List Cond := u_ws RJ11 TJ11 0
theorem nmJ11 : ∀ a, a < 0 → ∀ b, b < 0 → a ≠ b → (TJ11 a).2.1 ≠ (TJ11 b).2.1 := by decide +kernel
theorem tyJ11_ok : ∀ k, k < 0 → parseFieldDescriptor (TJ11 k).2.2.1 = some (tyJ11 k) := by decide +kernel
abbrev cJ11_isValidCodePoint_9a6ad : ByteArray := prog_14_method_11_code
def yJ11_isValidCodePoint_9a6ad : MethodName := ⟨RJ11, "isValidCodePoint", "(I)Z"⟩
abbrev cJ11_highSurrogate_5068e : ByteArray := prog_14_method_28_code
def yJ11_highSurrogate_5068e : MethodName := ⟨RJ11, "highSurrogate", "(I)C"⟩
abbrev cJ11_lowSurrogate_5068e : ByteArray := prog_14_method_29_code
def yJ11_lowSurrogate_5068e : MethodName := ⟨RJ11, "lowSurrogate", "(I)C"⟩
def RJxb160c : String := "java/lang/Comparable"
def TJxb160c : u_T := fun k => match k with
  | _ => ("", "", "", false)
def tyJxb160c : Nat → FieldType := fun k => match k with
  | _ => .int
abbrev wsJxb160c0 : List Cond := u_ws RJxb160c TJxb160c 0
theorem nmJxb160c : ∀ a, a < 0 → ∀ b, b < 0 → a ≠ b → (TJxb160c a).2.1 ≠ (TJxb160c b).2.1 := by decide +kernel
theorem tyJxb160c_ok : ∀ k, k < 0 → parseFieldDescriptor (TJxb160c k).2.2.1 = some (tyJxb160c k) := by decide +kernel
def RJ9 : String := "java/lang/Math"
def TJ9 : u_T := fun k => match k with
  | _ => ("", "", "", false)
def tyJ9 : Nat → FieldType := fun k => match k with
  | _ => .int
abbrev wsJ90 : List Cond := u_ws RJ9 TJ9 0
theorem nmJ9 : ∀ a, a < 0 → ∀ b, b < 0 → a ≠ b → (TJ9 a).2.1 ≠ (TJ9 b).2.1 := by decide +kernel
theorem tyJ9_ok : ∀ k, k < 0 → parseFieldDescriptor (TJ9 k).2.2.1 = some (tyJ9 k) := by decide +kernel
abbrev cJ9_max_7cf53 : ByteArray := prog_15_method_65_code
def yJ9_max_7cf53 : MethodName := ⟨RJ9, "max", "(II)I"⟩
abbrev cJ9_min_7cf53 : ByteArray := prog_15_method_69_code
def yJ9_min_7cf53 : MethodName := ⟨RJ9, "min", "(II)I"⟩
def RJ0 : String := "java/lang/String"
def TJ0 : u_T := fun k => match k with
  | _ => ("", "", "", false)
def tyJ0 : Nat → FieldType := fun k => match k with
  | _ => .int
abbrev wsJ00 : List Cond := u_ws RJ0 TJ0 0
theorem nmJ0 : ∀ a, a < 0 → ∀ b, b < 0 → a ≠ b → (TJ0 a).2.1 ≠ (TJ0 b).2.1 := by decide +kernel
theorem tyJ0_ok : ∀ k, k < 0 → parseFieldDescriptor (TJ0 k).2.2.1 = some (tyJ0 k) := by decide +kernel
abbrev cJ0_length_8abf5 : ByteArray := prog_16_method_54_code
def yJ0_length_8abf5 : MethodName := ⟨RJ0, "length", "()I"⟩
abbrev cJ0_charAt_5068e : ByteArray := prog_16_method_56_code
def yJ0_charAt_5068e : MethodName := ⟨RJ0, "charAt", "(I)C"⟩
abbrev cJ0_indexOf_0f7a4 : ByteArray := prog_16_method_79_code
def yJ0_indexOf_0f7a4 : MethodName := ⟨RJ0, "indexOf", "(I)I"⟩
abbrev cJ0_indexOf_7cf53 : ByteArray := prog_16_method_80_code
def yJ0_indexOf_7cf53 : MethodName := ⟨RJ0, "indexOf", "(II)I"⟩
abbrev cJ0_coder_7d493 : ByteArray := prog_16_method_152_code
def yJ0_coder_7d493 : MethodName := ⟨RJ0, "coder", "()B"⟩
abbrev cJ0_isLatin1_aae02 : ByteArray := prog_16_method_154_code
def yJ0_isLatin1_aae02 : MethodName := ⟨RJ0, "isLatin1", "()Z"⟩
abbrev cJ0_checkIndex_df160 : ByteArray := prog_16_method_155_code
def yJ0_checkIndex_df160 : MethodName := ⟨RJ0, "checkIndex", "(II)V"⟩
abbrev cJ0_checkBoundsBeginEnd_23922 : ByteArray := prog_16_method_158_code
def yJ0_checkBoundsBeginEnd_23922 : MethodName := ⟨RJ0, "checkBoundsBeginEnd", "(III)V"⟩
def RJ1 : String := "java/lang/StringLatin1"
def TJ1 : u_T := fun k => match k with
  | _ => ("", "", "", false)
def tyJ1 : Nat → FieldType := fun k => match k with
  | _ => .int
abbrev wsJ10 : List Cond := u_ws RJ1 TJ1 0
theorem nmJ1 : ∀ a, a < 0 → ∀ b, b < 0 → a ≠ b → (TJ1 a).2.1 ≠ (TJ1 b).2.1 := by decide +kernel
theorem tyJ1_ok : ∀ k, k < 0 → parseFieldDescriptor (TJ1 k).2.2.1 = some (tyJ1 k) := by decide +kernel
abbrev cJ1_charAt_3b067 : ByteArray := prog_17_method_2_code
def yJ1_charAt_3b067 : MethodName := ⟨RJ1, "charAt", "([BI)C"⟩
abbrev cJ1_canEncode_9a6ad : ByteArray := prog_17_method_4_code
def yJ1_canEncode_9a6ad : MethodName := ⟨RJ1, "canEncode", "(I)Z"⟩
abbrev cJ1_indexOf_4cfef : ByteArray := prog_17_method_22_code
def yJ1_indexOf_4cfef : MethodName := ⟨RJ1, "indexOf", "([BIII)I"⟩
abbrev cJ1_indexOfChar_4cfef : ByteArray := prog_17_method_23_code
def yJ1_indexOfChar_4cfef : MethodName := ⟨RJ1, "indexOfChar", "([BIII)I"⟩
def RJ2 : String := "java/lang/StringUTF16"
def TJ2 : u_T := fun k => match k with
  | _ => ("", "", "", false)
def tyJ2 : Nat → FieldType := fun k => match k with
  | _ => .int
abbrev wsJ20 : List Cond := u_ws RJ2 TJ2 0
theorem nmJ2 : ∀ a, a < 0 → ∀ b, b < 0 → a ≠ b → (TJ2 a).2.1 ≠ (TJ2 b).2.1 := by decide +kernel
theorem tyJ2_ok : ∀ k, k < 0 → parseFieldDescriptor (TJ2 k).2.2.1 = some (tyJ2 k) := by decide +kernel
abbrev cJ2_getChar_3b067 : ByteArray := prog_18_method_5_code
def yJ2_getChar_3b067 : MethodName := ⟨RJ2, "getChar", "([BI)C"⟩
abbrev cJ2_length_9d52b : ByteArray := prog_18_method_6_code
def yJ2_length_9d52b : MethodName := ⟨RJ2, "length", "([B)I"⟩
abbrev cJ2_indexOf_4cfef : ByteArray := prog_18_method_40_code
def yJ2_indexOf_4cfef : MethodName := ⟨RJ2, "indexOf", "([BIII)I"⟩
abbrev cJ2_indexOfChar_4cfef : ByteArray := prog_18_method_47_code
def yJ2_indexOfChar_4cfef : MethodName := ⟨RJ2, "indexOfChar", "([BIII)I"⟩
abbrev cJ2_indexOfCharUnsafe_4cfef : ByteArray := prog_18_method_48_code
def yJ2_indexOfCharUnsafe_4cfef : MethodName := ⟨RJ2, "indexOfCharUnsafe", "([BIII)I"⟩
abbrev cJ2_indexOfSupplementary_4cfef : ByteArray := prog_18_method_49_code
def yJ2_indexOfSupplementary_4cfef : MethodName := ⟨RJ2, "indexOfSupplementary", "([BIII)I"⟩
abbrev cJ2_charAt_3b067 : ByteArray := prog_18_method_83_code
def yJ2_charAt_3b067 : MethodName := ⟨RJ2, "charAt", "([BI)C"⟩
abbrev cJ2_checkIndex_2214a : ByteArray := prog_18_method_91_code
def yJ2_checkIndex_2214a : MethodName := ⟨RJ2, "checkIndex", "(I[B)V"⟩
abbrev cJ2_checkBoundsBeginEnd_d044e : ByteArray := prog_18_method_93_code
def yJ2_checkBoundsBeginEnd_d044e : MethodName := ⟨RJ2, "checkBoundsBeginEnd", "(II[B)V"⟩
def RJ10 : String := "java/lang/System"
def TJ10 : u_T := fun k => match k with
  | _ => ("", "", "", false)
def tyJ10 : Nat → FieldType := fun k => match k with
  | _ => .int
abbrev wsJ100 : List Cond := u_ws RJ10 TJ10 0
theorem nmJ10 : ∀ a, a < 0 → ∀ b, b < 0 → a ≠ b → (TJ10 a).2.1 ≠ (TJ10 b).2.1 := by decide +kernel
theorem tyJ10_ok : ∀ k, k < 0 → parseFieldDescriptor (TJ10 k).2.2.1 = some (tyJ10 k) := by decide +kernel
def RJxfd54e : String := "java/lang/constant/Constable"
def TJxfd54e : u_T := fun k => match k with
  | _ => ("", "", "", false)
def tyJxfd54e : Nat → FieldType := fun k => match k with
  | _ => .int
abbrev wsJxfd54e0 : List Cond := u_ws RJxfd54e TJxfd54e 0
theorem nmJxfd54e : ∀ a, a < 0 → ∀ b, b < 0 → a ≠ b → (TJxfd54e a).2.1 ≠ (TJxfd54e b).2.1 := by decide +kernel
theorem tyJxfd54e_ok : ∀ k, k < 0 → parseFieldDescriptor (TJxfd54e k).2.2.1 = some (tyJxfd54e k) := by decide +kernel
def RJx3cf43 : String := "java/lang/constant/ConstantDesc"
def TJx3cf43 : u_T := fun k => match k with
  | _ => ("", "", "", false)
def tyJx3cf43 : Nat → FieldType := fun k => match k with
  | _ => .int
abbrev wsJx3cf430 : List Cond := u_ws RJx3cf43 TJx3cf43 0
theorem nmJx3cf43 : ∀ a, a < 0 → ∀ b, b < 0 → a ≠ b → (TJx3cf43 a).2.1 ≠ (TJx3cf43 b).2.1 := by decide +kernel
theorem tyJx3cf43_ok : ∀ k, k < 0 → parseFieldDescriptor (TJx3cf43 k).2.2.1 = some (tyJx3cf43 k) := by decide +kernel
def RJ7 : String := "java/util/Arrays"
def TJ7 : u_T := fun k => match k with
  | _ => ("", "", "", false)
def tyJ7 : Nat → FieldType := fun k => match k with
  | _ => .int
abbrev wsJ70 : List Cond := u_ws RJ7 TJ7 0
theorem nmJ7 : ∀ a, a < 0 → ∀ b, b < 0 → a ≠ b → (TJ7 a).2.1 ≠ (TJ7 b).2.1 := by decide +kernel
theorem tyJ7_ok : ∀ k, k < 0 → parseFieldDescriptor (TJ7 k).2.2.1 = some (tyJ7 k) := by decide +kernel
abbrev cJ7_fill_d0a16 : ByteArray := prog_20_method_101_code
def yJ7_fill_d0a16 : MethodName := ⟨RJ7, "fill", "([JJ)V"⟩
abbrev cJ7_fill_53178 : ByteArray := prog_20_method_103_code
def yJ7_fill_53178 : MethodName := ⟨RJ7, "fill", "([II)V"⟩
def RJ3 : String := "jdk/internal/util/Preconditions"
def TJ3 : u_T := fun k => match k with
  | _ => ("", "", "", false)
def tyJ3 : Nat → FieldType := fun k => match k with
  | _ => .int
abbrev wsJ30 : List Cond := u_ws RJ3 TJ3 0
theorem nmJ3 : ∀ a, a < 0 → ∀ b, b < 0 → a ≠ b → (TJ3 a).2.1 ≠ (TJ3 b).2.1 := by decide +kernel
theorem tyJ3_ok : ∀ k, k < 0 → parseFieldDescriptor (TJ3 k).2.2.1 = some (tyJ3 k) := by decide +kernel
abbrev cJ3_checkIndex_8e157 : ByteArray := prog_21_method_11_code
def yJ3_checkIndex_8e157 : MethodName := ⟨RJ3, "checkIndex", "(IILjava/util/function/BiFunction;)I"⟩
abbrev cJ3_checkFromToIndex_8c36e : ByteArray := prog_21_method_12_code
def yJ3_checkFromToIndex_8c36e : MethodName := ⟨RJ3, "checkFromToIndex", "(IIILjava/util/function/BiFunction;)I"⟩
def RL : String := "DropsDanceLaw"
abbrev cL_law : ByteArray := code
def yL_law : MethodName := ⟨RL, "law", "([I)Z"⟩
abbrev vwCl : List vw_C := [(RX0, TX0, 6), (RX1, TX1, 2), (RX2, TX2, 9), (RX3, TX3, 4), (RX4, TX4, 2), (RX5, TX5, 1), (RX6, TX6, 11), (RX7, TX7, 3), (RX8, TX8, 12), (RX9, TX9, 5), (RX10, TX10, 12), (RX11, TX11, 29)]
