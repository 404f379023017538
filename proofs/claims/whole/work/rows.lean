section
-- ===== PART A: goes FIRST, ahead of the names: the tables' words, and 'selects' of the private methods out of them =====
/-- a private method of a class that the tables say can be made, by its rows of tables_1 -/
def lw_okq (q : MethodName × Nat) : Prop := (q.1.cls ≠ "java/lang/invoke/MethodHandle" ∧ q.1.cls ≠ "java/lang/invoke/VarHandle") ∧ Cond.instantiable q.1.cls q.2 ∈ tables_1 ∧ Cond.privateMethod q.1 ∈ tables_1 ∧ Cond.instanceMethod q.1 ∈ tables_1
theorem lw_p0 : lw_okq (⟨"DropsDance$TextReader", "beginAnew", "(I)V"⟩, 12) := ⟨⟨by decide +kernel, by decide +kernel⟩, List.mem_of_getElem? (i := 30) (by decide +kernel), List.mem_of_getElem? (i := 395) (by decide +kernel), List.mem_of_getElem? (i := 396) (by decide +kernel)⟩
theorem lw_p1 : lw_okq (⟨"DropsDance$TextReader", "readToken", "()V"⟩, 12) := ⟨⟨by decide +kernel, by decide +kernel⟩, List.mem_of_getElem? (i := 30) (by decide +kernel), List.mem_of_getElem? (i := 404) (by decide +kernel), List.mem_of_getElem? (i := 405) (by decide +kernel)⟩
theorem lw_p2 : lw_okq (⟨"DropsDance$TextReader", "byteAt", "(I)I"⟩, 12) := ⟨⟨by decide +kernel, by decide +kernel⟩, List.mem_of_getElem? (i := 30) (by decide +kernel), List.mem_of_getElem? (i := 408) (by decide +kernel), List.mem_of_getElem? (i := 409) (by decide +kernel)⟩
theorem lw_p3 : lw_okq (⟨"DropsDance$TextReader", "refuse", "(II)V"⟩, 12) := ⟨⟨by decide +kernel, by decide +kernel⟩, List.mem_of_getElem? (i := 30) (by decide +kernel), List.mem_of_getElem? (i := 415) (by decide +kernel), List.mem_of_getElem? (i := 416) (by decide +kernel)⟩
theorem lw_p4 : lw_okq (⟨"DropsDance$TextReader", "isName", "(Ljava/lang/String;)Z"⟩, 12) := ⟨⟨by decide +kernel, by decide +kernel⟩, List.mem_of_getElem? (i := 30) (by decide +kernel), List.mem_of_getElem? (i := 420) (by decide +kernel), List.mem_of_getElem? (i := 421) (by decide +kernel)⟩
theorem lw_p5 : lw_okq (⟨"DropsDance$TextReader", "readRow", "()V"⟩, 12) := ⟨⟨by decide +kernel, by decide +kernel⟩, List.mem_of_getElem? (i := 30) (by decide +kernel), List.mem_of_getElem? (i := 472) (by decide +kernel), List.mem_of_getElem? (i := 473) (by decide +kernel)⟩
theorem lw_p6 : lw_okq (⟨"DropsDance$TextReader", "take", "(I)V"⟩, 12) := ⟨⟨by decide +kernel, by decide +kernel⟩, List.mem_of_getElem? (i := 30) (by decide +kernel), List.mem_of_getElem? (i := 476) (by decide +kernel), List.mem_of_getElem? (i := 477) (by decide +kernel)⟩
theorem lw_p7 : lw_okq (⟨"DropsDance$TextReader", "ruleNamed", "()I"⟩, 12) := ⟨⟨by decide +kernel, by decide +kernel⟩, List.mem_of_getElem? (i := 30) (by decide +kernel), List.mem_of_getElem? (i := 538) (by decide +kernel), List.mem_of_getElem? (i := 539) (by decide +kernel)⟩
theorem lw_p8 : lw_okq (⟨"DropsDance$TextReader", "readRule", "(I)V"⟩, 12) := ⟨⟨by decide +kernel, by decide +kernel⟩, List.mem_of_getElem? (i := 30) (by decide +kernel), List.mem_of_getElem? (i := 554) (by decide +kernel), List.mem_of_getElem? (i := 555) (by decide +kernel)⟩
theorem lw_p9 : lw_okq (⟨"DropsDance$TextReader", "readValue", "(II)V"⟩, 12) := ⟨⟨by decide +kernel, by decide +kernel⟩, List.mem_of_getElem? (i := 30) (by decide +kernel), List.mem_of_getElem? (i := 560) (by decide +kernel), List.mem_of_getElem? (i := 561) (by decide +kernel)⟩
theorem lw_p10 : lw_okq (⟨"DropsDance", "setDown", "(III)I"⟩, 13) := ⟨⟨by decide +kernel, by decide +kernel⟩, List.mem_of_getElem? (i := 22) (by decide +kernel), List.mem_of_getElem? (i := 631) (by decide +kernel), List.mem_of_getElem? (i := 632) (by decide +kernel)⟩
theorem lw_p11 : lw_okq (⟨"DropsDance$Scene", "loseSteam", "(LDropsDance$Drop;I)V"⟩, 11) := ⟨⟨by decide +kernel, by decide +kernel⟩, List.mem_of_getElem? (i := 102) (by decide +kernel), List.mem_of_getElem? (i := 673) (by decide +kernel), List.mem_of_getElem? (i := 674) (by decide +kernel)⟩
theorem lw_p12 : lw_okq (⟨"DropsDance$Scene", "leave", "(LDropsDance$Drop;I)V"⟩, 11) := ⟨⟨by decide +kernel, by decide +kernel⟩, List.mem_of_getElem? (i := 102) (by decide +kernel), List.mem_of_getElem? (i := 677) (by decide +kernel), List.mem_of_getElem? (i := 678) (by decide +kernel)⟩
theorem lw_p13 : lw_okq (⟨"DropsDance$Scene", "floatOn", "(LDropsDance$Drop;LDropsDance$Rules;I)V"⟩, 11) := ⟨⟨by decide +kernel, by decide +kernel⟩, List.mem_of_getElem? (i := 102) (by decide +kernel), List.mem_of_getElem? (i := 681) (by decide +kernel), List.mem_of_getElem? (i := 682) (by decide +kernel)⟩
theorem lw_p14 : lw_okq (⟨"DropsDance$Scene", "drawWay", "()I"⟩, 11) := ⟨⟨by decide +kernel, by decide +kernel⟩, List.mem_of_getElem? (i := 102) (by decide +kernel), List.mem_of_getElem? (i := 706) (by decide +kernel), List.mem_of_getElem? (i := 707) (by decide +kernel)⟩
theorem lw_p15 : lw_okq (⟨"DropsDance$Scene", "joinWhoIsThere", "(LDropsDance$Drop;)V"⟩, 11) := ⟨⟨by decide +kernel, by decide +kernel⟩, List.mem_of_getElem? (i := 102) (by decide +kernel), List.mem_of_getElem? (i := 718) (by decide +kernel), List.mem_of_getElem? (i := 719) (by decide +kernel)⟩
def lw_privs_1 : List (MethodName × Nat) := [(⟨"DropsDance$TextReader", "beginAnew", "(I)V"⟩, 12), (⟨"DropsDance$TextReader", "readToken", "()V"⟩, 12), (⟨"DropsDance$TextReader", "byteAt", "(I)I"⟩, 12), (⟨"DropsDance$TextReader", "refuse", "(II)V"⟩, 12), (⟨"DropsDance$TextReader", "isName", "(Ljava/lang/String;)Z"⟩, 12), (⟨"DropsDance$TextReader", "readRow", "()V"⟩, 12), (⟨"DropsDance$TextReader", "take", "(I)V"⟩, 12), (⟨"DropsDance$TextReader", "ruleNamed", "()I"⟩, 12), (⟨"DropsDance$TextReader", "readRule", "(I)V"⟩, 12), (⟨"DropsDance$TextReader", "readValue", "(II)V"⟩, 12), (⟨"DropsDance", "setDown", "(III)I"⟩, 13), (⟨"DropsDance$Scene", "loseSteam", "(LDropsDance$Drop;I)V"⟩, 11), (⟨"DropsDance$Scene", "leave", "(LDropsDance$Drop;I)V"⟩, 11), (⟨"DropsDance$Scene", "floatOn", "(LDropsDance$Drop;LDropsDance$Rules;I)V"⟩, 11), (⟨"DropsDance$Scene", "drawWay", "()I"⟩, 11), (⟨"DropsDance$Scene", "joinWhoIsThere", "(LDropsDance$Drop;)V"⟩, 11)]
theorem lw_r1 : ∀ q ∈ lw_privs_1, lw_okq q := List.forall_mem_cons.mpr ⟨lw_p0, List.forall_mem_cons.mpr ⟨lw_p1, List.forall_mem_cons.mpr ⟨lw_p2, List.forall_mem_cons.mpr ⟨lw_p3, List.forall_mem_cons.mpr ⟨lw_p4, List.forall_mem_cons.mpr ⟨lw_p5, List.forall_mem_cons.mpr ⟨lw_p6, List.forall_mem_cons.mpr ⟨lw_p7, List.forall_mem_cons.mpr ⟨lw_p8, List.forall_mem_cons.mpr ⟨lw_p9, List.forall_mem_cons.mpr ⟨lw_p10, List.forall_mem_cons.mpr ⟨lw_p11, List.forall_mem_cons.mpr ⟨lw_p12, List.forall_mem_cons.mpr ⟨lw_p13, List.forall_mem_cons.mpr ⟨lw_p14, List.forall_mem_cons.mpr ⟨lw_p15, fun _ h => absurd h List.not_mem_nil⟩⟩⟩⟩⟩⟩⟩⟩⟩⟩⟩⟩⟩⟩⟩⟩
theorem lw_p16 : lw_okq (⟨"DropsDance$Rules", "lifeFloating", "(I)I"⟩, 1) := ⟨⟨by decide +kernel, by decide +kernel⟩, List.mem_of_getElem? (i := 36) (by decide +kernel), List.mem_of_getElem? (i := 850) (by decide +kernel), List.mem_of_getElem? (i := 851) (by decide +kernel)⟩
theorem lw_p17 : lw_okq (⟨"DropsDance$Rules", "lifeTouching", "(II)I"⟩, 1) := ⟨⟨by decide +kernel, by decide +kernel⟩, List.mem_of_getElem? (i := 36) (by decide +kernel), List.mem_of_getElem? (i := 855) (by decide +kernel), List.mem_of_getElem? (i := 856) (by decide +kernel)⟩
theorem lw_p18 : lw_okq (⟨"DropsDance$Roller", "takeOut", "(I)J"⟩, 2) := ⟨⟨by decide +kernel, by decide +kernel⟩, List.mem_of_getElem? (i := 264) (by decide +kernel), List.mem_of_getElem? (i := 895) (by decide +kernel), List.mem_of_getElem? (i := 896) (by decide +kernel)⟩
theorem lw_p19 : lw_okq (⟨"DropsDance$Roller", "rollAll", "(LDropsDance$Scene;)V"⟩, 2) := ⟨⟨by decide +kernel, by decide +kernel⟩, List.mem_of_getElem? (i := 264) (by decide +kernel), List.mem_of_getElem? (i := 899) (by decide +kernel), List.mem_of_getElem? (i := 900) (by decide +kernel)⟩
theorem lw_p20 : lw_okq (⟨"DropsDance", "howManyImages", "()I"⟩, 13) := ⟨⟨by decide +kernel, by decide +kernel⟩, List.mem_of_getElem? (i := 22) (by decide +kernel), List.mem_of_getElem? (i := 997) (by decide +kernel), List.mem_of_getElem? (i := 998) (by decide +kernel)⟩
theorem lw_p21 : lw_okq (⟨"DropsDanceModel", "firstDraft", "()V"⟩, 29) := ⟨⟨by decide +kernel, by decide +kernel⟩, List.mem_of_getElem? (i := 1005) (by decide +kernel), List.mem_of_getElem? (i := 1011) (by decide +kernel), List.mem_of_getElem? (i := 1012) (by decide +kernel)⟩
theorem lw_p22 : lw_okq (⟨"DropsDanceModel", "keepDraft", "()V"⟩, 29) := ⟨⟨by decide +kernel, by decide +kernel⟩, List.mem_of_getElem? (i := 1005) (by decide +kernel), List.mem_of_getElem? (i := 1015) (by decide +kernel), List.mem_of_getElem? (i := 1016) (by decide +kernel)⟩
theorem lw_p23 : lw_okq (⟨"DropsDanceModel", "next", "()V"⟩, 29) := ⟨⟨by decide +kernel, by decide +kernel⟩, List.mem_of_getElem? (i := 1005) (by decide +kernel), List.mem_of_getElem? (i := 1123) (by decide +kernel), List.mem_of_getElem? (i := 1124) (by decide +kernel)⟩
theorem lw_p24 : lw_okq (⟨"DropsDanceModel", "look", "(I)I"⟩, 29) := ⟨⟨by decide +kernel, by decide +kernel⟩, List.mem_of_getElem? (i := 1005) (by decide +kernel), List.mem_of_getElem? (i := 1127) (by decide +kernel), List.mem_of_getElem? (i := 1128) (by decide +kernel)⟩
theorem lw_p25 : lw_okq (⟨"DropsDanceModel", "needs", "(ZI)V"⟩, 29) := ⟨⟨by decide +kernel, by decide +kernel⟩, List.mem_of_getElem? (i := 1005) (by decide +kernel), List.mem_of_getElem? (i := 1135) (by decide +kernel), List.mem_of_getElem? (i := 1136) (by decide +kernel)⟩
theorem lw_p26 : lw_okq (⟨"DropsDanceModel", "readLine", "()V"⟩, 29) := ⟨⟨by decide +kernel, by decide +kernel⟩, List.mem_of_getElem? (i := 1005) (by decide +kernel), List.mem_of_getElem? (i := 1139) (by decide +kernel), List.mem_of_getElem? (i := 1140) (by decide +kernel)⟩
theorem lw_p27 : lw_okq (⟨"DropsDanceModel", "nameNow", "()I"⟩, 29) := ⟨⟨by decide +kernel, by decide +kernel⟩, List.mem_of_getElem? (i := 1005) (by decide +kernel), List.mem_of_getElem? (i := 1143) (by decide +kernel), List.mem_of_getElem? (i := 1144) (by decide +kernel)⟩
theorem lw_p28 : lw_okq (⟨"DropsDanceModel", "starts", "(IIIII)Z"⟩, 29) := ⟨⟨by decide +kernel, by decide +kernel⟩, List.mem_of_getElem? (i := 1005) (by decide +kernel), List.mem_of_getElem? (i := 1147) (by decide +kernel), List.mem_of_getElem? (i := 1148) (by decide +kernel)⟩
theorem lw_p29 : lw_okq (⟨"DropsDanceModel", "readRow", "()V"⟩, 29) := ⟨⟨by decide +kernel, by decide +kernel⟩, List.mem_of_getElem? (i := 1005) (by decide +kernel), List.mem_of_getElem? (i := 1151) (by decide +kernel), List.mem_of_getElem? (i := 1152) (by decide +kernel)⟩
theorem lw_p30 : lw_okq (⟨"DropsDanceModel", "lowest", "(I)I"⟩, 29) := ⟨⟨by decide +kernel, by decide +kernel⟩, List.mem_of_getElem? (i := 1005) (by decide +kernel), List.mem_of_getElem? (i := 1161) (by decide +kernel), List.mem_of_getElem? (i := 1162) (by decide +kernel)⟩
theorem lw_p31 : lw_okq (⟨"DropsDanceModel", "highest", "(I)I"⟩, 29) := ⟨⟨by decide +kernel, by decide +kernel⟩, List.mem_of_getElem? (i := 1005) (by decide +kernel), List.mem_of_getElem? (i := 1165) (by decide +kernel), List.mem_of_getElem? (i := 1166) (by decide +kernel)⟩
def lw_privs_2 : List (MethodName × Nat) := [(⟨"DropsDance$Rules", "lifeFloating", "(I)I"⟩, 1), (⟨"DropsDance$Rules", "lifeTouching", "(II)I"⟩, 1), (⟨"DropsDance$Roller", "takeOut", "(I)J"⟩, 2), (⟨"DropsDance$Roller", "rollAll", "(LDropsDance$Scene;)V"⟩, 2), (⟨"DropsDance", "howManyImages", "()I"⟩, 13), (⟨"DropsDanceModel", "firstDraft", "()V"⟩, 29), (⟨"DropsDanceModel", "keepDraft", "()V"⟩, 29), (⟨"DropsDanceModel", "next", "()V"⟩, 29), (⟨"DropsDanceModel", "look", "(I)I"⟩, 29), (⟨"DropsDanceModel", "needs", "(ZI)V"⟩, 29), (⟨"DropsDanceModel", "readLine", "()V"⟩, 29), (⟨"DropsDanceModel", "nameNow", "()I"⟩, 29), (⟨"DropsDanceModel", "starts", "(IIIII)Z"⟩, 29), (⟨"DropsDanceModel", "readRow", "()V"⟩, 29), (⟨"DropsDanceModel", "lowest", "(I)I"⟩, 29), (⟨"DropsDanceModel", "highest", "(I)I"⟩, 29)]
theorem lw_r2 : ∀ q ∈ lw_privs_2, lw_okq q := List.forall_mem_cons.mpr ⟨lw_p16, List.forall_mem_cons.mpr ⟨lw_p17, List.forall_mem_cons.mpr ⟨lw_p18, List.forall_mem_cons.mpr ⟨lw_p19, List.forall_mem_cons.mpr ⟨lw_p20, List.forall_mem_cons.mpr ⟨lw_p21, List.forall_mem_cons.mpr ⟨lw_p22, List.forall_mem_cons.mpr ⟨lw_p23, List.forall_mem_cons.mpr ⟨lw_p24, List.forall_mem_cons.mpr ⟨lw_p25, List.forall_mem_cons.mpr ⟨lw_p26, List.forall_mem_cons.mpr ⟨lw_p27, List.forall_mem_cons.mpr ⟨lw_p28, List.forall_mem_cons.mpr ⟨lw_p29, List.forall_mem_cons.mpr ⟨lw_p30, List.forall_mem_cons.mpr ⟨lw_p31, fun _ h => absurd h List.not_mem_nil⟩⟩⟩⟩⟩⟩⟩⟩⟩⟩⟩⟩⟩⟩⟩⟩
theorem lw_p32 : lw_okq (⟨"DropsDanceModel", "readNumber", "(II)I"⟩, 29) := ⟨⟨by decide +kernel, by decide +kernel⟩, List.mem_of_getElem? (i := 1005) (by decide +kernel), List.mem_of_getElem? (i := 1169) (by decide +kernel), List.mem_of_getElem? (i := 1170) (by decide +kernel)⟩
theorem lw_p33 : lw_okq (⟨"DropsDanceModel", "inCell", "(II)I"⟩, 29) := ⟨⟨by decide +kernel, by decide +kernel⟩, List.mem_of_getElem? (i := 1005) (by decide +kernel), List.mem_of_getElem? (i := 1198) (by decide +kernel), List.mem_of_getElem? (i := 1199) (by decide +kernel)⟩
theorem lw_p34 : lw_okq (⟨"DropsDanceModel", "isThere", "(I)Z"⟩, 29) := ⟨⟨by decide +kernel, by decide +kernel⟩, List.mem_of_getElem? (i := 1005) (by decide +kernel), List.mem_of_getElem? (i := 1202) (by decide +kernel), List.mem_of_getElem? (i := 1203) (by decide +kernel)⟩
theorem lw_p35 : lw_okq (⟨"DropsDanceModel", "acts", "(I)V"⟩, 29) := ⟨⟨by decide +kernel, by decide +kernel⟩, List.mem_of_getElem? (i := 1005) (by decide +kernel), List.mem_of_getElem? (i := 1225) (by decide +kernel), List.mem_of_getElem? (i := 1226) (by decide +kernel)⟩
theorem lw_p36 : lw_okq (⟨"DropsDanceModel", "touches", "(I)Z"⟩, 29) := ⟨⟨by decide +kernel, by decide +kernel⟩, List.mem_of_getElem? (i := 1005) (by decide +kernel), List.mem_of_getElem? (i := 1229) (by decide +kernel), List.mem_of_getElem? (i := 1230) (by decide +kernel)⟩
theorem lw_p37 : lw_okq (⟨"DropsDanceModel", "hisses", "(II)I"⟩, 29) := ⟨⟨by decide +kernel, by decide +kernel⟩, List.mem_of_getElem? (i := 1005) (by decide +kernel), List.mem_of_getElem? (i := 1233) (by decide +kernel), List.mem_of_getElem? (i := 1234) (by decide +kernel)⟩
theorem lw_p38 : lw_okq (⟨"DropsDanceModel", "loses", "(II)V"⟩, 29) := ⟨⟨by decide +kernel, by decide +kernel⟩, List.mem_of_getElem? (i := 1005) (by decide +kernel), List.mem_of_getElem? (i := 1240) (by decide +kernel), List.mem_of_getElem? (i := 1241) (by decide +kernel)⟩
theorem lw_p39 : lw_okq (⟨"DropsDanceModel", "ends", "(II)V"⟩, 29) := ⟨⟨by decide +kernel, by decide +kernel⟩, List.mem_of_getElem? (i := 1005) (by decide +kernel), List.mem_of_getElem? (i := 1244) (by decide +kernel), List.mem_of_getElem? (i := 1245) (by decide +kernel)⟩
theorem lw_p40 : lw_okq (⟨"DropsDanceModel", "thins", "(II)I"⟩, 29) := ⟨⟨by decide +kernel, by decide +kernel⟩, List.mem_of_getElem? (i := 1005) (by decide +kernel), List.mem_of_getElem? (i := 1248) (by decide +kernel), List.mem_of_getElem? (i := 1249) (by decide +kernel)⟩
theorem lw_p41 : lw_okq (⟨"DropsDanceModel", "goesOn", "(I)V"⟩, 29) := ⟨⟨by decide +kernel, by decide +kernel⟩, List.mem_of_getElem? (i := 1005) (by decide +kernel), List.mem_of_getElem? (i := 1252) (by decide +kernel), List.mem_of_getElem? (i := 1253) (by decide +kernel)⟩
theorem lw_p42 : lw_okq (⟨"DropsDanceModel", "isTooth", "(II)Z"⟩, 29) := ⟨⟨by decide +kernel, by decide +kernel⟩, List.mem_of_getElem? (i := 1005) (by decide +kernel), List.mem_of_getElem? (i := 1256) (by decide +kernel), List.mem_of_getElem? (i := 1257) (by decide +kernel)⟩
theorem lw_p43 : lw_okq (⟨"DropsDanceModel", "draws", "()I"⟩, 29) := ⟨⟨by decide +kernel, by decide +kernel⟩, List.mem_of_getElem? (i := 1005) (by decide +kernel), List.mem_of_getElem? (i := 1260) (by decide +kernel), List.mem_of_getElem? (i := 1261) (by decide +kernel)⟩
theorem lw_p44 : lw_okq (⟨"DropsDanceModel", "isWall", "(I)Z"⟩, 29) := ⟨⟨by decide +kernel, by decide +kernel⟩, List.mem_of_getElem? (i := 1005) (by decide +kernel), List.mem_of_getElem? (i := 1269) (by decide +kernel), List.mem_of_getElem? (i := 1270) (by decide +kernel)⟩
theorem lw_p45 : lw_okq (⟨"DropsDanceModel", "thereMany", "()I"⟩, 29) := ⟨⟨by decide +kernel, by decide +kernel⟩, List.mem_of_getElem? (i := 1005) (by decide +kernel), List.mem_of_getElem? (i := 1273) (by decide +kernel), List.mem_of_getElem? (i := 1274) (by decide +kernel)⟩
theorem lw_p46 : lw_okq (⟨"DropsDanceModel", "copies", "(II)V"⟩, 29) := ⟨⟨by decide +kernel, by decide +kernel⟩, List.mem_of_getElem? (i := 1005) (by decide +kernel), List.mem_of_getElem? (i := 1301) (by decide +kernel), List.mem_of_getElem? (i := 1302) (by decide +kernel)⟩
theorem lw_p47 : lw_okq (⟨"DropsDanceModel", "sets", "(III)V"⟩, 29) := ⟨⟨by decide +kernel, by decide +kernel⟩, List.mem_of_getElem? (i := 1005) (by decide +kernel), List.mem_of_getElem? (i := 1314) (by decide +kernel), List.mem_of_getElem? (i := 1315) (by decide +kernel)⟩
def lw_privs_3 : List (MethodName × Nat) := [(⟨"DropsDanceModel", "readNumber", "(II)I"⟩, 29), (⟨"DropsDanceModel", "inCell", "(II)I"⟩, 29), (⟨"DropsDanceModel", "isThere", "(I)Z"⟩, 29), (⟨"DropsDanceModel", "acts", "(I)V"⟩, 29), (⟨"DropsDanceModel", "touches", "(I)Z"⟩, 29), (⟨"DropsDanceModel", "hisses", "(II)I"⟩, 29), (⟨"DropsDanceModel", "loses", "(II)V"⟩, 29), (⟨"DropsDanceModel", "ends", "(II)V"⟩, 29), (⟨"DropsDanceModel", "thins", "(II)I"⟩, 29), (⟨"DropsDanceModel", "goesOn", "(I)V"⟩, 29), (⟨"DropsDanceModel", "isTooth", "(II)Z"⟩, 29), (⟨"DropsDanceModel", "draws", "()I"⟩, 29), (⟨"DropsDanceModel", "isWall", "(I)Z"⟩, 29), (⟨"DropsDanceModel", "thereMany", "()I"⟩, 29), (⟨"DropsDanceModel", "copies", "(II)V"⟩, 29), (⟨"DropsDanceModel", "sets", "(III)V"⟩, 29)]
theorem lw_r3 : ∀ q ∈ lw_privs_3, lw_okq q := List.forall_mem_cons.mpr ⟨lw_p32, List.forall_mem_cons.mpr ⟨lw_p33, List.forall_mem_cons.mpr ⟨lw_p34, List.forall_mem_cons.mpr ⟨lw_p35, List.forall_mem_cons.mpr ⟨lw_p36, List.forall_mem_cons.mpr ⟨lw_p37, List.forall_mem_cons.mpr ⟨lw_p38, List.forall_mem_cons.mpr ⟨lw_p39, List.forall_mem_cons.mpr ⟨lw_p40, List.forall_mem_cons.mpr ⟨lw_p41, List.forall_mem_cons.mpr ⟨lw_p42, List.forall_mem_cons.mpr ⟨lw_p43, List.forall_mem_cons.mpr ⟨lw_p44, List.forall_mem_cons.mpr ⟨lw_p45, List.forall_mem_cons.mpr ⟨lw_p46, List.forall_mem_cons.mpr ⟨lw_p47, fun _ h => absurd h List.not_mem_nil⟩⟩⟩⟩⟩⟩⟩⟩⟩⟩⟩⟩⟩⟩⟩⟩
theorem lw_p48 : lw_okq (⟨"DropsDanceModel", "oneActs", "(I)V"⟩, 29) := ⟨⟨by decide +kernel, by decide +kernel⟩, List.mem_of_getElem? (i := 1005) (by decide +kernel), List.mem_of_getElem? (i := 1318) (by decide +kernel), List.mem_of_getElem? (i := 1319) (by decide +kernel)⟩
theorem lw_p49 : lw_okq (⟨"DropsDanceModel", "oneEnds", "(II)V"⟩, 29) := ⟨⟨by decide +kernel, by decide +kernel⟩, List.mem_of_getElem? (i := 1005) (by decide +kernel), List.mem_of_getElem? (i := 1322) (by decide +kernel), List.mem_of_getElem? (i := 1323) (by decide +kernel)⟩
theorem lw_p50 : lw_okq (⟨"DropsDanceModel", "oneGoes", "(I)V"⟩, 29) := ⟨⟨by decide +kernel, by decide +kernel⟩, List.mem_of_getElem? (i := 1005) (by decide +kernel), List.mem_of_getElem? (i := 1326) (by decide +kernel), List.mem_of_getElem? (i := 1327) (by decide +kernel)⟩
theorem lw_p51 : lw_okq (⟨"DropsDanceModel", "reachOf", "(IIII)I"⟩, 29) := ⟨⟨by decide +kernel, by decide +kernel⟩, List.mem_of_getElem? (i := 1005) (by decide +kernel), List.mem_of_getElem? (i := 1334) (by decide +kernel), List.mem_of_getElem? (i := 1335) (by decide +kernel)⟩
theorem lw_p52 : lw_okq (⟨"DropsDanceModel", "along", "(III)I"⟩, 29) := ⟨⟨by decide +kernel, by decide +kernel⟩, List.mem_of_getElem? (i := 1005) (by decide +kernel), List.mem_of_getElem? (i := 1343) (by decide +kernel), List.mem_of_getElem? (i := 1344) (by decide +kernel)⟩
theorem lw_p53 : lw_okq (⟨"DropsDanceModel", "lifeAt", "(IIZ)I"⟩, 29) := ⟨⟨by decide +kernel, by decide +kernel⟩, List.mem_of_getElem? (i := 1005) (by decide +kernel), List.mem_of_getElem? (i := 1367) (by decide +kernel), List.mem_of_getElem? (i := 1368) (by decide +kernel)⟩
theorem lw_p54 : lw_okq (⟨"DropsDanceModel", "floatsAt", "(IZ)Z"⟩, 29) := ⟨⟨by decide +kernel, by decide +kernel⟩, List.mem_of_getElem? (i := 1005) (by decide +kernel), List.mem_of_getElem? (i := 1371) (by decide +kernel), List.mem_of_getElem? (i := 1372) (by decide +kernel)⟩
theorem lw_p55 : lw_okq (⟨"DropsDanceModel", "lifeOf", "(IIZ)I"⟩, 29) := ⟨⟨by decide +kernel, by decide +kernel⟩, List.mem_of_getElem? (i := 1005) (by decide +kernel), List.mem_of_getElem? (i := 1375) (by decide +kernel), List.mem_of_getElem? (i := 1376) (by decide +kernel)⟩
theorem lw_p56 : lw_okq (⟨"DropsDanceModel", "spreads", "(I)J"⟩, 29) := ⟨⟨by decide +kernel, by decide +kernel⟩, List.mem_of_getElem? (i := 1005) (by decide +kernel), List.mem_of_getElem? (i := 1398) (by decide +kernel), List.mem_of_getElem? (i := 1399) (by decide +kernel)⟩
theorem lw_p57 : lw_okq (⟨"DropsDanceModel", "isRight", "(I)Z"⟩, 29) := ⟨⟨by decide +kernel, by decide +kernel⟩, List.mem_of_getElem? (i := 1005) (by decide +kernel), List.mem_of_getElem? (i := 1421) (by decide +kernel), List.mem_of_getElem? (i := 1422) (by decide +kernel)⟩
theorem lw_p58 : lw_okq (⟨"DropsDanceModel", "takesBack", "(II)V"⟩, 29) := ⟨⟨by decide +kernel, by decide +kernel⟩, List.mem_of_getElem? (i := 1005) (by decide +kernel), List.mem_of_getElem? (i := 1447) (by decide +kernel), List.mem_of_getElem? (i := 1448) (by decide +kernel)⟩
def lw_privs_4 : List (MethodName × Nat) := [(⟨"DropsDanceModel", "oneActs", "(I)V"⟩, 29), (⟨"DropsDanceModel", "oneEnds", "(II)V"⟩, 29), (⟨"DropsDanceModel", "oneGoes", "(I)V"⟩, 29), (⟨"DropsDanceModel", "reachOf", "(IIII)I"⟩, 29), (⟨"DropsDanceModel", "along", "(III)I"⟩, 29), (⟨"DropsDanceModel", "lifeAt", "(IIZ)I"⟩, 29), (⟨"DropsDanceModel", "floatsAt", "(IZ)Z"⟩, 29), (⟨"DropsDanceModel", "lifeOf", "(IIZ)I"⟩, 29), (⟨"DropsDanceModel", "spreads", "(I)J"⟩, 29), (⟨"DropsDanceModel", "isRight", "(I)Z"⟩, 29), (⟨"DropsDanceModel", "takesBack", "(II)V"⟩, 29)]
theorem lw_r4 : ∀ q ∈ lw_privs_4, lw_okq q := List.forall_mem_cons.mpr ⟨lw_p48, List.forall_mem_cons.mpr ⟨lw_p49, List.forall_mem_cons.mpr ⟨lw_p50, List.forall_mem_cons.mpr ⟨lw_p51, List.forall_mem_cons.mpr ⟨lw_p52, List.forall_mem_cons.mpr ⟨lw_p53, List.forall_mem_cons.mpr ⟨lw_p54, List.forall_mem_cons.mpr ⟨lw_p55, List.forall_mem_cons.mpr ⟨lw_p56, List.forall_mem_cons.mpr ⟨lw_p57, List.forall_mem_cons.mpr ⟨lw_p58, fun _ h => absurd h List.not_mem_nil⟩⟩⟩⟩⟩⟩⟩⟩⟩⟩⟩
def lw_privs : List (MethodName × Nat) := lw_privs_1 ++ (lw_privs_2 ++ (lw_privs_3 ++ (lw_privs_4)))
def lw_tbl : List Cond := k2_sels lw_privs ++ tables_1
theorem lw_privs_ok : ∀ q ∈ lw_privs, lw_okq q := by
  show ∀ q ∈ lw_privs_1 ++ (lw_privs_2 ++ (lw_privs_3 ++ (lw_privs_4))), lw_okq q
  exact List.forall_mem_append.mpr ⟨lw_r1, List.forall_mem_append.mpr ⟨lw_r2, List.forall_mem_append.mpr ⟨lw_r3, lw_r4⟩⟩⟩

theorem goodIn_r {big : List Cond} (ws : List Cond) (ps : List Nat) (hp : ws = ps.filterMap (fun i => big[i]?)) (h : ws.all goodWord = true) : GoodIn big ws := by
  intro w hw
  have h1 := List.all_eq_true.mp h w hw
  rw [hp] at hw
  obtain ⟨i, -, hi⟩ := List.mem_filterMap.mp hw
  have hm : w ∈ big := by first | exact List.mem_of_getElem? hi | exact List.getElem?_mem hi
  exact ⟨hm, good_of_word h1⟩
theorem goodIn_app {big a b : List Cond} (ha : GoodIn big a) (hb : GoodIn big b) : GoodIn big (a ++ b) := fun w h => (List.mem_append.mp h).elim (ha w) (hb w)
theorem goodIn_ca {big a b : List Cond} {c : Cond} (ha : GoodIn big (c :: a)) (hb : GoodIn big b) : GoodIn big (c :: (a ++ b)) := fun w h => (List.mem_cons.mp h).elim (fun e => ha w (List.mem_cons.mpr (Or.inl e))) (fun h => (List.mem_append.mp h).elim (fun h => ha w (List.mem_cons.mpr (Or.inr h))) (hb w))
theorem goodIn_sub {big ws : List Cond} (hm : ∀ w ∈ ws, w ∈ big) (h : ws.all goodWord = true) : GoodIn big ws := fun w hw => ⟨hm w hw, good_of_word (List.all_eq_true.mp h w hw)⟩
def RX0 : String := "DropsDance$Drop"
def TX0 : u_T := fun k => match k with
  | 0 => ("DropsDance$Drop", "cell", "I", false)
  | 1 => ("DropsDance$Drop", "size", "I", false)
  | 2 => ("DropsDance$Drop", "way", "I", false)
  | 3 => ("DropsDance$Drop", "gone", "I", false)
  | 4 => ("DropsDance$Drop", "goneTick", "I", false)
  | _ => ("DropsDance$Drop", "joinedTo", "I", false)
def tyX0 : Nat → FieldType := fun k => match k with
  | 0 => .int
  | 1 => .int
  | 2 => .int
  | 3 => .int
  | 4 => .int
  | _ => .int
abbrev wsX00 : List Cond := u_ws RX0 TX0 6
theorem nmX0 : ∀ a, a < 6 → ∀ b, b < 6 → a ≠ b → (TX0 a).2.1 ≠ (TX0 b).2.1 := by decide +kernel
theorem tyX0_ok : ∀ k, k < 6 → parseFieldDescriptor (TX0 k).2.2.1 = some (tyX0 k) := by decide +kernel
abbrev cX0_init : ByteArray := prog_2_method_1_code
def yX0_init : MethodName := ⟨RX0, "<init>", "()V"⟩
abbrev cX0_begin : ByteArray := prog_2_method_2_code
def yX0_begin : MethodName := ⟨RX0, "begin", "(III)V"⟩
abbrev cX0_takeAll : ByteArray := prog_2_method_3_code
def yX0_takeAll : MethodName := ⟨RX0, "takeAll", "(LDropsDance$Drop;)V"⟩
def RX1 : String := "DropsDance$Image"
def TX1 : u_T := fun k => match k with
  | 0 => ("DropsDance$Image", "scene", "LDropsDance$Scene;", true)
  | _ => ("DropsDance$Image", "there", "Z", false)
def tyX1 : Nat → FieldType := fun k => match k with
  | 0 => .object "DropsDance$Scene"
  | _ => .boolean
abbrev wsX10 : List Cond := u_ws RX1 TX1 2
theorem nmX1 : ∀ a, a < 2 → ∀ b, b < 2 → a ≠ b → (TX1 a).2.1 ≠ (TX1 b).2.1 := by decide +kernel
theorem tyX1_ok : ∀ k, k < 2 → parseFieldDescriptor (TX1 k).2.2.1 = some (tyX1 k) := by decide +kernel
abbrev cX1_init : ByteArray := prog_3_method_1_code
def yX1_init : MethodName := ⟨RX1, "<init>", "()V"⟩
def RX2 : String := "DropsDance$Loner"
def TX2 : u_T := fun k => match k with
  | 0 => ("DropsDance$Loner", "own", "LDropsDance$Scene;", true)
  | 1 => ("DropsDance$Loner", "been", "[I", true)
  | 2 => ("DropsDance$Loner", "worthTrying", "[I", true)
  | 3 => ("DropsDance$Loner", "firstCell", "I", false)
  | 4 => ("DropsDance$Loner", "firstSize", "I", false)
  | 5 => ("DropsDance$Loner", "firstWay", "I", false)
  | 6 => ("DropsDance$Loner", "bestTicks", "I", false)
  | 7 => ("DropsDance$Loner", "bestCell", "I", false)
  | _ => ("DropsDance$Loner", "bestKind", "I", false)
def tyX2 : Nat → FieldType := fun k => match k with
  | 0 => .object "DropsDance$Scene"
  | 1 => .array .int
  | 2 => .array .int
  | 3 => .int
  | 4 => .int
  | 5 => .int
  | 6 => .int
  | 7 => .int
  | _ => .int
abbrev wsX20 : List Cond := u_ws RX2 TX2 9
theorem nmX2 : ∀ a, a < 9 → ∀ b, b < 9 → a ≠ b → (TX2 a).2.1 ≠ (TX2 b).2.1 := by decide +kernel
theorem tyX2_ok : ∀ k, k < 9 → parseFieldDescriptor (TX2 k).2.2.1 = some (tyX2 k) := by decide +kernel
abbrev cX2_init : ByteArray := prog_4_method_1_code
def yX2_init : MethodName := ⟨RX2, "<init>", "()V"⟩
abbrev cX2_begin : ByteArray := prog_4_method_2_code
def yX2_begin : MethodName := ⟨RX2, "begin", "(LDropsDance$Scene;III)V"⟩
abbrev cX2_runOn : ByteArray := prog_4_method_3_code
def yX2_runOn : MethodName := ⟨RX2, "runOn", "(LDropsDance$Rules;I)LDropsDance$Drop;"⟩
abbrev cX2_ticksTill : ByteArray := prog_4_method_4_code
def yX2_ticksTill : MethodName := ⟨RX2, "ticksTill", "(LDropsDance$Rules;II)I"⟩
abbrev cX2_findMend : ByteArray := prog_4_method_5_code
def yX2_findMend : MethodName := ⟨RX2, "findMend", "(LDropsDance$Rules;I)Z"⟩
def RX3 : String := "DropsDance$Path"
def TX3 : u_T := fun k => match k with
  | 0 => ("DropsDance$Path", "walker", "LDropsDance$Drop;", true)
  | 1 => ("DropsDance$Path", "seenAt", "[I", true)
  | 2 => ("DropsDance$Path", "ticksBefore", "I", false)
  | _ => ("DropsDance$Path", "ticksRound", "I", false)
def tyX3 : Nat → FieldType := fun k => match k with
  | 0 => .object "DropsDance$Drop"
  | 1 => .array .int
  | 2 => .int
  | _ => .int
abbrev wsX30 : List Cond := u_ws RX3 TX3 4
theorem nmX3 : ∀ a, a < 4 → ∀ b, b < 4 → a ≠ b → (TX3 a).2.1 ≠ (TX3 b).2.1 := by decide +kernel
theorem tyX3_ok : ∀ k, k < 4 → parseFieldDescriptor (TX3 k).2.2.1 = some (tyX3 k) := by decide +kernel
abbrev cX3_init : ByteArray := prog_5_method_1_code
def yX3_init : MethodName := ⟨RX3, "<init>", "()V"⟩
abbrev cX3_follow : ByteArray := prog_5_method_2_code
def yX3_follow : MethodName := ⟨RX3, "follow", "(LDropsDance$Scene;LDropsDance$Rules;III)I"⟩
abbrev cX3_cellsRound : ByteArray := prog_5_method_3_code
def yX3_cellsRound : MethodName := ⟨RX3, "cellsRound", "()I"⟩
def RX4 : String := "DropsDance$Roller"
def TX4 : u_T := fun k => match k with
  | 0 => ("DropsDance$Roller", "courses", "[J", true)
  | _ => ("DropsDance$Roller", "coursesNext", "[J", true)
def tyX4 : Nat → FieldType := fun k => match k with
  | 0 => .array .long
  | _ => .array .long
abbrev wsX40 : List Cond := u_ws RX4 TX4 2
theorem nmX4 : ∀ a, a < 2 → ∀ b, b < 2 → a ≠ b → (TX4 a).2.1 ≠ (TX4 b).2.1 := by decide +kernel
theorem tyX4_ok : ∀ k, k < 2 → parseFieldDescriptor (TX4 k).2.2.1 = some (tyX4 k) := by decide +kernel
abbrev cX4_init : ByteArray := prog_6_method_1_code
def yX4_init : MethodName := ⟨RX4, "<init>", "()V"⟩
abbrev cX4_beenIn : ByteArray := prog_6_method_2_code
def yX4_beenIn : MethodName := ⟨RX4, "beenIn", "(LDropsDance$Scene;III)J"⟩
abbrev cX4_takeOut : ByteArray := prog_6_method_3_code
def yX4_takeOut : MethodName := ⟨RX4, "takeOut", "(I)J"⟩
abbrev cX4_rollAll : ByteArray := prog_6_method_4_code
def yX4_rollAll : MethodName := ⟨RX4, "rollAll", "(LDropsDance$Scene;)V"⟩
abbrev cX4_rolledTo : ByteArray := prog_6_method_5_code
def yX4_rolledTo : MethodName := ⟨RX4, "rolledTo", "(LDropsDance$Scene;II)I"⟩
def RX5 : String := "DropsDance$Rules"
def TX5 : u_T := fun k => match k with
  | _ => ("DropsDance$Rules", "values", "[I", true)
def tyX5 : Nat → FieldType := fun k => match k with
  | _ => .array .int
abbrev wsX50 : List Cond := u_ws RX5 TX5 1
theorem nmX5 : ∀ a, a < 1 → ∀ b, b < 1 → a ≠ b → (TX5 a).2.1 ≠ (TX5 b).2.1 := by decide +kernel
theorem tyX5_ok : ∀ k, k < 1 → parseFieldDescriptor (TX5 k).2.2.1 = some (tyX5 k) := by decide +kernel
abbrev cX5_init : ByteArray := prog_7_method_1_code
def yX5_init : MethodName := ⟨RX5, "<init>", "()V"⟩
abbrev cX5_beginAnew : ByteArray := prog_7_method_2_code
def yX5_beginAnew : MethodName := ⟨RX5, "beginAnew", "()V"⟩
abbrev cX5_takeAll : ByteArray := prog_7_method_3_code
def yX5_takeAll : MethodName := ⟨RX5, "takeAll", "(LDropsDance$Rules;)V"⟩
abbrev cX5_value : ByteArray := prog_7_method_4_code
def yX5_value : MethodName := ⟨RX5, "value", "(I)I"⟩
abbrev cX5_become : ByteArray := prog_7_method_5_code
def yX5_become : MethodName := ⟨RX5, "become", "(II)V"⟩
abbrev cX5_floatsAt : ByteArray := prog_7_method_6_code
def yX5_floatsAt : MethodName := ⟨RX5, "floatsAt", "(IZ)Z"⟩
abbrev cX5_teethSend : ByteArray := prog_7_method_7_code
def yX5_teethSend : MethodName := ⟨RX5, "teethSend", "(I)Z"⟩
abbrev cX5_hasChimney : ByteArray := prog_7_method_8_code
def yX5_hasChimney : MethodName := ⟨RX5, "hasChimney", "(I)Z"⟩
abbrev cX5_losesFloatingAt : ByteArray := prog_7_method_9_code
def yX5_losesFloatingAt : MethodName := ⟨RX5, "losesFloatingAt", "(I)Z"⟩
abbrev cX5_lossFloating : ByteArray := prog_7_method_10_code
def yX5_lossFloating : MethodName := ⟨RX5, "lossFloating", "(I)I"⟩
abbrev cX5_lossTouching : ByteArray := prog_7_method_11_code
def yX5_lossTouching : MethodName := ⟨RX5, "lossTouching", "(I)I"⟩
abbrev cX5_lifeOf : ByteArray := prog_7_method_12_code
def yX5_lifeOf : MethodName := ⟨RX5, "lifeOf", "(IIZ)I"⟩
abbrev cX5_lifeBy : ByteArray := prog_7_method_13_code
def yX5_lifeBy : MethodName := ⟨RX5, "lifeBy", "(IIZ)I"⟩
abbrev cX5_lifeTouching : ByteArray := prog_7_method_14_code
def yX5_lifeTouching : MethodName := ⟨RX5, "lifeTouching", "(II)I"⟩
abbrev cX5_lifeFloating : ByteArray := prog_7_method_15_code
def yX5_lifeFloating : MethodName := ⟨RX5, "lifeFloating", "(I)I"⟩
abbrev cX5_longestHeat : ByteArray := prog_7_method_16_code
def yX5_longestHeat : MethodName := ⟨RX5, "longestHeat", "(IZ)I"⟩
abbrev cX5_shortestLife : ByteArray := prog_7_method_17_code
def yX5_shortestLife : MethodName := ⟨RX5, "shortestLife", "(IZ)I"⟩
abbrev cX5_firstLonger : ByteArray := prog_7_method_18_code
def yX5_firstLonger : MethodName := ⟨RX5, "firstLonger", "(IZ)I"⟩
def RX6 : String := "DropsDance$Scene"
def TX6 : u_T := fun k => match k with
  | 0 => ("DropsDance$Scene", "cells", "[I", true)
  | 1 => ("DropsDance$Scene", "drops", "[LDropsDance$Drop;", true)
  | 2 => ("DropsDance$Scene", "many", "I", false)
  | 3 => ("DropsDance$Scene", "heat", "I", false)
  | 4 => ("DropsDance$Scene", "tick", "I", false)
  | 5 => ("DropsDance$Scene", "seed", "I", false)
  | 6 => ("DropsDance$Scene", "floating", "Z", false)
  | 7 => ("DropsDance$Scene", "steam", "I", false)
  | 8 => ("DropsDance$Scene", "fallen", "I", false)
  | 9 => ("DropsDance$Scene", "leapt", "I", false)
  | _ => ("DropsDance$Scene", "poured", "I", false)
def tyX6 : Nat → FieldType := fun k => match k with
  | 0 => .array .int
  | 1 => .array (.object "DropsDance$Drop")
  | 2 => .int
  | 3 => .int
  | 4 => .int
  | 5 => .int
  | 6 => .boolean
  | 7 => .int
  | 8 => .int
  | 9 => .int
  | _ => .int
abbrev wsX60 : List Cond := u_ws RX6 TX6 11
theorem nmX6 : ∀ a, a < 11 → ∀ b, b < 11 → a ≠ b → (TX6 a).2.1 ≠ (TX6 b).2.1 := by decide +kernel
theorem tyX6_ok : ∀ k, k < 11 → parseFieldDescriptor (TX6 k).2.2.1 = some (tyX6 k) := by decide +kernel
abbrev cX6_init : ByteArray := prog_8_method_1_code
def yX6_init : MethodName := ⟨RX6, "<init>", "()V"⟩
abbrev cX6_takeAll : ByteArray := prog_8_method_2_code
def yX6_takeAll : MethodName := ⟨RX6, "takeAll", "(LDropsDance$Scene;)V"⟩
abbrev cX6_beginAnew : ByteArray := prog_8_method_3_code
def yX6_beginAnew : MethodName := ⟨RX6, "beginAnew", "([I)V"⟩
abbrev cX6_beginAlone : ByteArray := prog_8_method_4_code
def yX6_beginAlone : MethodName := ⟨RX6, "beginAlone", "(LDropsDance$Scene;III)V"⟩
abbrev cX6_clearDrops : ByteArray := prog_8_method_5_code
def yX6_clearDrops : MethodName := ⟨RX6, "clearDrops", "()V"⟩
abbrev cX6_addDrop : ByteArray := prog_8_method_6_code
def yX6_addDrop : MethodName := ⟨RX6, "addDrop", "(III)I"⟩
abbrev cX6_kindAt : ByteArray := prog_8_method_7_code
def yX6_kindAt : MethodName := ⟨RX6, "kindAt", "(I)I"⟩
abbrev cX6_isOpen : ByteArray := prog_8_method_8_code
def yX6_isOpen : MethodName := ⟨RX6, "isOpen", "(I)Z"⟩
abbrev cX6_isDrop : ByteArray := prog_8_method_9_code
def yX6_isDrop : MethodName := ⟨RX6, "isDrop", "(I)Z"⟩
abbrev cX6_dropAt : ByteArray := prog_8_method_10_code
def yX6_dropAt : MethodName := ⟨RX6, "dropAt", "(I)I"⟩
abbrev cX6_howManyThere : ByteArray := prog_8_method_11_code
def yX6_howManyThere : MethodName := ⟨RX6, "howManyThere", "()I"⟩
abbrev cX6_sizesThere : ByteArray := prog_8_method_12_code
def yX6_sizesThere : MethodName := ⟨RX6, "sizesThere", "()I"⟩
abbrev cX6_howManyHoles : ByteArray := prog_8_method_13_code
def yX6_howManyHoles : MethodName := ⟨RX6, "howManyHoles", "()I"⟩
abbrev cX6_touches : ByteArray := prog_8_method_14_code
def yX6_touches : MethodName := ⟨RX6, "touches", "(LDropsDance$Drop;)Z"⟩
abbrev cX6_passTick : ByteArray := prog_8_method_15_code
def yX6_passTick : MethodName := ⟨RX6, "passTick", "(LDropsDance$Rules;I)V"⟩
abbrev cX6_loseSteam : ByteArray := prog_8_method_16_code
def yX6_loseSteam : MethodName := ⟨RX6, "loseSteam", "(LDropsDance$Drop;I)V"⟩
abbrev cX6_leave : ByteArray := prog_8_method_17_code
def yX6_leave : MethodName := ⟨RX6, "leave", "(LDropsDance$Drop;I)V"⟩
abbrev cX6_floatOn : ByteArray := prog_8_method_18_code
def yX6_floatOn : MethodName := ⟨RX6, "floatOn", "(LDropsDance$Drop;LDropsDance$Rules;I)V"⟩
abbrev cX6_joinWhoIsThere : ByteArray := prog_8_method_19_code
def yX6_joinWhoIsThere : MethodName := ⟨RX6, "joinWhoIsThere", "(LDropsDance$Drop;)V"⟩
abbrev cX6_wayOf : ByteArray := prog_8_method_20_code
def yX6_wayOf : MethodName := ⟨RX6, "wayOf", "(LDropsDance$Drop;LDropsDance$Rules;I)I"⟩
abbrev cX6_drawWay : ByteArray := prog_8_method_21_code
def yX6_drawWay : MethodName := ⟨RX6, "drawWay", "()I"⟩
abbrev cX6_stepOn : ByteArray := prog_8_method_22_code
def yX6_stepOn : MethodName := ⟨RX6, "stepOn", "(LDropsDance$Drop;I)V"⟩
def RX7 : String := "DropsDance$Sheet"
def TX7 : u_T := fun k => match k with
  | 0 => ("DropsDance$Sheet", "row", "[I", true)
  | 1 => ("DropsDance$Sheet", "lane", "I", false)
  | _ => ("DropsDance$Sheet", "length", "I", false)
def tyX7 : Nat → FieldType := fun k => match k with
  | 0 => .array .int
  | 1 => .int
  | _ => .int
abbrev wsX70 : List Cond := u_ws RX7 TX7 3
theorem nmX7 : ∀ a, a < 3 → ∀ b, b < 3 → a ≠ b → (TX7 a).2.1 ≠ (TX7 b).2.1 := by decide +kernel
theorem tyX7_ok : ∀ k, k < 3 → parseFieldDescriptor (TX7 k).2.2.1 = some (tyX7 k) := by decide +kernel
abbrev cX7_init : ByteArray := prog_9_method_1_code
def yX7_init : MethodName := ⟨RX7, "<init>", "()V"⟩
abbrev cX7_becomeNew : ByteArray := prog_9_method_2_code
def yX7_becomeNew : MethodName := ⟨RX7, "becomeNew", "(II)V"⟩
abbrev cX7_faultAt : ByteArray := prog_9_method_3_code
def yX7_faultAt : MethodName := ⟨RX7, "faultAt", "(I)I"⟩
abbrev cX7_faultOfDrop : ByteArray := prog_9_method_4_code
def yX7_faultOfDrop : MethodName := ⟨RX7, "faultOfDrop", "(III)I"⟩
abbrev cX7_write : ByteArray := prog_9_method_5_code
def yX7_write : MethodName := ⟨RX7, "write", "(II)V"⟩
abbrev cX7_valueAt : ByteArray := prog_9_method_6_code
def yX7_valueAt : MethodName := ⟨RX7, "valueAt", "(I)I"⟩
def RX8 : String := "DropsDance$TextReader"
def TX8 : u_T := fun k => match k with
  | 0 => ("DropsDance$TextReader", "rules", "LDropsDance$Rules;", true)
  | 1 => ("DropsDance$TextReader", "cells", "[I", true)
  | 2 => ("DropsDance$TextReader", "ruleTold", "[Z", true)
  | 3 => ("DropsDance$TextReader", "bytes", "[B", true)
  | 4 => ("DropsDance$TextReader", "length", "I", false)
  | 5 => ("DropsDance$TextReader", "next", "I", false)
  | 6 => ("DropsDance$TextReader", "rows", "I", false)
  | 7 => ("DropsDance$TextReader", "kind", "I", false)
  | 8 => ("DropsDance$TextReader", "start", "I", false)
  | 9 => ("DropsDance$TextReader", "lines", "I", false)
  | 10 => ("DropsDance$TextReader", "fault", "I", false)
  | _ => ("DropsDance$TextReader", "place", "I", false)
def tyX8 : Nat → FieldType := fun k => match k with
  | 0 => .object "DropsDance$Rules"
  | 1 => .array .int
  | 2 => .array .boolean
  | 3 => .array .byte
  | 4 => .int
  | 5 => .int
  | 6 => .int
  | 7 => .int
  | 8 => .int
  | 9 => .int
  | 10 => .int
  | _ => .int
abbrev wsX80 : List Cond := u_ws RX8 TX8 12
theorem nmX8 : ∀ a, a < 12 → ∀ b, b < 12 → a ≠ b → (TX8 a).2.1 ≠ (TX8 b).2.1 := by decide +kernel
theorem tyX8_ok : ∀ k, k < 12 → parseFieldDescriptor (TX8 k).2.2.1 = some (tyX8 k) := by decide +kernel
abbrev cX8_init : ByteArray := prog_10_method_1_code
def yX8_init : MethodName := ⟨RX8, "<init>", "([B)V"⟩
abbrev cX8_readAll : ByteArray := prog_10_method_2_code
def yX8_readAll : MethodName := ⟨RX8, "readAll", "(I)V"⟩
abbrev cX8_beginAnew : ByteArray := prog_10_method_3_code
def yX8_beginAnew : MethodName := ⟨RX8, "beginAnew", "(I)V"⟩
abbrev cX8_refuse : ByteArray := prog_10_method_4_code
def yX8_refuse : MethodName := ⟨RX8, "refuse", "(II)V"⟩
abbrev cX8_readRow : ByteArray := prog_10_method_5_code
def yX8_readRow : MethodName := ⟨RX8, "readRow", "()V"⟩
abbrev cX8_readRule : ByteArray := prog_10_method_6_code
def yX8_readRule : MethodName := ⟨RX8, "readRule", "(I)V"⟩
abbrev cX8_readValue : ByteArray := prog_10_method_7_code
def yX8_readValue : MethodName := ⟨RX8, "readValue", "(II)V"⟩
abbrev cX8_take : ByteArray := prog_10_method_8_code
def yX8_take : MethodName := ⟨RX8, "take", "(I)V"⟩
abbrev cX8_readToken : ByteArray := prog_10_method_9_code
def yX8_readToken : MethodName := ⟨RX8, "readToken", "()V"⟩
abbrev cX8_kindOf : ByteArray := prog_10_method_10_code
def yX8_kindOf : MethodName := ⟨RX8, "kindOf", "(I)I"⟩
abbrev cX8_byteAt : ByteArray := prog_10_method_11_code
def yX8_byteAt : MethodName := ⟨RX8, "byteAt", "(I)I"⟩
abbrev cX8_ruleNamed : ByteArray := prog_10_method_12_code
def yX8_ruleNamed : MethodName := ⟨RX8, "ruleNamed", "()I"⟩
abbrev cX8_nameOf : ByteArray := prog_10_method_13_code
def yX8_nameOf : MethodName := ⟨RX8, "nameOf", "(I)Ljava/lang/String;"⟩
abbrev cX8_isName : ByteArray := prog_10_method_14_code
def yX8_isName : MethodName := ⟨RX8, "isName", "(Ljava/lang/String;)Z"⟩
def RX9 : String := "DropsDance$ToldLives"
def TX9 : u_T := fun k => match k with
  | 0 => ("DropsDance$ToldLives", "sizes", "[I", true)
  | 1 => ("DropsDance$ToldLives", "heats", "[I", true)
  | 2 => ("DropsDance$ToldLives", "lives", "[I", true)
  | 3 => ("DropsDance$ToldLives", "fromBelow", "[Z", true)
  | _ => ("DropsDance$ToldLives", "many", "I", false)
def tyX9 : Nat → FieldType := fun k => match k with
  | 0 => .array .int
  | 1 => .array .int
  | 2 => .array .int
  | 3 => .array .boolean
  | _ => .int
abbrev wsX90 : List Cond := u_ws RX9 TX9 5
theorem nmX9 : ∀ a, a < 5 → ∀ b, b < 5 → a ≠ b → (TX9 a).2.1 ≠ (TX9 b).2.1 := by decide +kernel
theorem tyX9_ok : ∀ k, k < 5 → parseFieldDescriptor (TX9 k).2.2.1 = some (tyX9 k) := by decide +kernel
abbrev cX9_init : ByteArray := prog_11_method_1_code
def yX9_init : MethodName := ⟨RX9, "<init>", "()V"⟩
abbrev cX9_tell : ByteArray := prog_11_method_2_code
def yX9_tell : MethodName := ⟨RX9, "tell", "(IIZI)Z"⟩
abbrev cX9_isSo : ByteArray := prog_11_method_3_code
def yX9_isSo : MethodName := ⟨RX9, "isSo", "(ILDropsDance$Rules;I)Z"⟩
abbrev cX9_allSo : ByteArray := prog_11_method_4_code
def yX9_allSo : MethodName := ⟨RX9, "allSo", "(LDropsDance$Rules;I)Z"⟩
def RX10 : String := "DropsDance"
def TX10 : u_T := fun k => match k with
  | 0 => ("DropsDance", "tape", "[B", true)
  | 1 => ("DropsDance", "tapeLength", "I", false)
  | 2 => ("DropsDance", "reader", "LDropsDance$TextReader;", true)
  | 3 => ("DropsDance", "textFault", "I", false)
  | 4 => ("DropsDance", "rules", "LDropsDance$Rules;", true)
  | 5 => ("DropsDance", "scene", "LDropsDance$Scene;", true)
  | 6 => ("DropsDance", "images", "[LDropsDance$Image;", true)
  | 7 => ("DropsDance", "loner", "LDropsDance$Loner;", true)
  | 8 => ("DropsDance", "path", "LDropsDance$Path;", true)
  | 9 => ("DropsDance", "roller", "LDropsDance$Roller;", true)
  | 10 => ("DropsDance", "told", "LDropsDance$ToldLives;", true)
  | 11 => ("DropsDance", "sheets", "[LDropsDance$Sheet;", true)
  | _ => ("DropsDance", "readFault", "I", false)
def tyX10 : Nat → FieldType := fun k => match k with
  | 0 => .array .byte
  | 1 => .int
  | 2 => .object "DropsDance$TextReader"
  | 3 => .int
  | 4 => .object "DropsDance$Rules"
  | 5 => .object "DropsDance$Scene"
  | 6 => .array (.object "DropsDance$Image")
  | 7 => .object "DropsDance$Loner"
  | 8 => .object "DropsDance$Path"
  | 9 => .object "DropsDance$Roller"
  | 10 => .object "DropsDance$ToldLives"
  | 11 => .array (.object "DropsDance$Sheet")
  | _ => .int
abbrev wsX100 : List Cond := u_ws RX10 TX10 13
theorem nmX10 : ∀ a, a < 13 → ∀ b, b < 13 → a ≠ b → (TX10 a).2.1 ≠ (TX10 b).2.1 := by decide +kernel
theorem tyX10_ok : ∀ k, k < 13 → parseFieldDescriptor (TX10 k).2.2.1 = some (tyX10 k) := by decide +kernel
abbrev cX10_init : ByteArray := prog_1_method_1_code
def yX10_init : MethodName := ⟨RX10, "<init>", "()V"⟩
abbrev cX10_feed : ByteArray := prog_1_method_2_code
def yX10_feed : MethodName := ⟨RX10, "feed", "(J)I"⟩
abbrev cX10_end : ByteArray := prog_1_method_3_code
def yX10_end : MethodName := ⟨RX10, "end", "(I)I"⟩
abbrev cX10_text : ByteArray := prog_1_method_4_code
def yX10_text : MethodName := ⟨RX10, "text", "()I"⟩
abbrev cX10_fault : ByteArray := prog_1_method_5_code
def yX10_fault : MethodName := ⟨RX10, "fault", "()I"⟩
abbrev cX10_rule : ByteArray := prog_1_method_6_code
def yX10_rule : MethodName := ⟨RX10, "rule", "(I)I"⟩
abbrev cX10_cell : ByteArray := prog_1_method_7_code
def yX10_cell : MethodName := ⟨RX10, "cell", "(I)I"⟩
abbrev cX10_put : ByteArray := prog_1_method_8_code
def yX10_put : MethodName := ⟨RX10, "put", "(II)I"⟩
abbrev cX10_heat : ByteArray := prog_1_method_9_code
def yX10_heat : MethodName := ⟨RX10, "heat", "(I)I"⟩
abbrev cX10_drop : ByteArray := prog_1_method_10_code
def yX10_drop : MethodName := ⟨RX10, "drop", "(III)I"⟩
abbrev cX10_go : ByteArray := prog_1_method_11_code
def yX10_go : MethodName := ⟨RX10, "go", "(I)I"⟩
abbrev cX10_seed : ByteArray := prog_1_method_12_code
def yX10_seed : MethodName := ⟨RX10, "seed", "(I)I"⟩
abbrev cX10_of : ByteArray := prog_1_method_13_code
def yX10_of : MethodName := ⟨RX10, "of", "(II)I"⟩
abbrev cX10_at : ByteArray := prog_1_method_14_code
def yX10_at : MethodName := ⟨RX10, "at", "(I)I"⟩
abbrev cX10_now : ByteArray := prog_1_method_15_code
def yX10_now : MethodName := ⟨RX10, "now", "(I)I"⟩
abbrev cX10_points : ByteArray := prog_1_method_16_code
def yX10_points : MethodName := ⟨RX10, "points", "(I)I"⟩
abbrev cX10_keep : ByteArray := prog_1_method_17_code
def yX10_keep : MethodName := ⟨RX10, "keep", "(I)I"⟩
abbrev cX10_back : ByteArray := prog_1_method_18_code
def yX10_back : MethodName := ⟨RX10, "back", "(I)I"⟩
abbrev cX10_alone : ByteArray := prog_1_method_19_code
def yX10_alone : MethodName := ⟨RX10, "alone", "(IIIII)I"⟩
abbrev cX10_reach : ByteArray := prog_1_method_20_code
def yX10_reach : MethodName := ⟨RX10, "reach", "(IIII)I"⟩
abbrev cX10_ring : ByteArray := prog_1_method_21_code
def yX10_ring : MethodName := ⟨RX10, "ring", "(IIII)I"⟩
abbrev cX10_falls : ByteArray := prog_1_method_22_code
def yX10_falls : MethodName := ⟨RX10, "falls", "(III)J"⟩
abbrev cX10_mend : ByteArray := prog_1_method_23_code
def yX10_mend : MethodName := ⟨RX10, "mend", "(IIIII)I"⟩
abbrev cX10_life : ByteArray := prog_1_method_24_code
def yX10_life : MethodName := ⟨RX10, "life", "(IIZ)I"⟩
abbrev cX10_hump : ByteArray := prog_1_method_25_code
def yX10_hump : MethodName := ⟨RX10, "hump", "(IZI)I"⟩
abbrev cX10_hot : ByteArray := prog_1_method_26_code
def yX10_hot : MethodName := ⟨RX10, "hot", "(IIZI)I"⟩
abbrev cX10_odds : ByteArray := prog_1_method_27_code
def yX10_odds : MethodName := ⟨RX10, "odds", "(IIII)J"⟩
abbrev cX10_cools : ByteArray := prog_1_method_28_code
def yX10_cools : MethodName := ⟨RX10, "cools", "(III)I"⟩
abbrev cX10_saw : ByteArray := prog_1_method_29_code
def yX10_saw : MethodName := ⟨RX10, "saw", "(IIZI)I"⟩
abbrev cX10_forget : ByteArray := prog_1_method_30_code
def yX10_forget : MethodName := ⟨RX10, "forget", "()I"⟩
abbrev cX10_fits : ByteArray := prog_1_method_31_code
def yX10_fits : MethodName := ⟨RX10, "fits", "(I)I"⟩
abbrev cX10_right : ByteArray := prog_1_method_32_code
def yX10_right : MethodName := ⟨RX10, "right", "()I"⟩
abbrev cX10_sheet : ByteArray := prog_1_method_33_code
def yX10_sheet : MethodName := ⟨RX10, "sheet", "(III)I"⟩
abbrev cX10_lay : ByteArray := prog_1_method_34_code
def yX10_lay : MethodName := ⟨RX10, "lay", "(III)I"⟩
abbrev cX10_read : ByteArray := prog_1_method_35_code
def yX10_read : MethodName := ⟨RX10, "read", "(IIII)I"⟩
abbrev cX10_torn : ByteArray := prog_1_method_36_code
def yX10_torn : MethodName := ⟨RX10, "torn", "()I"⟩
abbrev cX10_count : ByteArray := prog_1_method_37_code
def yX10_count : MethodName := ⟨RX10, "count", "(I)I"⟩
abbrev cX10_setDown : ByteArray := prog_1_method_38_code
def yX10_setDown : MethodName := ⟨RX10, "setDown", "(III)I"⟩
abbrev cX10_howManyImages : ByteArray := prog_1_method_39_code
def yX10_howManyImages : MethodName := ⟨RX10, "howManyImages", "()I"⟩
abbrev cX10_within : ByteArray := prog_1_method_40_code
def yX10_within : MethodName := ⟨RX10, "within", "(III)Z"⟩
abbrev cX10_isCell : ByteArray := prog_1_method_41_code
def yX10_isCell : MethodName := ⟨RX10, "isCell", "(I)Z"⟩
abbrev cX10_isWay : ByteArray := prog_1_method_42_code
def yX10_isWay : MethodName := ⟨RX10, "isWay", "(I)Z"⟩
abbrev cX10_isSize : ByteArray := prog_1_method_43_code
def yX10_isSize : MethodName := ⟨RX10, "isSize", "(I)Z"⟩
abbrev cX10_isHeat : ByteArray := prog_1_method_44_code
def yX10_isHeat : MethodName := ⟨RX10, "isHeat", "(I)Z"⟩
abbrev cX10_isSheet : ByteArray := prog_1_method_45_code
def yX10_isSheet : MethodName := ⟨RX10, "isSheet", "(I)Z"⟩
abbrev cX10_isLane : ByteArray := prog_1_method_46_code
def yX10_isLane : MethodName := ⟨RX10, "isLane", "(I)Z"⟩
abbrev cX10_isDropToBe : ByteArray := prog_1_method_47_code
def yX10_isDropToBe : MethodName := ⟨RX10, "isDropToBe", "(III)Z"⟩
abbrev cX10_nextCell : ByteArray := prog_1_method_48_code
def yX10_nextCell : MethodName := ⟨RX10, "nextCell", "(II)I"⟩
def RX11 : String := "DropsDanceModel"
def TX11 : u_T := fun k => match k with
  | 0 => ("DropsDanceModel", "st", "[I", true)
  | 1 => ("DropsDanceModel", "isKept", "[Z", true)
  | 2 => ("DropsDanceModel", "rule", "[I", true)
  | 3 => ("DropsDanceModel", "dRule", "[I", true)
  | 4 => ("DropsDanceModel", "isTold", "[Z", true)
  | 5 => ("DropsDanceModel", "dRows", "I", false)
  | 6 => ("DropsDanceModel", "dPlate", "[I", true)
  | 7 => ("DropsDanceModel", "tape", "[I", true)
  | 8 => ("DropsDanceModel", "taped", "I", false)
  | 9 => ("DropsDanceModel", "pos", "I", false)
  | 10 => ("DropsDanceModel", "from", "I", false)
  | 11 => ("DropsDanceModel", "sort", "I", false)
  | 12 => ("DropsDanceModel", "value", "I", false)
  | 13 => ("DropsDanceModel", "fault", "I", false)
  | 14 => ("DropsDanceModel", "wrongAt", "I", false)
  | 15 => ("DropsDanceModel", "oneAt", "I", false)
  | 16 => ("DropsDanceModel", "oneBig", "I", false)
  | 17 => ("DropsDanceModel", "oneWay", "I", false)
  | 18 => ("DropsDanceModel", "oneGone", "I", false)
  | 19 => ("DropsDanceModel", "oneWhen", "I", false)
  | 20 => ("DropsDanceModel", "seen", "[I", true)
  | 21 => ("DropsDanceModel", "waysTo", "[J", true)
  | 22 => ("DropsDanceModel", "waysThen", "[J", true)
  | 23 => ("DropsDanceModel", "saws", "I", false)
  | 24 => ("DropsDanceModel", "saw", "[I", true)
  | 25 => ("DropsDanceModel", "lanes", "[I", true)
  | 26 => ("DropsDanceModel", "sizes", "[I", true)
  | 27 => ("DropsDanceModel", "cells", "[I", true)
  | _ => ("DropsDanceModel", "torn", "I", false)
def tyX11 : Nat → FieldType := fun k => match k with
  | 0 => .array .int
  | 1 => .array .boolean
  | 2 => .array .int
  | 3 => .array .int
  | 4 => .array .boolean
  | 5 => .int
  | 6 => .array .int
  | 7 => .array .int
  | 8 => .int
  | 9 => .int
  | 10 => .int
  | 11 => .int
  | 12 => .int
  | 13 => .int
  | 14 => .int
  | 15 => .int
  | 16 => .int
  | 17 => .int
  | 18 => .int
  | 19 => .int
  | 20 => .array .int
  | 21 => .array .long
  | 22 => .array .long
  | 23 => .int
  | 24 => .array .int
  | 25 => .array .int
  | 26 => .array .int
  | 27 => .array .int
  | _ => .int
abbrev wsX110 : List Cond := u_ws RX11 TX11 29
theorem nmX11 : ∀ a, a < 29 → ∀ b, b < 29 → a ≠ b → (TX11 a).2.1 ≠ (TX11 b).2.1 := by decide +kernel
theorem tyX11_ok : ∀ k, k < 29 → parseFieldDescriptor (TX11 k).2.2.1 = some (tyX11 k) := by decide +kernel
abbrev cX11_init : ByteArray := prog_13_method_1_code
def yX11_init : MethodName := ⟨RX11, "<init>", "()V"⟩
abbrev cX11_in : ByteArray := prog_13_method_3_code
def yX11_in : MethodName := ⟨RX11, "in", "(JJJ)Z"⟩
abbrev cX11_flag : ByteArray := prog_13_method_4_code
def yX11_flag : MethodName := ⟨RX11, "flag", "(Z)I"⟩
abbrev cX11_less : ByteArray := prog_13_method_5_code
def yX11_less : MethodName := ⟨RX11, "less", "(II)I"⟩
abbrev cX11_firstDraft : ByteArray := prog_13_method_6_code
def yX11_firstDraft : MethodName := ⟨RX11, "firstDraft", "()V"⟩
abbrev cX11_keepDraft : ByteArray := prog_13_method_7_code
def yX11_keepDraft : MethodName := ⟨RX11, "keepDraft", "()V"⟩
abbrev cX11_feed : ByteArray := prog_13_method_8_code
def yX11_feed : MethodName := ⟨RX11, "feed", "(J)I"⟩
abbrev cX11_end : ByteArray := prog_13_method_9_code
def yX11_end : MethodName := ⟨RX11, "end", "(I)I"⟩
abbrev cX11_needs : ByteArray := prog_13_method_10_code
def yX11_needs : MethodName := ⟨RX11, "needs", "(ZI)V"⟩
abbrev cX11_look : ByteArray := prog_13_method_11_code
def yX11_look : MethodName := ⟨RX11, "look", "(I)I"⟩
abbrev cX11_starts : ByteArray := prog_13_method_12_code
def yX11_starts : MethodName := ⟨RX11, "starts", "(IIIII)Z"⟩
abbrev cX11_nameNow : ByteArray := prog_13_method_13_code
def yX11_nameNow : MethodName := ⟨RX11, "nameNow", "()I"⟩
abbrev cX11_next : ByteArray := prog_13_method_14_code
def yX11_next : MethodName := ⟨RX11, "next", "()V"⟩
abbrev cX11_readNumber : ByteArray := prog_13_method_15_code
def yX11_readNumber : MethodName := ⟨RX11, "readNumber", "(II)I"⟩
abbrev cX11_kindOf : ByteArray := prog_13_method_16_code
def yX11_kindOf : MethodName := ⟨RX11, "kindOf", "(I)I"⟩
abbrev cX11_readRow : ByteArray := prog_13_method_17_code
def yX11_readRow : MethodName := ⟨RX11, "readRow", "()V"⟩
abbrev cX11_lowest : ByteArray := prog_13_method_18_code
def yX11_lowest : MethodName := ⟨RX11, "lowest", "(I)I"⟩
abbrev cX11_highest : ByteArray := prog_13_method_19_code
def yX11_highest : MethodName := ⟨RX11, "highest", "(I)I"⟩
abbrev cX11_readLine : ByteArray := prog_13_method_20_code
def yX11_readLine : MethodName := ⟨RX11, "readLine", "()V"⟩
abbrev cX11_text : ByteArray := prog_13_method_21_code
def yX11_text : MethodName := ⟨RX11, "text", "()I"⟩
abbrev cX11_fault : ByteArray := prog_13_method_22_code
def yX11_fault : MethodName := ⟨RX11, "fault", "()I"⟩
abbrev cX11_rule : ByteArray := prog_13_method_23_code
def yX11_rule : MethodName := ⟨RX11, "rule", "(I)I"⟩
abbrev cX11_isCell : ByteArray := prog_13_method_24_code
def yX11_isCell : MethodName := ⟨RX11, "isCell", "(I)Z"⟩
abbrev cX11_cell : ByteArray := prog_13_method_25_code
def yX11_cell : MethodName := ⟨RX11, "cell", "(I)I"⟩
abbrev cX11_isThere : ByteArray := prog_13_method_26_code
def yX11_isThere : MethodName := ⟨RX11, "isThere", "(I)Z"⟩
abbrev cX11_inCell : ByteArray := prog_13_method_27_code
def yX11_inCell : MethodName := ⟨RX11, "inCell", "(II)I"⟩
abbrev cX11_isShut : ByteArray := prog_13_method_28_code
def yX11_isShut : MethodName := ⟨RX11, "isShut", "(I)Z"⟩
abbrev cX11_put : ByteArray := prog_13_method_29_code
def yX11_put : MethodName := ⟨RX11, "put", "(II)I"⟩
abbrev cX11_heat : ByteArray := prog_13_method_30_code
def yX11_heat : MethodName := ⟨RX11, "heat", "(I)I"⟩
abbrev cX11_isDrop : ByteArray := prog_13_method_31_code
def yX11_isDrop : MethodName := ⟨RX11, "isDrop", "(III)Z"⟩
abbrev cX11_drop : ByteArray := prog_13_method_32_code
def yX11_drop : MethodName := ⟨RX11, "drop", "(III)I"⟩
abbrev cX11_nextTo : ByteArray := prog_13_method_33_code
def yX11_nextTo : MethodName := ⟨RX11, "nextTo", "(II)I"⟩
abbrev cX11_isWall : ByteArray := prog_13_method_34_code
def yX11_isWall : MethodName := ⟨RX11, "isWall", "(I)Z"⟩
abbrev cX11_draws : ByteArray := prog_13_method_35_code
def yX11_draws : MethodName := ⟨RX11, "draws", "()I"⟩
abbrev cX11_thins : ByteArray := prog_13_method_36_code
def yX11_thins : MethodName := ⟨RX11, "thins", "(II)I"⟩
abbrev cX11_hisses : ByteArray := prog_13_method_37_code
def yX11_hisses : MethodName := ⟨RX11, "hisses", "(II)I"⟩
abbrev cX11_ends : ByteArray := prog_13_method_38_code
def yX11_ends : MethodName := ⟨RX11, "ends", "(II)V"⟩
abbrev cX11_loses : ByteArray := prog_13_method_39_code
def yX11_loses : MethodName := ⟨RX11, "loses", "(II)V"⟩
abbrev cX11_isTooth : ByteArray := prog_13_method_40_code
def yX11_isTooth : MethodName := ⟨RX11, "isTooth", "(II)Z"⟩
abbrev cX11_goesOn : ByteArray := prog_13_method_41_code
def yX11_goesOn : MethodName := ⟨RX11, "goesOn", "(I)V"⟩
abbrev cX11_touches : ByteArray := prog_13_method_42_code
def yX11_touches : MethodName := ⟨RX11, "touches", "(I)Z"⟩
abbrev cX11_acts : ByteArray := prog_13_method_43_code
def yX11_acts : MethodName := ⟨RX11, "acts", "(I)V"⟩
abbrev cX11_thereMany : ByteArray := prog_13_method_44_code
def yX11_thereMany : MethodName := ⟨RX11, "thereMany", "()I"⟩
abbrev cX11_go : ByteArray := prog_13_method_45_code
def yX11_go : MethodName := ⟨RX11, "go", "(I)I"⟩
abbrev cX11_seed : ByteArray := prog_13_method_46_code
def yX11_seed : MethodName := ⟨RX11, "seed", "(I)I"⟩
abbrev cX11_of : ByteArray := prog_13_method_47_code
def yX11_of : MethodName := ⟨RX11, "of", "(II)I"⟩
abbrev cX11_at : ByteArray := prog_13_method_48_code
def yX11_at : MethodName := ⟨RX11, "at", "(I)I"⟩
abbrev cX11_now : ByteArray := prog_13_method_49_code
def yX11_now : MethodName := ⟨RX11, "now", "(I)I"⟩
abbrev cX11_points : ByteArray := prog_13_method_50_code
def yX11_points : MethodName := ⟨RX11, "points", "(I)I"⟩
abbrev cX11_copies : ByteArray := prog_13_method_51_code
def yX11_copies : MethodName := ⟨RX11, "copies", "(II)V"⟩
abbrev cX11_keep : ByteArray := prog_13_method_52_code
def yX11_keep : MethodName := ⟨RX11, "keep", "(I)I"⟩
abbrev cX11_back : ByteArray := prog_13_method_53_code
def yX11_back : MethodName := ⟨RX11, "back", "(I)I"⟩
abbrev cX11_sets : ByteArray := prog_13_method_54_code
def yX11_sets : MethodName := ⟨RX11, "sets", "(III)V"⟩
abbrev cX11_oneEnds : ByteArray := prog_13_method_55_code
def yX11_oneEnds : MethodName := ⟨RX11, "oneEnds", "(II)V"⟩
abbrev cX11_oneGoes : ByteArray := prog_13_method_56_code
def yX11_oneGoes : MethodName := ⟨RX11, "oneGoes", "(I)V"⟩
abbrev cX11_oneActs : ByteArray := prog_13_method_57_code
def yX11_oneActs : MethodName := ⟨RX11, "oneActs", "(I)V"⟩
abbrev cX11_alone : ByteArray := prog_13_method_58_code
def yX11_alone : MethodName := ⟨RX11, "alone", "(IIIII)I"⟩
abbrev cX11_reachOf : ByteArray := prog_13_method_59_code
def yX11_reachOf : MethodName := ⟨RX11, "reachOf", "(IIII)I"⟩
abbrev cX11_reach : ByteArray := prog_13_method_60_code
def yX11_reach : MethodName := ⟨RX11, "reach", "(IIII)I"⟩
abbrev cX11_along : ByteArray := prog_13_method_61_code
def yX11_along : MethodName := ⟨RX11, "along", "(III)I"⟩
abbrev cX11_ring : ByteArray := prog_13_method_62_code
def yX11_ring : MethodName := ⟨RX11, "ring", "(IIII)I"⟩
abbrev cX11_falls : ByteArray := prog_13_method_63_code
def yX11_falls : MethodName := ⟨RX11, "falls", "(III)J"⟩
abbrev cX11_mend : ByteArray := prog_13_method_64_code
def yX11_mend : MethodName := ⟨RX11, "mend", "(IIIII)I"⟩
abbrev cX11_lifeOf : ByteArray := prog_13_method_65_code
def yX11_lifeOf : MethodName := ⟨RX11, "lifeOf", "(IIZ)I"⟩
abbrev cX11_floatsAt : ByteArray := prog_13_method_66_code
def yX11_floatsAt : MethodName := ⟨RX11, "floatsAt", "(IZ)Z"⟩
abbrev cX11_lifeAt : ByteArray := prog_13_method_67_code
def yX11_lifeAt : MethodName := ⟨RX11, "lifeAt", "(IIZ)I"⟩
abbrev cX11_isSize : ByteArray := prog_13_method_68_code
def yX11_isSize : MethodName := ⟨RX11, "isSize", "(I)Z"⟩
abbrev cX11_isHeat : ByteArray := prog_13_method_69_code
def yX11_isHeat : MethodName := ⟨RX11, "isHeat", "(I)Z"⟩
abbrev cX11_life : ByteArray := prog_13_method_70_code
def yX11_life : MethodName := ⟨RX11, "life", "(IIZ)I"⟩
abbrev cX11_hump : ByteArray := prog_13_method_71_code
def yX11_hump : MethodName := ⟨RX11, "hump", "(IZI)I"⟩
abbrev cX11_isLife : ByteArray := prog_13_method_72_code
def yX11_isLife : MethodName := ⟨RX11, "isLife", "(I)Z"⟩
abbrev cX11_hot : ByteArray := prog_13_method_73_code
def yX11_hot : MethodName := ⟨RX11, "hot", "(IIZI)I"⟩
abbrev cX11_spreads : ByteArray := prog_13_method_74_code
def yX11_spreads : MethodName := ⟨RX11, "spreads", "(I)J"⟩
abbrev cX11_told : ByteArray := prog_13_method_75_code
def yX11_told : MethodName := ⟨RX11, "told", "(JJI)J"⟩
abbrev cX11_odds : ByteArray := prog_13_method_76_code
def yX11_odds : MethodName := ⟨RX11, "odds", "(IIII)J"⟩
abbrev cX11_cools : ByteArray := prog_13_method_77_code
def yX11_cools : MethodName := ⟨RX11, "cools", "(III)I"⟩
abbrev cX11_saw : ByteArray := prog_13_method_78_code
def yX11_saw : MethodName := ⟨RX11, "saw", "(IIZI)I"⟩
abbrev cX11_forget : ByteArray := prog_13_method_79_code
def yX11_forget : MethodName := ⟨RX11, "forget", "()I"⟩
abbrev cX11_isRight : ByteArray := prog_13_method_80_code
def yX11_isRight : MethodName := ⟨RX11, "isRight", "(I)Z"⟩
abbrev cX11_right : ByteArray := prog_13_method_81_code
def yX11_right : MethodName := ⟨RX11, "right", "()I"⟩
abbrev cX11_fits : ByteArray := prog_13_method_82_code
def yX11_fits : MethodName := ⟨RX11, "fits", "(I)I"⟩
abbrev cX11_isSheet : ByteArray := prog_13_method_83_code
def yX11_isSheet : MethodName := ⟨RX11, "isSheet", "(II)Z"⟩
abbrev cX11_sheet : ByteArray := prog_13_method_84_code
def yX11_sheet : MethodName := ⟨RX11, "sheet", "(III)I"⟩
abbrev cX11_lay : ByteArray := prog_13_method_85_code
def yX11_lay : MethodName := ⟨RX11, "lay", "(III)I"⟩
abbrev cX11_takesBack : ByteArray := prog_13_method_86_code
def yX11_takesBack : MethodName := ⟨RX11, "takesBack", "(II)V"⟩
abbrev cX11_read : ByteArray := prog_13_method_87_code
def yX11_read : MethodName := ⟨RX11, "read", "(IIII)I"⟩
abbrev cX11_torn : ByteArray := prog_13_method_88_code
def yX11_torn : MethodName := ⟨RX11, "torn", "()I"⟩
abbrev cX11_count : ByteArray := prog_13_method_89_code
def yX11_count : MethodName := ⟨RX11, "count", "(I)I"⟩
def RJx145de : String := "java/io/Serializable"
def TJx145de : u_T := fun k => match k with
  | _ => ("", "", "", false)
def tyJx145de : Nat → FieldType := fun k => match k with
  | _ => .int
abbrev wsJx145de0 : List Cond := u_ws RJx145de TJx145de 0
theorem nmJx145de : ∀ a, a < 0 → ∀ b, b < 0 → a ≠ b → (TJx145de a).2.1 ≠ (TJx145de b).2.1 := by decide +kernel
theorem tyJx145de_ok : ∀ k, k < 0 → parseFieldDescriptor (TJx145de k).2.2.1 = some (tyJx145de k) := by decide +kernel
def RJx9f9b0 : String := "java/lang/CharSequence"
def TJx9f9b0 : u_T := fun k => match k with
  | _ => ("", "", "", false)
def tyJx9f9b0 : Nat → FieldType := fun k => match k with
  | _ => .int
abbrev wsJx9f9b00 : List Cond := u_ws RJx9f9b0 TJx9f9b0 0
theorem nmJx9f9b0 : ∀ a, a < 0 → ∀ b, b < 0 → a ≠ b → (TJx9f9b0 a).2.1 ≠ (TJx9f9b0 b).2.1 := by decide +kernel
theorem tyJx9f9b0_ok : ∀ k, k < 0 → parseFieldDescriptor (TJx9f9b0 k).2.2.1 = some (tyJx9f9b0 k) := by decide +kernel
def RJ11 : String := "java/lang/Character"
def TJ11 : u_T := fun k => match k with
  | _ => ("", "", "", false)
def tyJ11 : Nat → FieldType := fun k => match k with
  | _ => .int
abbrev wsJ110 : List Cond := u_ws RJ11 TJ11 0
theorem nmJ11 : ∀ a, a < 0 → ∀ b, b < 0 → a ≠ b → (TJ11 a).2.1 ≠ (TJ11 b).2.1 := by decide +kernel
theorem tyJ11_ok : ∀ k, k < 0 → parseFieldDescriptor (TJ11 k).2.2.1 = some (tyJ11 k) := by decide +kernel
abbrev cJ11_isValidCodePoint_9a6ad : ByteArray := prog_14_method_11_code
def yJ11_isValidCodePoint_9a6ad : MethodName := ⟨RJ11, "isValidCodePoint", "(I)Z"⟩
abbrev cJ11_highSurrogate_5068e : ByteArray := prog_14_method_28_code
def yJ11_highSurrogate_5068e : MethodName := ⟨RJ11, "highSurrogate", "(I)C"⟩
abbrev cJ11_lowSurrogate_5068e : ByteArray := prog_14_method_29_code
def yJ11_lowSurrogate_5068e : MethodName := ⟨RJ11, "lowSurrogate", "(I)C"⟩
def RJxb160c : String := "java/lang/Comparable"
def TJxb160c : u_T := fun k => match k with
  | _ => ("", "", "", false)
def tyJxb160c : Nat → FieldType := fun k => match k with
  | _ => .int
abbrev wsJxb160c0 : List Cond := u_ws RJxb160c TJxb160c 0
theorem nmJxb160c : ∀ a, a < 0 → ∀ b, b < 0 → a ≠ b → (TJxb160c a).2.1 ≠ (TJxb160c b).2.1 := by decide +kernel
theorem tyJxb160c_ok : ∀ k, k < 0 → parseFieldDescriptor (TJxb160c k).2.2.1 = some (tyJxb160c k) := by decide +kernel
def RJ9 : String := "java/lang/Math"
def TJ9 : u_T := fun k => match k with
  | _ => ("", "", "", false)
def tyJ9 : Nat → FieldType := fun k => match k with
  | _ => .int
abbrev wsJ90 : List Cond := u_ws RJ9 TJ9 0
theorem nmJ9 : ∀ a, a < 0 → ∀ b, b < 0 → a ≠ b → (TJ9 a).2.1 ≠ (TJ9 b).2.1 := by decide +kernel
theorem tyJ9_ok : ∀ k, k < 0 → parseFieldDescriptor (TJ9 k).2.2.1 = some (tyJ9 k) := by decide +kernel
abbrev cJ9_max_7cf53 : ByteArray := prog_15_method_65_code
def yJ9_max_7cf53 : MethodName := ⟨RJ9, "max", "(II)I"⟩
abbrev cJ9_min_7cf53 : ByteArray := prog_15_method_69_code
def yJ9_min_7cf53 : MethodName := ⟨RJ9, "min", "(II)I"⟩
def RJ0 : String := "java/lang/String"
def TJ0 : u_T := fun k => match k with
  | _ => ("", "", "", false)
def tyJ0 : Nat → FieldType := fun k => match k with
  | _ => .int
abbrev wsJ00 : List Cond := u_ws RJ0 TJ0 0
theorem nmJ0 : ∀ a, a < 0 → ∀ b, b < 0 → a ≠ b → (TJ0 a).2.1 ≠ (TJ0 b).2.1 := by decide +kernel
theorem tyJ0_ok : ∀ k, k < 0 → parseFieldDescriptor (TJ0 k).2.2.1 = some (tyJ0 k) := by decide +kernel
abbrev cJ0_length_8abf5 : ByteArray := prog_16_method_54_code
def yJ0_length_8abf5 : MethodName := ⟨RJ0, "length", "()I"⟩
abbrev cJ0_charAt_5068e : ByteArray := prog_16_method_56_code
def yJ0_charAt_5068e : MethodName := ⟨RJ0, "charAt", "(I)C"⟩
abbrev cJ0_indexOf_0f7a4 : ByteArray := prog_16_method_79_code
def yJ0_indexOf_0f7a4 : MethodName := ⟨RJ0, "indexOf", "(I)I"⟩
abbrev cJ0_indexOf_7cf53 : ByteArray := prog_16_method_80_code
def yJ0_indexOf_7cf53 : MethodName := ⟨RJ0, "indexOf", "(II)I"⟩
abbrev cJ0_coder_7d493 : ByteArray := prog_16_method_152_code
def yJ0_coder_7d493 : MethodName := ⟨RJ0, "coder", "()B"⟩
abbrev cJ0_isLatin1_aae02 : ByteArray := prog_16_method_154_code
def yJ0_isLatin1_aae02 : MethodName := ⟨RJ0, "isLatin1", "()Z"⟩
abbrev cJ0_checkIndex_df160 : ByteArray := prog_16_method_155_code
def yJ0_checkIndex_df160 : MethodName := ⟨RJ0, "checkIndex", "(II)V"⟩
abbrev cJ0_checkBoundsBeginEnd_23922 : ByteArray := prog_16_method_158_code
def yJ0_checkBoundsBeginEnd_23922 : MethodName := ⟨RJ0, "checkBoundsBeginEnd", "(III)V"⟩
def RJ1 : String := "java/lang/StringLatin1"
def TJ1 : u_T := fun k => match k with
  | _ => ("", "", "", false)
def tyJ1 : Nat → FieldType := fun k => match k with
  | _ => .int
abbrev wsJ10 : List Cond := u_ws RJ1 TJ1 0
theorem nmJ1 : ∀ a, a < 0 → ∀ b, b < 0 → a ≠ b → (TJ1 a).2.1 ≠ (TJ1 b).2.1 := by decide +kernel
theorem tyJ1_ok : ∀ k, k < 0 → parseFieldDescriptor (TJ1 k).2.2.1 = some (tyJ1 k) := by decide +kernel
abbrev cJ1_charAt_3b067 : ByteArray := prog_17_method_2_code
def yJ1_charAt_3b067 : MethodName := ⟨RJ1, "charAt", "([BI)C"⟩
abbrev cJ1_canEncode_9a6ad : ByteArray := prog_17_method_4_code
def yJ1_canEncode_9a6ad : MethodName := ⟨RJ1, "canEncode", "(I)Z"⟩
abbrev cJ1_indexOf_4cfef : ByteArray := prog_17_method_22_code
def yJ1_indexOf_4cfef : MethodName := ⟨RJ1, "indexOf", "([BIII)I"⟩
abbrev cJ1_indexOfChar_4cfef : ByteArray := prog_17_method_23_code
def yJ1_indexOfChar_4cfef : MethodName := ⟨RJ1, "indexOfChar", "([BIII)I"⟩
def RJ2 : String := "java/lang/StringUTF16"
def TJ2 : u_T := fun k => match k with
  | _ => ("", "", "", false)
def tyJ2 : Nat → FieldType := fun k => match k with
  | _ => .int
abbrev wsJ20 : List Cond := u_ws RJ2 TJ2 0
theorem nmJ2 : ∀ a, a < 0 → ∀ b, b < 0 → a ≠ b → (TJ2 a).2.1 ≠ (TJ2 b).2.1 := by decide +kernel
theorem tyJ2_ok : ∀ k, k < 0 → parseFieldDescriptor (TJ2 k).2.2.1 = some (tyJ2 k) := by decide +kernel
abbrev cJ2_getChar_3b067 : ByteArray := prog_18_method_5_code
def yJ2_getChar_3b067 : MethodName := ⟨RJ2, "getChar", "([BI)C"⟩
abbrev cJ2_length_9d52b : ByteArray := prog_18_method_6_code
def yJ2_length_9d52b : MethodName := ⟨RJ2, "length", "([B)I"⟩
abbrev cJ2_indexOf_4cfef : ByteArray := prog_18_method_40_code
def yJ2_indexOf_4cfef : MethodName := ⟨RJ2, "indexOf", "([BIII)I"⟩
abbrev cJ2_indexOfChar_4cfef : ByteArray := prog_18_method_47_code
def yJ2_indexOfChar_4cfef : MethodName := ⟨RJ2, "indexOfChar", "([BIII)I"⟩
abbrev cJ2_indexOfCharUnsafe_4cfef : ByteArray := prog_18_method_48_code
def yJ2_indexOfCharUnsafe_4cfef : MethodName := ⟨RJ2, "indexOfCharUnsafe", "([BIII)I"⟩
abbrev cJ2_indexOfSupplementary_4cfef : ByteArray := prog_18_method_49_code
def yJ2_indexOfSupplementary_4cfef : MethodName := ⟨RJ2, "indexOfSupplementary", "([BIII)I"⟩
abbrev cJ2_charAt_3b067 : ByteArray := prog_18_method_83_code
def yJ2_charAt_3b067 : MethodName := ⟨RJ2, "charAt", "([BI)C"⟩
abbrev cJ2_checkIndex_2214a : ByteArray := prog_18_method_91_code
def yJ2_checkIndex_2214a : MethodName := ⟨RJ2, "checkIndex", "(I[B)V"⟩
abbrev cJ2_checkBoundsBeginEnd_d044e : ByteArray := prog_18_method_93_code
def yJ2_checkBoundsBeginEnd_d044e : MethodName := ⟨RJ2, "checkBoundsBeginEnd", "(II[B)V"⟩
def RJ10 : String := "java/lang/System"
def TJ10 : u_T := fun k => match k with
  | _ => ("", "", "", false)
def tyJ10 : Nat → FieldType := fun k => match k with
  | _ => .int
abbrev wsJ100 : List Cond := u_ws RJ10 TJ10 0
theorem nmJ10 : ∀ a, a < 0 → ∀ b, b < 0 → a ≠ b → (TJ10 a).2.1 ≠ (TJ10 b).2.1 := by decide +kernel
theorem tyJ10_ok : ∀ k, k < 0 → parseFieldDescriptor (TJ10 k).2.2.1 = some (tyJ10 k) := by decide +kernel
def RJxfd54e : String := "java/lang/constant/Constable"
def TJxfd54e : u_T := fun k => match k with
  | _ => ("", "", "", false)
def tyJxfd54e : Nat → FieldType := fun k => match k with
  | _ => .int
abbrev wsJxfd54e0 : List Cond := u_ws RJxfd54e TJxfd54e 0
theorem nmJxfd54e : ∀ a, a < 0 → ∀ b, b < 0 → a ≠ b → (TJxfd54e a).2.1 ≠ (TJxfd54e b).2.1 := by decide +kernel
theorem tyJxfd54e_ok : ∀ k, k < 0 → parseFieldDescriptor (TJxfd54e k).2.2.1 = some (tyJxfd54e k) := by decide +kernel
def RJx3cf43 : String := "java/lang/constant/ConstantDesc"
def TJx3cf43 : u_T := fun k => match k with
  | _ => ("", "", "", false)
def tyJx3cf43 : Nat → FieldType := fun k => match k with
  | _ => .int
abbrev wsJx3cf430 : List Cond := u_ws RJx3cf43 TJx3cf43 0
theorem nmJx3cf43 : ∀ a, a < 0 → ∀ b, b < 0 → a ≠ b → (TJx3cf43 a).2.1 ≠ (TJx3cf43 b).2.1 := by decide +kernel
theorem tyJx3cf43_ok : ∀ k, k < 0 → parseFieldDescriptor (TJx3cf43 k).2.2.1 = some (tyJx3cf43 k) := by decide +kernel
def RJ7 : String := "java/util/Arrays"
def TJ7 : u_T := fun k => match k with
  | _ => ("", "", "", false)
def tyJ7 : Nat → FieldType := fun k => match k with
  | _ => .int
abbrev wsJ70 : List Cond := u_ws RJ7 TJ7 0
theorem nmJ7 : ∀ a, a < 0 → ∀ b, b < 0 → a ≠ b → (TJ7 a).2.1 ≠ (TJ7 b).2.1 := by decide +kernel
theorem tyJ7_ok : ∀ k, k < 0 → parseFieldDescriptor (TJ7 k).2.2.1 = some (tyJ7 k) := by decide +kernel
abbrev cJ7_fill_d0a16 : ByteArray := prog_20_method_101_code
def yJ7_fill_d0a16 : MethodName := ⟨RJ7, "fill", "([JJ)V"⟩
abbrev cJ7_fill_53178 : ByteArray := prog_20_method_103_code
def yJ7_fill_53178 : MethodName := ⟨RJ7, "fill", "([II)V"⟩
def RJ3 : String := "jdk/internal/util/Preconditions"
def TJ3 : u_T := fun k => match k with
  | _ => ("", "", "", false)
def tyJ3 : Nat → FieldType := fun k => match k with
  | _ => .int
abbrev wsJ30 : List Cond := u_ws RJ3 TJ3 0
theorem nmJ3 : ∀ a, a < 0 → ∀ b, b < 0 → a ≠ b → (TJ3 a).2.1 ≠ (TJ3 b).2.1 := by decide +kernel
theorem tyJ3_ok : ∀ k, k < 0 → parseFieldDescriptor (TJ3 k).2.2.1 = some (tyJ3 k) := by decide +kernel
abbrev cJ3_checkIndex_8e157 : ByteArray := prog_21_method_11_code
def yJ3_checkIndex_8e157 : MethodName := ⟨RJ3, "checkIndex", "(IILjava/util/function/BiFunction;)I"⟩
abbrev cJ3_checkFromToIndex_8c36e : ByteArray := prog_21_method_12_code
def yJ3_checkFromToIndex_8c36e : MethodName := ⟨RJ3, "checkFromToIndex", "(IIILjava/util/function/BiFunction;)I"⟩
def RL : String := "DropsDanceLaw"
abbrev cL_law : ByteArray := code
def yL_law : MethodName := ⟨RL, "law", "([I)Z"⟩
abbrev vwCl : List vw_C := [(RX0, TX0, 6), (RX1, TX1, 2), (RX2, TX2, 9), (RX3, TX3, 4), (RX4, TX4, 2), (RX5, TX5, 1), (RX6, TX6, 11), (RX7, TX7, 3), (RX8, TX8, 12), (RX9, TX9, 5), (RX10, TX10, 13), (RX11, TX11, 29)]
end
section
/-- the words: those of the tables that a callee may be handed -/
def TB : List Cond := lw_tbl.filter goodWord
theorem TB_in {w : Cond} (h : w ∈ TB) : w ∈ lw_tbl := (List.mem_filter.mp h).1
theorem TB_good {y : MethodName} {cc : ByteArray} {n : Nat} {r : Option FieldType} {big : List Cond} (hb : ∀ w ∈ TB, w ∈ big) (hc : Cond.code y cc n r ∈ TB) : GoodIn big (Cond.code y cc n r :: TB) := by
  intro w hw
  have hm : w ∈ TB := by
    rcases List.mem_cons.mp hw with rfl | h
    · exact hc
    · exact h
  exact ⟨hb w hm, good_of_word (List.mem_filter.mp hm).2⟩
theorem tb_in1 {i : Nat} {w : Cond} (h : tables_1_1[i]? = some w) (g : goodWord w = true) : w ∈ TB := List.mem_filter.mpr ⟨List.mem_append_right _ (List.mem_append_left _ (List.mem_of_getElem? h)), g⟩
theorem tb_in2 {i : Nat} {w : Cond} (h : tables_1_2[i]? = some w) (g : goodWord w = true) : w ∈ TB := List.mem_filter.mpr ⟨List.mem_append_right _ (List.mem_append_right _ (List.mem_append_left _ (List.mem_of_getElem? h))), g⟩
theorem tb_in3 {i : Nat} {w : Cond} (h : tables_1_3[i]? = some w) (g : goodWord w = true) : w ∈ TB := List.mem_filter.mpr ⟨List.mem_append_right _ (List.mem_append_right _ (List.mem_append_right _ (List.mem_append_left _ (List.mem_of_getElem? h)))), g⟩
theorem tb_in4 {i : Nat} {w : Cond} (h : tables_1_4[i]? = some w) (g : goodWord w = true) : w ∈ TB := List.mem_filter.mpr ⟨List.mem_append_right _ (List.mem_append_right _ (List.mem_append_right _ (List.mem_append_right _ (List.mem_append_left _ (List.mem_of_getElem? h))))), g⟩
theorem tb_in5 {i : Nat} {w : Cond} (h : tables_1_5[i]? = some w) (g : goodWord w = true) : w ∈ TB := List.mem_filter.mpr ⟨List.mem_append_right _ (List.mem_append_right _ (List.mem_append_right _ (List.mem_append_right _ (List.mem_append_right _ (List.mem_append_left _ (List.mem_of_getElem? h)))))), g⟩
theorem tb_in6 {i : Nat} {w : Cond} (h : tables_1_6[i]? = some w) (g : goodWord w = true) : w ∈ TB := List.mem_filter.mpr ⟨List.mem_append_right _ (List.mem_append_right _ (List.mem_append_right _ (List.mem_append_right _ (List.mem_append_right _ (List.mem_append_right _ (List.mem_append_left _ (List.mem_of_getElem? h))))))), g⟩
theorem tb_in7 {i : Nat} {w : Cond} (h : tables_1_7[i]? = some w) (g : goodWord w = true) : w ∈ TB := List.mem_filter.mpr ⟨List.mem_append_right _ (List.mem_append_right _ (List.mem_append_right _ (List.mem_append_right _ (List.mem_append_right _ (List.mem_append_right _ (List.mem_append_right _ (List.mem_of_getElem? h))))))), g⟩
theorem tb_sel {y : MethodName} {n : Nat} (h : (y, n) ∈ lw_privs) (g : goodWord (Cond.selects y.cls y y) = true) : Cond.selects y.cls y y ∈ TB := List.mem_filter.mpr ⟨List.mem_append_left _ (List.mem_map.mpr ⟨(y, n), h, rfl⟩), g⟩
theorem t_1_0 : Jvm.Cond.initialized "DropsDanceLaw" ∈ TB := tb_in1 (i := 0) rfl rfl
theorem t_1_1 : Jvm.Cond.initialized "DropsDance" ∈ TB := tb_in1 (i := 1) rfl rfl
theorem t_1_2 : Jvm.Cond.initialized "DropsDance$TextReader" ∈ TB := tb_in1 (i := 2) rfl rfl
theorem t_1_3 : Jvm.Cond.initialized "DropsDance$Rules" ∈ TB := tb_in1 (i := 3) rfl rfl
theorem t_1_4 : Jvm.Cond.initialized "java/lang/System" ∈ TB := tb_in1 (i := 4) rfl rfl
theorem t_1_5 : Jvm.Cond.initialized "DropsDance$Scene" ∈ TB := tb_in1 (i := 5) rfl rfl
theorem t_1_6 : Jvm.Cond.initialized "java/util/Arrays" ∈ TB := tb_in1 (i := 6) rfl rfl
theorem t_1_7 : Jvm.Cond.initialized "DropsDance$Drop" ∈ TB := tb_in1 (i := 7) rfl rfl
theorem t_1_8 : Jvm.Cond.initialized "DropsDance$Loner" ∈ TB := tb_in1 (i := 8) rfl rfl
theorem t_1_9 : Jvm.Cond.initialized "DropsDance$Path" ∈ TB := tb_in1 (i := 9) rfl rfl
theorem t_1_10 : Jvm.Cond.initialized "DropsDance$Roller" ∈ TB := tb_in1 (i := 10) rfl rfl
theorem t_1_11 : Jvm.Cond.initialized "DropsDance$ToldLives" ∈ TB := tb_in1 (i := 11) rfl rfl
theorem t_1_12 : Jvm.Cond.initialized "DropsDance$Image" ∈ TB := tb_in1 (i := 12) rfl rfl
theorem t_1_13 : Jvm.Cond.initialized "DropsDance$Sheet" ∈ TB := tb_in1 (i := 13) rfl rfl
theorem t_1_14 : Jvm.Cond.initialized "DropsDanceModel" ∈ TB := tb_in1 (i := 14) rfl rfl
theorem t_1_15 : Jvm.Cond.initialized "java/lang/Math" ∈ TB := tb_in1 (i := 15) rfl rfl
theorem t_1_16 : Jvm.Cond.initialized "java/lang/String" ∈ TB := tb_in1 (i := 16) rfl rfl
theorem t_1_17 : Jvm.Cond.initialized "java/lang/StringLatin1" ∈ TB := tb_in1 (i := 17) rfl rfl
theorem t_1_18 : Jvm.Cond.initialized "jdk/internal/util/Preconditions" ∈ TB := tb_in1 (i := 18) rfl rfl
theorem t_1_19 : Jvm.Cond.initialized "java/lang/StringUTF16" ∈ TB := tb_in1 (i := 19) rfl rfl
theorem t_1_20 : Jvm.Cond.initialized "java/lang/Character" ∈ TB := tb_in1 (i := 20) rfl rfl
theorem t_1_21 : Jvm.Cond.classLink "DropsDanceLaw" (7 : Nat) "DropsDance" ∈ TB := tb_in1 (i := 21) rfl rfl
theorem t_1_22 : Jvm.Cond.instantiable "DropsDance" (13 : Nat) ∈ TB := tb_in1 (i := 22) rfl rfl
theorem t_1_23 : Jvm.Cond.methodLink "DropsDanceLaw" (9 : Nat) ({ cls := "DropsDance", name := "<init>", desc := "()V" } : Jvm.MethodName) ∈ TB := tb_in1 (i := 23) rfl rfl
theorem t_1_24 : Jvm.Cond.instanceMethod ({ cls := "DropsDance", name := "<init>", desc := "()V" } : Jvm.MethodName) ∈ TB := tb_in1 (i := 24) rfl rfl
theorem t_1_25 : Jvm.Cond.code ({ cls := "DropsDance", name := "<init>", desc := "()V" } : Jvm.MethodName) prog_1_method_1_code (2 : Nat) (Option.none : Option Jvm.ClassFile.FieldType) ∈ TB := tb_in1 (i := 25) rfl rfl
theorem t_1_26 : Jvm.Cond.methodLink "DropsDance" (1 : Nat) ({ cls := "java/lang/Object", name := "<init>", desc := "()V" } : Jvm.MethodName) ∈ TB := tb_in1 (i := 26) rfl rfl
theorem t_1_27 : Jvm.Cond.instanceMethod ({ cls := "java/lang/Object", name := "<init>", desc := "()V" } : Jvm.MethodName) ∈ TB := tb_in1 (i := 27) rfl rfl
theorem t_1_28 : Jvm.Cond.code ({ cls := "java/lang/Object", name := "<init>", desc := "()V" } : Jvm.MethodName) object_method_1_code (1 : Nat) (Option.none : Option Jvm.ClassFile.FieldType) ∈ TB := tb_in1 (i := 28) rfl rfl
theorem t_1_29 : Jvm.Cond.classLink "DropsDance" (17 : Nat) "DropsDance$TextReader" ∈ TB := tb_in1 (i := 29) rfl rfl
theorem t_1_30 : Jvm.Cond.instantiable "DropsDance$TextReader" (12 : Nat) ∈ TB := tb_in1 (i := 30) rfl rfl
theorem t_1_31 : Jvm.Cond.methodLink "DropsDance" (19 : Nat) ({ cls := "DropsDance$TextReader", name := "<init>", desc := "([B)V" } : Jvm.MethodName) ∈ TB := tb_in1 (i := 31) rfl rfl
theorem t_1_32 : Jvm.Cond.instanceMethod ({ cls := "DropsDance$TextReader", name := "<init>", desc := "([B)V" } : Jvm.MethodName) ∈ TB := tb_in1 (i := 32) rfl rfl
theorem t_1_33 : Jvm.Cond.code ({ cls := "DropsDance$TextReader", name := "<init>", desc := "([B)V" } : Jvm.MethodName) prog_10_method_1_code (2 : Nat) (Option.none : Option Jvm.ClassFile.FieldType) ∈ TB := tb_in1 (i := 33) rfl rfl
theorem t_1_34 : Jvm.Cond.methodLink "DropsDance$TextReader" (3 : Nat) ({ cls := "java/lang/Object", name := "<init>", desc := "()V" } : Jvm.MethodName) ∈ TB := tb_in1 (i := 34) rfl rfl
theorem t_1_35 : Jvm.Cond.classLink "DropsDance$TextReader" (9 : Nat) "DropsDance$Rules" ∈ TB := tb_in1 (i := 35) rfl rfl
theorem t_1_36 : Jvm.Cond.instantiable "DropsDance$Rules" (1 : Nat) ∈ TB := tb_in1 (i := 36) rfl rfl
theorem t_1_37 : Jvm.Cond.methodLink "DropsDance$TextReader" (11 : Nat) ({ cls := "DropsDance$Rules", name := "<init>", desc := "()V" } : Jvm.MethodName) ∈ TB := tb_in1 (i := 37) rfl rfl
theorem t_1_38 : Jvm.Cond.instanceMethod ({ cls := "DropsDance$Rules", name := "<init>", desc := "()V" } : Jvm.MethodName) ∈ TB := tb_in1 (i := 38) rfl rfl
theorem t_1_39 : Jvm.Cond.code ({ cls := "DropsDance$Rules", name := "<init>", desc := "()V" } : Jvm.MethodName) prog_7_method_1_code (1 : Nat) (Option.none : Option Jvm.ClassFile.FieldType) ∈ TB := tb_in1 (i := 39) rfl rfl
theorem t_1_40 : Jvm.Cond.methodLink "DropsDance$Rules" (3 : Nat) ({ cls := "java/lang/Object", name := "<init>", desc := "()V" } : Jvm.MethodName) ∈ TB := tb_in1 (i := 40) rfl rfl
theorem t_1_41 : Jvm.Cond.methodLink "DropsDance$Rules" (15 : Nat) ({ cls := "DropsDance$Rules", name := "beginAnew", desc := "()V" } : Jvm.MethodName) ∈ TB := tb_in1 (i := 41) rfl rfl
theorem t_1_42 : Jvm.Cond.instanceMethod ({ cls := "DropsDance$Rules", name := "beginAnew", desc := "()V" } : Jvm.MethodName) ∈ TB := tb_in1 (i := 42) rfl rfl
theorem t_1_43 : Jvm.Cond.selects "DropsDance$Rules" ({ cls := "DropsDance$Rules", name := "beginAnew", desc := "()V" } : Jvm.MethodName) ({ cls := "DropsDance$Rules", name := "beginAnew", desc := "()V" } : Jvm.MethodName) ∈ TB := tb_in1 (i := 43) rfl rfl
theorem t_1_44 : Jvm.Cond.code ({ cls := "DropsDance$Rules", name := "beginAnew", desc := "()V" } : Jvm.MethodName) prog_7_method_2_code (1 : Nat) (Option.none : Option Jvm.ClassFile.FieldType) ∈ TB := tb_in1 (i := 44) rfl rfl
theorem t_1_47 : Jvm.Cond.methodLink "DropsDance$Rules" (21 : Nat) ({ cls := "java/lang/System", name := "arraycopy", desc := "(Ljava/lang/Object;ILjava/lang/Object;II)V" } : Jvm.MethodName) ∈ TB := tb_in1 (i := 47) rfl rfl
theorem t_1_48 : Jvm.Cond.static ({ cls := "java/lang/System", name := "arraycopy", desc := "(Ljava/lang/Object;ILjava/lang/Object;II)V" } : Jvm.MethodName) ∈ TB := tb_in1 (i := 48) rfl rfl
theorem t_1_49 : Jvm.Cond.native ({ cls := "java/lang/System", name := "arraycopy", desc := "(Ljava/lang/Object;ILjava/lang/Object;II)V" } : Jvm.MethodName) ∈ TB := tb_in1 (i := 49) rfl rfl
theorem t_1_50 : Jvm.Cond.fieldLink "DropsDance$Rules" (9 : Nat) "DropsDance$Rules" "values" "[I" ∈ TB := tb_in1 (i := 50) rfl rfl
theorem t_1_51 : Jvm.Cond.laysFinal "DropsDance$Rules" "DropsDance$Rules" "values" "[I" ∈ TB := tb_in1 (i := 51) rfl rfl
theorem t_1_54 : Jvm.Cond.arrayClass Jvm.ClassFile.FieldType.byte ∈ TB := tb_in1 (i := 54) rfl rfl
theorem t_1_55 : Jvm.Cond.arrayClass Jvm.ClassFile.FieldType.int ∈ TB := tb_in1 (i := 55) rfl rfl
theorem t_1_56 : Jvm.Cond.fieldLink "DropsDance$TextReader" (12 : Nat) "DropsDance$TextReader" "rules" "LDropsDance$Rules;" ∈ TB := tb_in1 (i := 56) rfl rfl
theorem t_1_57 : Jvm.Cond.fieldLink "DropsDance" (102 : Nat) "DropsDance$TextReader" "rules" "LDropsDance$Rules;" ∈ TB := tb_in1 (i := 57) rfl rfl
theorem t_1_58 : Jvm.Cond.fieldLink "DropsDance$TextReader" (18 : Nat) "DropsDance$TextReader" "cells" "[I" ∈ TB := tb_in1 (i := 58) rfl rfl
theorem t_1_59 : Jvm.Cond.fieldLink "DropsDance" (107 : Nat) "DropsDance$TextReader" "cells" "[I" ∈ TB := tb_in1 (i := 59) rfl rfl
theorem t_1_60 : Jvm.Cond.fieldLink "DropsDance$TextReader" (22 : Nat) "DropsDance$TextReader" "ruleTold" "[Z" ∈ TB := tb_in1 (i := 60) rfl rfl
theorem t_1_61 : Jvm.Cond.fieldLink "DropsDance$TextReader" (51 : Nat) "DropsDance$TextReader" "bytes" "[B" ∈ TB := tb_in1 (i := 61) rfl rfl
theorem t_1_62 : Jvm.Cond.fieldLink "DropsDance$TextReader" (26 : Nat) "DropsDance$TextReader" "length" "I" ∈ TB := tb_in1 (i := 62) rfl rfl
theorem t_1_63 : Jvm.Cond.fieldLink "DropsDance$TextReader" (30 : Nat) "DropsDance$TextReader" "next" "I" ∈ TB := tb_in1 (i := 63) rfl rfl
theorem t_1_64 : Jvm.Cond.fieldLink "DropsDance$TextReader" (33 : Nat) "DropsDance$TextReader" "rows" "I" ∈ TB := tb_in1 (i := 64) rfl rfl
theorem t_1_65 : Jvm.Cond.fieldLink "DropsDance$TextReader" (36 : Nat) "DropsDance$TextReader" "kind" "I" ∈ TB := tb_in1 (i := 65) rfl rfl
theorem t_1_66 : Jvm.Cond.fieldLink "DropsDance$TextReader" (39 : Nat) "DropsDance$TextReader" "start" "I" ∈ TB := tb_in1 (i := 66) rfl rfl
theorem t_1_67 : Jvm.Cond.fieldLink "DropsDance$TextReader" (42 : Nat) "DropsDance$TextReader" "lines" "I" ∈ TB := tb_in1 (i := 67) rfl rfl
theorem t_1_68 : Jvm.Cond.fieldLink "DropsDance" (122 : Nat) "DropsDance$TextReader" "lines" "I" ∈ TB := tb_in1 (i := 68) rfl rfl
theorem t_1_69 : Jvm.Cond.fieldLink "DropsDance$TextReader" (45 : Nat) "DropsDance$TextReader" "fault" "I" ∈ TB := tb_in1 (i := 69) rfl rfl
theorem t_1_70 : Jvm.Cond.fieldLink "DropsDance" (96 : Nat) "DropsDance$TextReader" "fault" "I" ∈ TB := tb_in1 (i := 70) rfl rfl
theorem t_1_71 : Jvm.Cond.fieldLink "DropsDance$TextReader" (48 : Nat) "DropsDance$TextReader" "place" "I" ∈ TB := tb_in1 (i := 71) rfl rfl
theorem t_1_72 : Jvm.Cond.fieldLink "DropsDance" (99 : Nat) "DropsDance$TextReader" "place" "I" ∈ TB := tb_in1 (i := 72) rfl rfl
theorem t_1_73 : Jvm.Cond.laysFinal "DropsDance$TextReader" "DropsDance$TextReader" "rules" "LDropsDance$Rules;" ∈ TB := tb_in1 (i := 73) rfl rfl
theorem t_1_75 : Jvm.Cond.laysFinal "DropsDance$TextReader" "DropsDance$TextReader" "cells" "[I" ∈ TB := tb_in1 (i := 75) rfl rfl
theorem t_1_77 : Jvm.Cond.laysFinal "DropsDance$TextReader" "DropsDance$TextReader" "ruleTold" "[Z" ∈ TB := tb_in1 (i := 77) rfl rfl
theorem t_1_79 : Jvm.Cond.laysFinal "DropsDance$TextReader" "DropsDance$TextReader" "bytes" "[B" ∈ TB := tb_in1 (i := 79) rfl rfl
theorem t_1_81 : Jvm.Cond.lays "DropsDance$TextReader" "DropsDance$TextReader" "length" "I" ∈ TB := tb_in1 (i := 81) rfl rfl
theorem t_1_83 : Jvm.Cond.lays "DropsDance$TextReader" "DropsDance$TextReader" "next" "I" ∈ TB := tb_in1 (i := 83) rfl rfl
theorem t_1_85 : Jvm.Cond.lays "DropsDance$TextReader" "DropsDance$TextReader" "rows" "I" ∈ TB := tb_in1 (i := 85) rfl rfl
theorem t_1_87 : Jvm.Cond.lays "DropsDance$TextReader" "DropsDance$TextReader" "kind" "I" ∈ TB := tb_in1 (i := 87) rfl rfl
theorem t_1_89 : Jvm.Cond.lays "DropsDance$TextReader" "DropsDance$TextReader" "start" "I" ∈ TB := tb_in1 (i := 89) rfl rfl
theorem t_1_91 : Jvm.Cond.lays "DropsDance$TextReader" "DropsDance$TextReader" "lines" "I" ∈ TB := tb_in1 (i := 91) rfl rfl
theorem t_1_93 : Jvm.Cond.lays "DropsDance$TextReader" "DropsDance$TextReader" "fault" "I" ∈ TB := tb_in1 (i := 93) rfl rfl
theorem t_1_95 : Jvm.Cond.lays "DropsDance$TextReader" "DropsDance$TextReader" "place" "I" ∈ TB := tb_in1 (i := 95) rfl rfl
theorem t_1_98 : Jvm.Cond.arrayClass Jvm.ClassFile.FieldType.boolean ∈ TB := tb_in1 (i := 98) rfl rfl
theorem t_1_99 : Jvm.Cond.classLink "DropsDance" (29 : Nat) "DropsDance$Rules" ∈ TB := tb_in1 (i := 99) rfl rfl
theorem t_1_100 : Jvm.Cond.methodLink "DropsDance" (31 : Nat) ({ cls := "DropsDance$Rules", name := "<init>", desc := "()V" } : Jvm.MethodName) ∈ TB := tb_in1 (i := 100) rfl rfl
theorem t_1_101 : Jvm.Cond.classLink "DropsDance" (36 : Nat) "DropsDance$Scene" ∈ TB := tb_in1 (i := 101) rfl rfl
theorem t_1_102 : Jvm.Cond.instantiable "DropsDance$Scene" (11 : Nat) ∈ TB := tb_in1 (i := 102) rfl rfl
theorem t_1_103 : Jvm.Cond.methodLink "DropsDance" (38 : Nat) ({ cls := "DropsDance$Scene", name := "<init>", desc := "()V" } : Jvm.MethodName) ∈ TB := tb_in1 (i := 103) rfl rfl
theorem t_1_104 : Jvm.Cond.instanceMethod ({ cls := "DropsDance$Scene", name := "<init>", desc := "()V" } : Jvm.MethodName) ∈ TB := tb_in1 (i := 104) rfl rfl
theorem t_1_105 : Jvm.Cond.code ({ cls := "DropsDance$Scene", name := "<init>", desc := "()V" } : Jvm.MethodName) prog_8_method_1_code (2 : Nat) (Option.none : Option Jvm.ClassFile.FieldType) ∈ TB := tb_in1 (i := 105) rfl rfl
theorem t_1_106 : Jvm.Cond.methodLink "DropsDance$Scene" (3 : Nat) ({ cls := "java/lang/Object", name := "<init>", desc := "()V" } : Jvm.MethodName) ∈ TB := tb_in1 (i := 106) rfl rfl
theorem t_1_107 : Jvm.Cond.classLink "DropsDance$Scene" (15 : Nat) "DropsDance$Drop" ∈ TB := tb_in1 (i := 107) rfl rfl
theorem t_1_109 : Jvm.Cond.methodLink "DropsDance$Scene" (50 : Nat) ({ cls := "java/util/Arrays", name := "fill", desc := "([II)V" } : Jvm.MethodName) ∈ TB := tb_in1 (i := 109) rfl rfl
theorem t_1_110 : Jvm.Cond.static ({ cls := "java/util/Arrays", name := "fill", desc := "([II)V" } : Jvm.MethodName) ∈ TB := tb_in1 (i := 110) rfl rfl
theorem t_1_111 : Jvm.Cond.code ({ cls := "java/util/Arrays", name := "fill", desc := "([II)V" } : Jvm.MethodName) prog_20_method_103_code (4 : Nat) (Option.none : Option Jvm.ClassFile.FieldType) ∈ TB := tb_in1 (i := 111) rfl rfl
theorem t_1_112 : Jvm.Cond.instantiable "DropsDance$Drop" (6 : Nat) ∈ TB := tb_in1 (i := 112) rfl rfl
theorem t_1_114 : Jvm.Cond.instanceMethod ({ cls := "DropsDance$Drop", name := "<init>", desc := "()V" } : Jvm.MethodName) ∈ TB := tb_in1 (i := 114) rfl rfl
theorem t_1_115 : Jvm.Cond.code ({ cls := "DropsDance$Drop", name := "<init>", desc := "()V" } : Jvm.MethodName) prog_2_method_1_code (1 : Nat) (Option.none : Option Jvm.ClassFile.FieldType) ∈ TB := tb_in1 (i := 115) rfl rfl
theorem t_1_116 : Jvm.Cond.methodLink "DropsDance$Drop" (3 : Nat) ({ cls := "java/lang/Object", name := "<init>", desc := "()V" } : Jvm.MethodName) ∈ TB := tb_in1 (i := 116) rfl rfl
theorem t_1_117 : Jvm.Cond.fieldLink "DropsDance$Drop" (9 : Nat) "DropsDance$Drop" "cell" "I" ∈ TB := tb_in1 (i := 117) rfl rfl
theorem t_1_118 : Jvm.Cond.fieldLink "DropsDance$Path" (39 : Nat) "DropsDance$Drop" "cell" "I" ∈ TB := tb_in1 (i := 118) rfl rfl
theorem t_1_119 : Jvm.Cond.fieldLink "DropsDance$Loner" (56 : Nat) "DropsDance$Drop" "cell" "I" ∈ TB := tb_in1 (i := 119) rfl rfl
theorem t_1_120 : Jvm.Cond.fieldLink "DropsDance$Scene" (91 : Nat) "DropsDance$Drop" "cell" "I" ∈ TB := tb_in1 (i := 120) rfl rfl
theorem t_1_121 : Jvm.Cond.fieldLink "DropsDance" (175 : Nat) "DropsDance$Drop" "cell" "I" ∈ TB := tb_in1 (i := 121) rfl rfl
theorem t_1_122 : Jvm.Cond.fieldLink "DropsDance$Drop" (15 : Nat) "DropsDance$Drop" "size" "I" ∈ TB := tb_in1 (i := 122) rfl rfl
theorem t_1_123 : Jvm.Cond.fieldLink "DropsDance$Scene" (94 : Nat) "DropsDance$Drop" "size" "I" ∈ TB := tb_in1 (i := 123) rfl rfl
theorem t_1_124 : Jvm.Cond.fieldLink "DropsDance" (180 : Nat) "DropsDance$Drop" "size" "I" ∈ TB := tb_in1 (i := 124) rfl rfl
theorem t_1_125 : Jvm.Cond.fieldLink "DropsDance$Drop" (18 : Nat) "DropsDance$Drop" "way" "I" ∈ TB := tb_in1 (i := 125) rfl rfl
theorem t_1_126 : Jvm.Cond.fieldLink "DropsDance$Path" (42 : Nat) "DropsDance$Drop" "way" "I" ∈ TB := tb_in1 (i := 126) rfl rfl
theorem t_1_127 : Jvm.Cond.fieldLink "DropsDance" (183 : Nat) "DropsDance$Drop" "way" "I" ∈ TB := tb_in1 (i := 127) rfl rfl
theorem t_1_128 : Jvm.Cond.fieldLink "DropsDance$Scene" (146 : Nat) "DropsDance$Drop" "way" "I" ∈ TB := tb_in1 (i := 128) rfl rfl
theorem t_1_129 : Jvm.Cond.fieldLink "DropsDance$Drop" (21 : Nat) "DropsDance$Drop" "gone" "I" ∈ TB := tb_in1 (i := 129) rfl rfl
theorem t_1_130 : Jvm.Cond.fieldLink "DropsDance$Loner" (65 : Nat) "DropsDance$Drop" "gone" "I" ∈ TB := tb_in1 (i := 130) rfl rfl
theorem t_1_131 : Jvm.Cond.fieldLink "DropsDance$Scene" (88 : Nat) "DropsDance$Drop" "gone" "I" ∈ TB := tb_in1 (i := 131) rfl rfl
theorem t_1_132 : Jvm.Cond.fieldLink "DropsDance" (186 : Nat) "DropsDance$Drop" "gone" "I" ∈ TB := tb_in1 (i := 132) rfl rfl
theorem t_1_133 : Jvm.Cond.fieldLink "DropsDance$Drop" (24 : Nat) "DropsDance$Drop" "goneTick" "I" ∈ TB := tb_in1 (i := 133) rfl rfl
theorem t_1_134 : Jvm.Cond.fieldLink "DropsDance" (189 : Nat) "DropsDance$Drop" "goneTick" "I" ∈ TB := tb_in1 (i := 134) rfl rfl
theorem t_1_135 : Jvm.Cond.fieldLink "DropsDance$Scene" (117 : Nat) "DropsDance$Drop" "goneTick" "I" ∈ TB := tb_in1 (i := 135) rfl rfl
theorem t_1_136 : Jvm.Cond.fieldLink "DropsDance$Drop" (27 : Nat) "DropsDance$Drop" "joinedTo" "I" ∈ TB := tb_in1 (i := 136) rfl rfl
theorem t_1_137 : Jvm.Cond.fieldLink "DropsDance" (192 : Nat) "DropsDance$Drop" "joinedTo" "I" ∈ TB := tb_in1 (i := 137) rfl rfl
theorem t_1_138 : Jvm.Cond.fieldLink "DropsDance$Scene" (140 : Nat) "DropsDance$Drop" "joinedTo" "I" ∈ TB := tb_in1 (i := 138) rfl rfl
theorem t_1_139 : Jvm.Cond.lays "DropsDance$Drop" "DropsDance$Drop" "cell" "I" ∈ TB := tb_in1 (i := 139) rfl rfl
theorem t_1_141 : Jvm.Cond.lays "DropsDance$Drop" "DropsDance$Drop" "size" "I" ∈ TB := tb_in1 (i := 141) rfl rfl
theorem t_1_143 : Jvm.Cond.lays "DropsDance$Drop" "DropsDance$Drop" "way" "I" ∈ TB := tb_in1 (i := 143) rfl rfl
theorem t_1_145 : Jvm.Cond.lays "DropsDance$Drop" "DropsDance$Drop" "gone" "I" ∈ TB := tb_in1 (i := 145) rfl rfl
theorem t_1_147 : Jvm.Cond.lays "DropsDance$Drop" "DropsDance$Drop" "goneTick" "I" ∈ TB := tb_in1 (i := 147) rfl rfl
theorem t_1_149 : Jvm.Cond.lays "DropsDance$Drop" "DropsDance$Drop" "joinedTo" "I" ∈ TB := tb_in1 (i := 149) rfl rfl
theorem t_1_152 : Jvm.Cond.fieldLink "DropsDance$Scene" (9 : Nat) "DropsDance$Scene" "cells" "[I" ∈ TB := tb_in1 (i := 152) rfl rfl
theorem t_1_153 : Jvm.Cond.fieldLink "DropsDance$Loner" (84 : Nat) "DropsDance$Scene" "cells" "[I" ∈ TB := tb_in1 (i := 153) rfl rfl
theorem t_1_154 : Jvm.Cond.fieldLink "DropsDance" (139 : Nat) "DropsDance$Scene" "cells" "[I" ∈ TB := tb_in1 (i := 154) rfl rfl
theorem t_1_155 : Jvm.Cond.fieldLink "DropsDance$Scene" (17 : Nat) "DropsDance$Scene" "drops" "[LDropsDance$Drop;" ∈ TB := tb_in1 (i := 155) rfl rfl
theorem t_1_156 : Jvm.Cond.fieldLink "DropsDance$Loner" (52 : Nat) "DropsDance$Scene" "drops" "[LDropsDance$Drop;" ∈ TB := tb_in1 (i := 156) rfl rfl
theorem t_1_157 : Jvm.Cond.fieldLink "DropsDance" (171 : Nat) "DropsDance$Scene" "drops" "[LDropsDance$Drop;" ∈ TB := tb_in1 (i := 157) rfl rfl
theorem t_1_158 : Jvm.Cond.fieldLink "DropsDance$Scene" (21 : Nat) "DropsDance$Scene" "many" "I" ∈ TB := tb_in1 (i := 158) rfl rfl
theorem t_1_159 : Jvm.Cond.fieldLink "DropsDance" (341 : Nat) "DropsDance$Scene" "many" "I" ∈ TB := tb_in1 (i := 159) rfl rfl
theorem t_1_160 : Jvm.Cond.fieldLink "DropsDance$Scene" (25 : Nat) "DropsDance$Scene" "heat" "I" ∈ TB := tb_in1 (i := 160) rfl rfl
theorem t_1_161 : Jvm.Cond.fieldLink "DropsDance" (143 : Nat) "DropsDance$Scene" "heat" "I" ∈ TB := tb_in1 (i := 161) rfl rfl
theorem t_1_162 : Jvm.Cond.fieldLink "DropsDance$Scene" (28 : Nat) "DropsDance$Scene" "tick" "I" ∈ TB := tb_in1 (i := 162) rfl rfl
theorem t_1_163 : Jvm.Cond.fieldLink "DropsDance" (195 : Nat) "DropsDance$Scene" "tick" "I" ∈ TB := tb_in1 (i := 163) rfl rfl
theorem t_1_164 : Jvm.Cond.fieldLink "DropsDance$Scene" (31 : Nat) "DropsDance$Scene" "seed" "I" ∈ TB := tb_in1 (i := 164) rfl rfl
theorem t_1_165 : Jvm.Cond.fieldLink "DropsDance" (165 : Nat) "DropsDance$Scene" "seed" "I" ∈ TB := tb_in1 (i := 165) rfl rfl
theorem t_1_166 : Jvm.Cond.fieldLink "DropsDance$Scene" (34 : Nat) "DropsDance$Scene" "floating" "Z" ∈ TB := tb_in1 (i := 166) rfl rfl
theorem t_1_167 : Jvm.Cond.fieldLink "DropsDance" (146 : Nat) "DropsDance$Scene" "floating" "Z" ∈ TB := tb_in1 (i := 167) rfl rfl
theorem t_1_168 : Jvm.Cond.fieldLink "DropsDance$Scene" (38 : Nat) "DropsDance$Scene" "steam" "I" ∈ TB := tb_in1 (i := 168) rfl rfl
theorem t_1_169 : Jvm.Cond.fieldLink "DropsDance" (201 : Nat) "DropsDance$Scene" "steam" "I" ∈ TB := tb_in1 (i := 169) rfl rfl
theorem t_1_170 : Jvm.Cond.fieldLink "DropsDance$Scene" (41 : Nat) "DropsDance$Scene" "fallen" "I" ∈ TB := tb_in1 (i := 170) rfl rfl
theorem t_1_171 : Jvm.Cond.fieldLink "DropsDance" (204 : Nat) "DropsDance$Scene" "fallen" "I" ∈ TB := tb_in1 (i := 171) rfl rfl
theorem t_1_172 : Jvm.Cond.fieldLink "DropsDance$Scene" (44 : Nat) "DropsDance$Scene" "leapt" "I" ∈ TB := tb_in1 (i := 172) rfl rfl
theorem t_1_173 : Jvm.Cond.fieldLink "DropsDance" (207 : Nat) "DropsDance$Scene" "leapt" "I" ∈ TB := tb_in1 (i := 173) rfl rfl
theorem t_1_174 : Jvm.Cond.fieldLink "DropsDance$Scene" (47 : Nat) "DropsDance$Scene" "poured" "I" ∈ TB := tb_in1 (i := 174) rfl rfl
theorem t_1_175 : Jvm.Cond.fieldLink "DropsDance" (210 : Nat) "DropsDance$Scene" "poured" "I" ∈ TB := tb_in1 (i := 175) rfl rfl
theorem t_1_176 : Jvm.Cond.laysFinal "DropsDance$Scene" "DropsDance$Scene" "cells" "[I" ∈ TB := tb_in1 (i := 176) rfl rfl
theorem t_1_178 : Jvm.Cond.laysFinal "DropsDance$Scene" "DropsDance$Scene" "drops" "[LDropsDance$Drop;" ∈ TB := tb_in1 (i := 178) rfl rfl
theorem t_1_180 : Jvm.Cond.lays "DropsDance$Scene" "DropsDance$Scene" "many" "I" ∈ TB := tb_in1 (i := 180) rfl rfl
theorem t_1_182 : Jvm.Cond.lays "DropsDance$Scene" "DropsDance$Scene" "heat" "I" ∈ TB := tb_in1 (i := 182) rfl rfl
theorem t_1_184 : Jvm.Cond.lays "DropsDance$Scene" "DropsDance$Scene" "tick" "I" ∈ TB := tb_in1 (i := 184) rfl rfl
theorem t_1_186 : Jvm.Cond.lays "DropsDance$Scene" "DropsDance$Scene" "seed" "I" ∈ TB := tb_in1 (i := 186) rfl rfl
theorem t_1_188 : Jvm.Cond.lays "DropsDance$Scene" "DropsDance$Scene" "floating" "Z" ∈ TB := tb_in1 (i := 188) rfl rfl
theorem t_1_190 : Jvm.Cond.lays "DropsDance$Scene" "DropsDance$Scene" "steam" "I" ∈ TB := tb_in1 (i := 190) rfl rfl
theorem t_1_192 : Jvm.Cond.lays "DropsDance$Scene" "DropsDance$Scene" "fallen" "I" ∈ TB := tb_in1 (i := 192) rfl rfl
theorem t_1_194 : Jvm.Cond.lays "DropsDance$Scene" "DropsDance$Scene" "leapt" "I" ∈ TB := tb_in1 (i := 194) rfl rfl
theorem t_1_196 : Jvm.Cond.lays "DropsDance$Scene" "DropsDance$Scene" "poured" "I" ∈ TB := tb_in1 (i := 196) rfl rfl
theorem t_1_199 : Jvm.Cond.classLink "DropsDance" (43 : Nat) "DropsDance$Image" ∈ TB := tb_in1 (i := 199) rfl rfl
theorem t_1_201 : Jvm.Cond.classLink "DropsDance" (49 : Nat) "DropsDance$Loner" ∈ TB := tb_in1 (i := 201) rfl rfl
theorem t_1_202 : Jvm.Cond.instantiable "DropsDance$Loner" (9 : Nat) ∈ TB := tb_in1 (i := 202) rfl rfl
theorem t_1_204 : Jvm.Cond.instanceMethod ({ cls := "DropsDance$Loner", name := "<init>", desc := "()V" } : Jvm.MethodName) ∈ TB := tb_in1 (i := 204) rfl rfl
theorem t_1_205 : Jvm.Cond.code ({ cls := "DropsDance$Loner", name := "<init>", desc := "()V" } : Jvm.MethodName) prog_4_method_1_code (1 : Nat) (Option.none : Option Jvm.ClassFile.FieldType) ∈ TB := tb_in1 (i := 205) rfl rfl
theorem t_1_206 : Jvm.Cond.methodLink "DropsDance$Loner" (3 : Nat) ({ cls := "java/lang/Object", name := "<init>", desc := "()V" } : Jvm.MethodName) ∈ TB := tb_in1 (i := 206) rfl rfl
theorem t_1_207 : Jvm.Cond.classLink "DropsDance$Loner" (9 : Nat) "DropsDance$Scene" ∈ TB := tb_in1 (i := 207) rfl rfl
theorem t_1_208 : Jvm.Cond.methodLink "DropsDance$Loner" (11 : Nat) ({ cls := "DropsDance$Scene", name := "<init>", desc := "()V" } : Jvm.MethodName) ∈ TB := tb_in1 (i := 208) rfl rfl
theorem t_1_209 : Jvm.Cond.fieldLink "DropsDance$Loner" (12 : Nat) "DropsDance$Loner" "own" "LDropsDance$Scene;" ∈ TB := tb_in1 (i := 209) rfl rfl
theorem t_1_210 : Jvm.Cond.fieldLink "DropsDance$Loner" (18 : Nat) "DropsDance$Loner" "been" "[I" ∈ TB := tb_in1 (i := 210) rfl rfl
theorem t_1_211 : Jvm.Cond.fieldLink "DropsDance$Loner" (22 : Nat) "DropsDance$Loner" "worthTrying" "[I" ∈ TB := tb_in1 (i := 211) rfl rfl
theorem t_1_212 : Jvm.Cond.fieldLink "DropsDance$Loner" (25 : Nat) "DropsDance$Loner" "firstCell" "I" ∈ TB := tb_in1 (i := 212) rfl rfl
theorem t_1_213 : Jvm.Cond.fieldLink "DropsDance$Loner" (29 : Nat) "DropsDance$Loner" "firstSize" "I" ∈ TB := tb_in1 (i := 213) rfl rfl
theorem t_1_214 : Jvm.Cond.fieldLink "DropsDance$Loner" (32 : Nat) "DropsDance$Loner" "firstWay" "I" ∈ TB := tb_in1 (i := 214) rfl rfl
theorem t_1_215 : Jvm.Cond.fieldLink "DropsDance$Loner" (35 : Nat) "DropsDance$Loner" "bestTicks" "I" ∈ TB := tb_in1 (i := 215) rfl rfl
theorem t_1_216 : Jvm.Cond.fieldLink "DropsDance" (269 : Nat) "DropsDance$Loner" "bestTicks" "I" ∈ TB := tb_in1 (i := 216) rfl rfl
theorem t_1_217 : Jvm.Cond.fieldLink "DropsDance$Loner" (38 : Nat) "DropsDance$Loner" "bestCell" "I" ∈ TB := tb_in1 (i := 217) rfl rfl
theorem t_1_218 : Jvm.Cond.fieldLink "DropsDance" (272 : Nat) "DropsDance$Loner" "bestCell" "I" ∈ TB := tb_in1 (i := 218) rfl rfl
theorem t_1_219 : Jvm.Cond.fieldLink "DropsDance$Loner" (41 : Nat) "DropsDance$Loner" "bestKind" "I" ∈ TB := tb_in1 (i := 219) rfl rfl
theorem t_1_220 : Jvm.Cond.fieldLink "DropsDance" (275 : Nat) "DropsDance$Loner" "bestKind" "I" ∈ TB := tb_in1 (i := 220) rfl rfl
theorem t_1_221 : Jvm.Cond.laysFinal "DropsDance$Loner" "DropsDance$Loner" "own" "LDropsDance$Scene;" ∈ TB := tb_in1 (i := 221) rfl rfl
theorem t_1_223 : Jvm.Cond.laysFinal "DropsDance$Loner" "DropsDance$Loner" "been" "[I" ∈ TB := tb_in1 (i := 223) rfl rfl
theorem t_1_225 : Jvm.Cond.laysFinal "DropsDance$Loner" "DropsDance$Loner" "worthTrying" "[I" ∈ TB := tb_in1 (i := 225) rfl rfl
theorem t_1_227 : Jvm.Cond.lays "DropsDance$Loner" "DropsDance$Loner" "firstCell" "I" ∈ TB := tb_in1 (i := 227) rfl rfl
theorem t_1_229 : Jvm.Cond.lays "DropsDance$Loner" "DropsDance$Loner" "firstSize" "I" ∈ TB := tb_in1 (i := 229) rfl rfl
theorem t_1_231 : Jvm.Cond.lays "DropsDance$Loner" "DropsDance$Loner" "firstWay" "I" ∈ TB := tb_in1 (i := 231) rfl rfl
theorem t_1_233 : Jvm.Cond.lays "DropsDance$Loner" "DropsDance$Loner" "bestTicks" "I" ∈ TB := tb_in1 (i := 233) rfl rfl
theorem t_1_235 : Jvm.Cond.lays "DropsDance$Loner" "DropsDance$Loner" "bestCell" "I" ∈ TB := tb_in1 (i := 235) rfl rfl
theorem t_1_237 : Jvm.Cond.lays "DropsDance$Loner" "DropsDance$Loner" "bestKind" "I" ∈ TB := tb_in1 (i := 237) rfl rfl
theorem t_2_0 : Jvm.Cond.classLink "DropsDance" (56 : Nat) "DropsDance$Path" ∈ TB := tb_in2 (i := 0) rfl rfl
theorem t_2_1 : Jvm.Cond.instantiable "DropsDance$Path" (4 : Nat) ∈ TB := tb_in2 (i := 1) rfl rfl
theorem t_2_3 : Jvm.Cond.instanceMethod ({ cls := "DropsDance$Path", name := "<init>", desc := "()V" } : Jvm.MethodName) ∈ TB := tb_in2 (i := 3) rfl rfl
theorem t_2_4 : Jvm.Cond.code ({ cls := "DropsDance$Path", name := "<init>", desc := "()V" } : Jvm.MethodName) prog_5_method_1_code (1 : Nat) (Option.none : Option Jvm.ClassFile.FieldType) ∈ TB := tb_in2 (i := 4) rfl rfl
theorem t_2_5 : Jvm.Cond.methodLink "DropsDance$Path" (3 : Nat) ({ cls := "java/lang/Object", name := "<init>", desc := "()V" } : Jvm.MethodName) ∈ TB := tb_in2 (i := 5) rfl rfl
theorem t_2_6 : Jvm.Cond.classLink "DropsDance$Path" (9 : Nat) "DropsDance$Drop" ∈ TB := tb_in2 (i := 6) rfl rfl
theorem t_2_8 : Jvm.Cond.fieldLink "DropsDance$Path" (12 : Nat) "DropsDance$Path" "walker" "LDropsDance$Drop;" ∈ TB := tb_in2 (i := 8) rfl rfl
theorem t_2_9 : Jvm.Cond.fieldLink "DropsDance$Path" (18 : Nat) "DropsDance$Path" "seenAt" "[I" ∈ TB := tb_in2 (i := 9) rfl rfl
theorem t_2_10 : Jvm.Cond.fieldLink "DropsDance$Path" (22 : Nat) "DropsDance$Path" "ticksBefore" "I" ∈ TB := tb_in2 (i := 10) rfl rfl
theorem t_2_11 : Jvm.Cond.fieldLink "DropsDance" (246 : Nat) "DropsDance$Path" "ticksBefore" "I" ∈ TB := tb_in2 (i := 11) rfl rfl
theorem t_2_12 : Jvm.Cond.fieldLink "DropsDance$Path" (26 : Nat) "DropsDance$Path" "ticksRound" "I" ∈ TB := tb_in2 (i := 12) rfl rfl
theorem t_2_13 : Jvm.Cond.fieldLink "DropsDance" (249 : Nat) "DropsDance$Path" "ticksRound" "I" ∈ TB := tb_in2 (i := 13) rfl rfl
theorem t_2_14 : Jvm.Cond.laysFinal "DropsDance$Path" "DropsDance$Path" "walker" "LDropsDance$Drop;" ∈ TB := tb_in2 (i := 14) rfl rfl
theorem t_2_16 : Jvm.Cond.laysFinal "DropsDance$Path" "DropsDance$Path" "seenAt" "[I" ∈ TB := tb_in2 (i := 16) rfl rfl
theorem t_2_18 : Jvm.Cond.lays "DropsDance$Path" "DropsDance$Path" "ticksBefore" "I" ∈ TB := tb_in2 (i := 18) rfl rfl
theorem t_2_20 : Jvm.Cond.lays "DropsDance$Path" "DropsDance$Path" "ticksRound" "I" ∈ TB := tb_in2 (i := 20) rfl rfl
theorem t_2_23 : Jvm.Cond.classLink "DropsDance" (63 : Nat) "DropsDance$Roller" ∈ TB := tb_in2 (i := 23) rfl rfl
theorem t_2_24 : Jvm.Cond.instantiable "DropsDance$Roller" (2 : Nat) ∈ TB := tb_in2 (i := 24) rfl rfl
theorem t_2_26 : Jvm.Cond.instanceMethod ({ cls := "DropsDance$Roller", name := "<init>", desc := "()V" } : Jvm.MethodName) ∈ TB := tb_in2 (i := 26) rfl rfl
theorem t_2_27 : Jvm.Cond.code ({ cls := "DropsDance$Roller", name := "<init>", desc := "()V" } : Jvm.MethodName) prog_6_method_1_code (1 : Nat) (Option.none : Option Jvm.ClassFile.FieldType) ∈ TB := tb_in2 (i := 27) rfl rfl
theorem t_2_28 : Jvm.Cond.methodLink "DropsDance$Roller" (3 : Nat) ({ cls := "java/lang/Object", name := "<init>", desc := "()V" } : Jvm.MethodName) ∈ TB := tb_in2 (i := 28) rfl rfl
theorem t_2_29 : Jvm.Cond.fieldLink "DropsDance$Roller" (9 : Nat) "DropsDance$Roller" "courses" "[J" ∈ TB := tb_in2 (i := 29) rfl rfl
theorem t_2_30 : Jvm.Cond.fieldLink "DropsDance$Roller" (15 : Nat) "DropsDance$Roller" "coursesNext" "[J" ∈ TB := tb_in2 (i := 30) rfl rfl
theorem t_2_31 : Jvm.Cond.laysFinal "DropsDance$Roller" "DropsDance$Roller" "courses" "[J" ∈ TB := tb_in2 (i := 31) rfl rfl
theorem t_2_33 : Jvm.Cond.laysFinal "DropsDance$Roller" "DropsDance$Roller" "coursesNext" "[J" ∈ TB := tb_in2 (i := 33) rfl rfl
theorem t_2_36 : Jvm.Cond.arrayClass Jvm.ClassFile.FieldType.long ∈ TB := tb_in2 (i := 36) rfl rfl
theorem t_2_37 : Jvm.Cond.classLink "DropsDance" (70 : Nat) "DropsDance$ToldLives" ∈ TB := tb_in2 (i := 37) rfl rfl
theorem t_2_38 : Jvm.Cond.instantiable "DropsDance$ToldLives" (5 : Nat) ∈ TB := tb_in2 (i := 38) rfl rfl
theorem t_2_40 : Jvm.Cond.instanceMethod ({ cls := "DropsDance$ToldLives", name := "<init>", desc := "()V" } : Jvm.MethodName) ∈ TB := tb_in2 (i := 40) rfl rfl
theorem t_2_41 : Jvm.Cond.code ({ cls := "DropsDance$ToldLives", name := "<init>", desc := "()V" } : Jvm.MethodName) prog_11_method_1_code (1 : Nat) (Option.none : Option Jvm.ClassFile.FieldType) ∈ TB := tb_in2 (i := 41) rfl rfl
theorem t_2_42 : Jvm.Cond.methodLink "DropsDance$ToldLives" (3 : Nat) ({ cls := "java/lang/Object", name := "<init>", desc := "()V" } : Jvm.MethodName) ∈ TB := tb_in2 (i := 42) rfl rfl
theorem t_2_43 : Jvm.Cond.fieldLink "DropsDance$ToldLives" (9 : Nat) "DropsDance$ToldLives" "sizes" "[I" ∈ TB := tb_in2 (i := 43) rfl rfl
theorem t_2_44 : Jvm.Cond.fieldLink "DropsDance$ToldLives" (15 : Nat) "DropsDance$ToldLives" "heats" "[I" ∈ TB := tb_in2 (i := 44) rfl rfl
theorem t_2_45 : Jvm.Cond.fieldLink "DropsDance$ToldLives" (18 : Nat) "DropsDance$ToldLives" "lives" "[I" ∈ TB := tb_in2 (i := 45) rfl rfl
theorem t_2_46 : Jvm.Cond.fieldLink "DropsDance$ToldLives" (21 : Nat) "DropsDance$ToldLives" "fromBelow" "[Z" ∈ TB := tb_in2 (i := 46) rfl rfl
theorem t_2_47 : Jvm.Cond.fieldLink "DropsDance$ToldLives" (25 : Nat) "DropsDance$ToldLives" "many" "I" ∈ TB := tb_in2 (i := 47) rfl rfl
theorem t_2_48 : Jvm.Cond.fieldLink "DropsDance" (115 : Nat) "DropsDance$ToldLives" "many" "I" ∈ TB := tb_in2 (i := 48) rfl rfl
theorem t_2_49 : Jvm.Cond.laysFinal "DropsDance$ToldLives" "DropsDance$ToldLives" "sizes" "[I" ∈ TB := tb_in2 (i := 49) rfl rfl
theorem t_2_51 : Jvm.Cond.laysFinal "DropsDance$ToldLives" "DropsDance$ToldLives" "heats" "[I" ∈ TB := tb_in2 (i := 51) rfl rfl
theorem t_2_53 : Jvm.Cond.laysFinal "DropsDance$ToldLives" "DropsDance$ToldLives" "lives" "[I" ∈ TB := tb_in2 (i := 53) rfl rfl
theorem t_2_55 : Jvm.Cond.laysFinal "DropsDance$ToldLives" "DropsDance$ToldLives" "fromBelow" "[Z" ∈ TB := tb_in2 (i := 55) rfl rfl
theorem t_2_57 : Jvm.Cond.lays "DropsDance$ToldLives" "DropsDance$ToldLives" "many" "I" ∈ TB := tb_in2 (i := 57) rfl rfl
theorem t_2_60 : Jvm.Cond.classLink "DropsDance" (77 : Nat) "DropsDance$Sheet" ∈ TB := tb_in2 (i := 60) rfl rfl
theorem t_2_62 : Jvm.Cond.instantiable "DropsDance$Image" (2 : Nat) ∈ TB := tb_in2 (i := 62) rfl rfl
theorem t_2_64 : Jvm.Cond.instanceMethod ({ cls := "DropsDance$Image", name := "<init>", desc := "()V" } : Jvm.MethodName) ∈ TB := tb_in2 (i := 64) rfl rfl
theorem t_2_65 : Jvm.Cond.code ({ cls := "DropsDance$Image", name := "<init>", desc := "()V" } : Jvm.MethodName) prog_3_method_1_code (1 : Nat) (Option.none : Option Jvm.ClassFile.FieldType) ∈ TB := tb_in2 (i := 65) rfl rfl
theorem t_2_66 : Jvm.Cond.methodLink "DropsDance$Image" (1 : Nat) ({ cls := "java/lang/Object", name := "<init>", desc := "()V" } : Jvm.MethodName) ∈ TB := tb_in2 (i := 66) rfl rfl
theorem t_2_67 : Jvm.Cond.classLink "DropsDance$Image" (7 : Nat) "DropsDance$Scene" ∈ TB := tb_in2 (i := 67) rfl rfl
theorem t_2_68 : Jvm.Cond.methodLink "DropsDance$Image" (9 : Nat) ({ cls := "DropsDance$Scene", name := "<init>", desc := "()V" } : Jvm.MethodName) ∈ TB := tb_in2 (i := 68) rfl rfl
theorem t_2_69 : Jvm.Cond.fieldLink "DropsDance$Image" (10 : Nat) "DropsDance$Image" "scene" "LDropsDance$Scene;" ∈ TB := tb_in2 (i := 69) rfl rfl
theorem t_2_70 : Jvm.Cond.fieldLink "DropsDance" (220 : Nat) "DropsDance$Image" "scene" "LDropsDance$Scene;" ∈ TB := tb_in2 (i := 70) rfl rfl
theorem t_2_71 : Jvm.Cond.fieldLink "DropsDance$Image" (16 : Nat) "DropsDance$Image" "there" "Z" ∈ TB := tb_in2 (i := 71) rfl rfl
theorem t_2_72 : Jvm.Cond.fieldLink "DropsDance" (118 : Nat) "DropsDance$Image" "there" "Z" ∈ TB := tb_in2 (i := 72) rfl rfl
theorem t_2_73 : Jvm.Cond.laysFinal "DropsDance$Image" "DropsDance$Image" "scene" "LDropsDance$Scene;" ∈ TB := tb_in2 (i := 73) rfl rfl
theorem t_2_75 : Jvm.Cond.lays "DropsDance$Image" "DropsDance$Image" "there" "Z" ∈ TB := tb_in2 (i := 75) rfl rfl
theorem t_2_78 : Jvm.Cond.instantiable "DropsDance$Sheet" (3 : Nat) ∈ TB := tb_in2 (i := 78) rfl rfl
theorem t_2_80 : Jvm.Cond.instanceMethod ({ cls := "DropsDance$Sheet", name := "<init>", desc := "()V" } : Jvm.MethodName) ∈ TB := tb_in2 (i := 80) rfl rfl
theorem t_2_81 : Jvm.Cond.code ({ cls := "DropsDance$Sheet", name := "<init>", desc := "()V" } : Jvm.MethodName) prog_9_method_1_code (1 : Nat) (Option.none : Option Jvm.ClassFile.FieldType) ∈ TB := tb_in2 (i := 81) rfl rfl
theorem t_2_82 : Jvm.Cond.methodLink "DropsDance$Sheet" (3 : Nat) ({ cls := "java/lang/Object", name := "<init>", desc := "()V" } : Jvm.MethodName) ∈ TB := tb_in2 (i := 82) rfl rfl
theorem t_2_83 : Jvm.Cond.fieldLink "DropsDance$Sheet" (9 : Nat) "DropsDance$Sheet" "row" "[I" ∈ TB := tb_in2 (i := 83) rfl rfl
theorem t_2_84 : Jvm.Cond.fieldLink "DropsDance$Sheet" (15 : Nat) "DropsDance$Sheet" "lane" "I" ∈ TB := tb_in2 (i := 84) rfl rfl
theorem t_2_85 : Jvm.Cond.fieldLink "DropsDance" (354 : Nat) "DropsDance$Sheet" "lane" "I" ∈ TB := tb_in2 (i := 85) rfl rfl
theorem t_2_86 : Jvm.Cond.fieldLink "DropsDance$Sheet" (19 : Nat) "DropsDance$Sheet" "length" "I" ∈ TB := tb_in2 (i := 86) rfl rfl
theorem t_2_87 : Jvm.Cond.fieldLink "DropsDance" (357 : Nat) "DropsDance$Sheet" "length" "I" ∈ TB := tb_in2 (i := 87) rfl rfl
theorem t_2_88 : Jvm.Cond.laysFinal "DropsDance$Sheet" "DropsDance$Sheet" "row" "[I" ∈ TB := tb_in2 (i := 88) rfl rfl
theorem t_2_90 : Jvm.Cond.lays "DropsDance$Sheet" "DropsDance$Sheet" "lane" "I" ∈ TB := tb_in2 (i := 90) rfl rfl
theorem t_2_92 : Jvm.Cond.lays "DropsDance$Sheet" "DropsDance$Sheet" "length" "I" ∈ TB := tb_in2 (i := 92) rfl rfl
theorem t_2_95 : Jvm.Cond.fieldLink "DropsDance" (9 : Nat) "DropsDance" "tape" "[B" ∈ TB := tb_in2 (i := 95) rfl rfl
theorem t_2_96 : Jvm.Cond.fieldLink "DropsDance" (13 : Nat) "DropsDance" "tapeLength" "I" ∈ TB := tb_in2 (i := 96) rfl rfl
theorem t_2_97 : Jvm.Cond.fieldLink "DropsDance" (22 : Nat) "DropsDance" "reader" "LDropsDance$TextReader;" ∈ TB := tb_in2 (i := 97) rfl rfl
theorem t_2_98 : Jvm.Cond.fieldLink "DropsDance" (26 : Nat) "DropsDance" "textFault" "I" ∈ TB := tb_in2 (i := 98) rfl rfl
theorem t_2_99 : Jvm.Cond.fieldLink "DropsDance" (32 : Nat) "DropsDance" "rules" "LDropsDance$Rules;" ∈ TB := tb_in2 (i := 99) rfl rfl
theorem t_2_100 : Jvm.Cond.fieldLink "DropsDance" (39 : Nat) "DropsDance" "scene" "LDropsDance$Scene;" ∈ TB := tb_in2 (i := 100) rfl rfl
theorem t_2_101 : Jvm.Cond.fieldLink "DropsDance" (45 : Nat) "DropsDance" "images" "[LDropsDance$Image;" ∈ TB := tb_in2 (i := 101) rfl rfl
theorem t_2_102 : Jvm.Cond.fieldLink "DropsDance" (52 : Nat) "DropsDance" "loner" "LDropsDance$Loner;" ∈ TB := tb_in2 (i := 102) rfl rfl
theorem t_2_103 : Jvm.Cond.fieldLink "DropsDance" (59 : Nat) "DropsDance" "path" "LDropsDance$Path;" ∈ TB := tb_in2 (i := 103) rfl rfl
theorem t_2_104 : Jvm.Cond.fieldLink "DropsDance" (66 : Nat) "DropsDance" "roller" "LDropsDance$Roller;" ∈ TB := tb_in2 (i := 104) rfl rfl
theorem t_2_105 : Jvm.Cond.fieldLink "DropsDance" (73 : Nat) "DropsDance" "told" "LDropsDance$ToldLives;" ∈ TB := tb_in2 (i := 105) rfl rfl
theorem t_2_106 : Jvm.Cond.fieldLink "DropsDance" (79 : Nat) "DropsDance" "sheets" "[LDropsDance$Sheet;" ∈ TB := tb_in2 (i := 106) rfl rfl
theorem t_2_107 : Jvm.Cond.fieldLink "DropsDance" (83 : Nat) "DropsDance" "readFault" "I" ∈ TB := tb_in2 (i := 107) rfl rfl
theorem t_2_108 : Jvm.Cond.laysFinal "DropsDance" "DropsDance" "tape" "[B" ∈ TB := tb_in2 (i := 108) rfl rfl
theorem t_2_110 : Jvm.Cond.lays "DropsDance" "DropsDance" "tapeLength" "I" ∈ TB := tb_in2 (i := 110) rfl rfl
theorem t_2_112 : Jvm.Cond.laysFinal "DropsDance" "DropsDance" "reader" "LDropsDance$TextReader;" ∈ TB := tb_in2 (i := 112) rfl rfl
theorem t_2_114 : Jvm.Cond.lays "DropsDance" "DropsDance" "textFault" "I" ∈ TB := tb_in2 (i := 114) rfl rfl
theorem t_2_116 : Jvm.Cond.laysFinal "DropsDance" "DropsDance" "rules" "LDropsDance$Rules;" ∈ TB := tb_in2 (i := 116) rfl rfl
theorem t_2_118 : Jvm.Cond.laysFinal "DropsDance" "DropsDance" "scene" "LDropsDance$Scene;" ∈ TB := tb_in2 (i := 118) rfl rfl
theorem t_2_120 : Jvm.Cond.laysFinal "DropsDance" "DropsDance" "images" "[LDropsDance$Image;" ∈ TB := tb_in2 (i := 120) rfl rfl
theorem t_2_122 : Jvm.Cond.laysFinal "DropsDance" "DropsDance" "loner" "LDropsDance$Loner;" ∈ TB := tb_in2 (i := 122) rfl rfl
theorem t_2_124 : Jvm.Cond.laysFinal "DropsDance" "DropsDance" "path" "LDropsDance$Path;" ∈ TB := tb_in2 (i := 124) rfl rfl
theorem t_2_126 : Jvm.Cond.laysFinal "DropsDance" "DropsDance" "roller" "LDropsDance$Roller;" ∈ TB := tb_in2 (i := 126) rfl rfl
theorem t_2_128 : Jvm.Cond.laysFinal "DropsDance" "DropsDance" "told" "LDropsDance$ToldLives;" ∈ TB := tb_in2 (i := 128) rfl rfl
theorem t_2_130 : Jvm.Cond.laysFinal "DropsDance" "DropsDance" "sheets" "[LDropsDance$Sheet;" ∈ TB := tb_in2 (i := 130) rfl rfl
theorem t_2_132 : Jvm.Cond.lays "DropsDance" "DropsDance" "readFault" "I" ∈ TB := tb_in2 (i := 132) rfl rfl
theorem t_2_135 : Jvm.Cond.methodLink "DropsDanceLaw" (15 : Nat) ({ cls := "DropsDance", name := "feed", desc := "(J)I" } : Jvm.MethodName) ∈ TB := tb_in2 (i := 135) rfl rfl
theorem t_2_136 : Jvm.Cond.instanceMethod ({ cls := "DropsDance", name := "feed", desc := "(J)I" } : Jvm.MethodName) ∈ TB := tb_in2 (i := 136) rfl rfl
theorem t_2_137 : Jvm.Cond.selects "DropsDance" ({ cls := "DropsDance", name := "feed", desc := "(J)I" } : Jvm.MethodName) ({ cls := "DropsDance", name := "feed", desc := "(J)I" } : Jvm.MethodName) ∈ TB := tb_in2 (i := 137) rfl rfl
theorem t_2_138 : Jvm.Cond.code ({ cls := "DropsDance", name := "feed", desc := "(J)I" } : Jvm.MethodName) prog_1_method_2_code (4 : Nat) (Option.some Jvm.ClassFile.FieldType.int) ∈ TB := tb_in2 (i := 138) rfl rfl
theorem t_2_139 : Jvm.Cond.methodLink "DropsDanceLaw" (20 : Nat) ({ cls := "DropsDance", name := "end", desc := "(I)I" } : Jvm.MethodName) ∈ TB := tb_in2 (i := 139) rfl rfl
theorem t_2_140 : Jvm.Cond.instanceMethod ({ cls := "DropsDance", name := "end", desc := "(I)I" } : Jvm.MethodName) ∈ TB := tb_in2 (i := 140) rfl rfl
theorem t_2_141 : Jvm.Cond.selects "DropsDance" ({ cls := "DropsDance", name := "end", desc := "(I)I" } : Jvm.MethodName) ({ cls := "DropsDance", name := "end", desc := "(I)I" } : Jvm.MethodName) ∈ TB := tb_in2 (i := 141) rfl rfl
theorem t_2_142 : Jvm.Cond.code ({ cls := "DropsDance", name := "end", desc := "(I)I" } : Jvm.MethodName) prog_1_method_3_code (3 : Nat) (Option.some Jvm.ClassFile.FieldType.int) ∈ TB := tb_in2 (i := 142) rfl rfl
theorem t_2_143 : Jvm.Cond.methodLink "DropsDance" (88 : Nat) ({ cls := "DropsDance", name := "within", desc := "(III)Z" } : Jvm.MethodName) ∈ TB := tb_in2 (i := 143) rfl rfl
theorem t_2_144 : Jvm.Cond.static ({ cls := "DropsDance", name := "within", desc := "(III)Z" } : Jvm.MethodName) ∈ TB := tb_in2 (i := 144) rfl rfl
theorem t_2_145 : Jvm.Cond.code ({ cls := "DropsDance", name := "within", desc := "(III)Z" } : Jvm.MethodName) prog_1_method_40_code (3 : Nat) (Option.some Jvm.ClassFile.FieldType.boolean) ∈ TB := tb_in2 (i := 145) rfl rfl
theorem t_2_146 : Jvm.Cond.methodLink "DropsDanceLaw" (25 : Nat) ({ cls := "DropsDance", name := "text", desc := "()I" } : Jvm.MethodName) ∈ TB := tb_in2 (i := 146) rfl rfl
theorem t_2_147 : Jvm.Cond.instanceMethod ({ cls := "DropsDance", name := "text", desc := "()I" } : Jvm.MethodName) ∈ TB := tb_in2 (i := 147) rfl rfl
theorem t_2_148 : Jvm.Cond.selects "DropsDance" ({ cls := "DropsDance", name := "text", desc := "()I" } : Jvm.MethodName) ({ cls := "DropsDance", name := "text", desc := "()I" } : Jvm.MethodName) ∈ TB := tb_in2 (i := 148) rfl rfl
theorem t_2_149 : Jvm.Cond.code ({ cls := "DropsDance", name := "text", desc := "()I" } : Jvm.MethodName) prog_1_method_4_code (2 : Nat) (Option.some Jvm.ClassFile.FieldType.int) ∈ TB := tb_in2 (i := 149) rfl rfl
theorem t_2_150 : Jvm.Cond.methodLink "DropsDance" (92 : Nat) ({ cls := "DropsDance$TextReader", name := "readAll", desc := "(I)V" } : Jvm.MethodName) ∈ TB := tb_in2 (i := 150) rfl rfl
theorem t_2_151 : Jvm.Cond.instanceMethod ({ cls := "DropsDance$TextReader", name := "readAll", desc := "(I)V" } : Jvm.MethodName) ∈ TB := tb_in2 (i := 151) rfl rfl
theorem t_2_152 : Jvm.Cond.selects "DropsDance$TextReader" ({ cls := "DropsDance$TextReader", name := "readAll", desc := "(I)V" } : Jvm.MethodName) ({ cls := "DropsDance$TextReader", name := "readAll", desc := "(I)V" } : Jvm.MethodName) ∈ TB := tb_in2 (i := 152) rfl rfl
theorem t_2_153 : Jvm.Cond.code ({ cls := "DropsDance$TextReader", name := "readAll", desc := "(I)V" } : Jvm.MethodName) prog_10_method_2_code (3 : Nat) (Option.none : Option Jvm.ClassFile.FieldType) ∈ TB := tb_in2 (i := 153) rfl rfl
theorem t_2_154 : Jvm.Cond.methodLink "DropsDance$TextReader" (55 : Nat) ({ cls := "DropsDance$TextReader", name := "beginAnew", desc := "(I)V" } : Jvm.MethodName) ∈ TB := tb_in2 (i := 154) rfl rfl
theorem t_2_156 : Jvm.Cond.instanceMethod ({ cls := "DropsDance$TextReader", name := "beginAnew", desc := "(I)V" } : Jvm.MethodName) ∈ TB := tb_in2 (i := 156) rfl rfl
theorem t_2_157 : Jvm.Cond.code ({ cls := "DropsDance$TextReader", name := "beginAnew", desc := "(I)V" } : Jvm.MethodName) prog_10_method_3_code (3 : Nat) (Option.none : Option Jvm.ClassFile.FieldType) ∈ TB := tb_in2 (i := 157) rfl rfl
theorem t_2_158 : Jvm.Cond.methodLink "DropsDance$TextReader" (89 : Nat) ({ cls := "java/lang/Math", name := "min", desc := "(II)I" } : Jvm.MethodName) ∈ TB := tb_in2 (i := 158) rfl rfl
theorem t_2_159 : Jvm.Cond.static ({ cls := "java/lang/Math", name := "min", desc := "(II)I" } : Jvm.MethodName) ∈ TB := tb_in2 (i := 159) rfl rfl
theorem t_2_160 : Jvm.Cond.code ({ cls := "java/lang/Math", name := "min", desc := "(II)I" } : Jvm.MethodName) prog_15_method_69_code (2 : Nat) (Option.some Jvm.ClassFile.FieldType.int) ∈ TB := tb_in2 (i := 160) rfl rfl
theorem t_2_161 : Jvm.Cond.methodLink "DropsDance$TextReader" (95 : Nat) ({ cls := "DropsDance$Rules", name := "beginAnew", desc := "()V" } : Jvm.MethodName) ∈ TB := tb_in2 (i := 161) rfl rfl
theorem t_2_162 : Jvm.Cond.methodLink "DropsDance$TextReader" (97 : Nat) ({ cls := "java/util/Arrays", name := "fill", desc := "([II)V" } : Jvm.MethodName) ∈ TB := tb_in2 (i := 162) rfl rfl
theorem t_2_163 : Jvm.Cond.methodLink "DropsDance$TextReader" (59 : Nat) ({ cls := "DropsDance$TextReader", name := "readToken", desc := "()V" } : Jvm.MethodName) ∈ TB := tb_in2 (i := 163) rfl rfl
theorem t_2_165 : Jvm.Cond.instanceMethod ({ cls := "DropsDance$TextReader", name := "readToken", desc := "()V" } : Jvm.MethodName) ∈ TB := tb_in2 (i := 165) rfl rfl
theorem t_2_166 : Jvm.Cond.code ({ cls := "DropsDance$TextReader", name := "readToken", desc := "()V" } : Jvm.MethodName) prog_10_method_9_code (1 : Nat) (Option.none : Option Jvm.ClassFile.FieldType) ∈ TB := tb_in2 (i := 166) rfl rfl
theorem t_2_167 : Jvm.Cond.methodLink "DropsDance$TextReader" (105 : Nat) ({ cls := "DropsDance$TextReader", name := "byteAt", desc := "(I)I" } : Jvm.MethodName) ∈ TB := tb_in2 (i := 167) rfl rfl
theorem t_2_169 : Jvm.Cond.instanceMethod ({ cls := "DropsDance$TextReader", name := "byteAt", desc := "(I)I" } : Jvm.MethodName) ∈ TB := tb_in2 (i := 169) rfl rfl
theorem t_2_170 : Jvm.Cond.code ({ cls := "DropsDance$TextReader", name := "byteAt", desc := "(I)I" } : Jvm.MethodName) prog_10_method_11_code (2 : Nat) (Option.some Jvm.ClassFile.FieldType.int) ∈ TB := tb_in2 (i := 170) rfl rfl
theorem t_2_171 : Jvm.Cond.methodLink "DropsDance$TextReader" (125 : Nat) ({ cls := "DropsDance$TextReader", name := "kindOf", desc := "(I)I" } : Jvm.MethodName) ∈ TB := tb_in2 (i := 171) rfl rfl
theorem t_2_172 : Jvm.Cond.static ({ cls := "DropsDance$TextReader", name := "kindOf", desc := "(I)I" } : Jvm.MethodName) ∈ TB := tb_in2 (i := 172) rfl rfl
theorem t_2_173 : Jvm.Cond.code ({ cls := "DropsDance$TextReader", name := "kindOf", desc := "(I)I" } : Jvm.MethodName) prog_10_method_10_code (1 : Nat) (Option.some Jvm.ClassFile.FieldType.int) ∈ TB := tb_in2 (i := 173) rfl rfl
theorem t_2_174 : Jvm.Cond.methodLink "DropsDance$TextReader" (85 : Nat) ({ cls := "DropsDance$TextReader", name := "refuse", desc := "(II)V" } : Jvm.MethodName) ∈ TB := tb_in2 (i := 174) rfl rfl
theorem t_2_176 : Jvm.Cond.instanceMethod ({ cls := "DropsDance$TextReader", name := "refuse", desc := "(II)V" } : Jvm.MethodName) ∈ TB := tb_in2 (i := 176) rfl rfl
theorem t_2_177 : Jvm.Cond.code ({ cls := "DropsDance$TextReader", name := "refuse", desc := "(II)V" } : Jvm.MethodName) prog_10_method_4_code (3 : Nat) (Option.none : Option Jvm.ClassFile.FieldType) ∈ TB := tb_in2 (i := 177) rfl rfl
theorem t_2_179 : Jvm.Cond.methodLink "DropsDance$TextReader" (64 : Nat) ({ cls := "DropsDance$TextReader", name := "isName", desc := "(Ljava/lang/String;)Z" } : Jvm.MethodName) ∈ TB := tb_in2 (i := 179) rfl rfl
theorem t_2_181 : Jvm.Cond.instanceMethod ({ cls := "DropsDance$TextReader", name := "isName", desc := "(Ljava/lang/String;)Z" } : Jvm.MethodName) ∈ TB := tb_in2 (i := 181) rfl rfl
theorem t_2_182 : Jvm.Cond.code ({ cls := "DropsDance$TextReader", name := "isName", desc := "(Ljava/lang/String;)Z" } : Jvm.MethodName) prog_10_method_14_code (3 : Nat) (Option.some Jvm.ClassFile.FieldType.boolean) ∈ TB := tb_in2 (i := 182) rfl rfl
theorem t_2_183 : Jvm.Cond.methodLink "DropsDance$TextReader" (150 : Nat) ({ cls := "java/lang/String", name := "length", desc := "()I" } : Jvm.MethodName) ∈ TB := tb_in2 (i := 183) rfl rfl
theorem t_2_184 : Jvm.Cond.instanceMethod ({ cls := "java/lang/String", name := "length", desc := "()I" } : Jvm.MethodName) ∈ TB := tb_in2 (i := 184) rfl rfl
theorem t_2_185 : Jvm.Cond.selects "java/lang/String" ({ cls := "java/lang/String", name := "length", desc := "()I" } : Jvm.MethodName) ({ cls := "java/lang/String", name := "length", desc := "()I" } : Jvm.MethodName) ∈ TB := tb_in2 (i := 185) rfl rfl
theorem t_2_186 : Jvm.Cond.code ({ cls := "java/lang/String", name := "length", desc := "()I" } : Jvm.MethodName) prog_16_method_54_code (1 : Nat) (Option.some Jvm.ClassFile.FieldType.int) ∈ TB := tb_in2 (i := 186) rfl rfl
theorem t_2_187 : Jvm.Cond.methodLink "java/lang/String" (335 : Nat) ({ cls := "java/lang/String", name := "coder", desc := "()B" } : Jvm.MethodName) ∈ TB := tb_in2 (i := 187) rfl rfl
theorem t_2_188 : Jvm.Cond.instanceMethod ({ cls := "java/lang/String", name := "coder", desc := "()B" } : Jvm.MethodName) ∈ TB := tb_in2 (i := 188) rfl rfl
theorem t_2_189 : Jvm.Cond.selects "java/lang/String" ({ cls := "java/lang/String", name := "coder", desc := "()B" } : Jvm.MethodName) ({ cls := "java/lang/String", name := "coder", desc := "()B" } : Jvm.MethodName) ∈ TB := tb_in2 (i := 189) rfl rfl
theorem t_2_190 : Jvm.Cond.code ({ cls := "java/lang/String", name := "coder", desc := "()B" } : Jvm.MethodName) prog_16_method_152_code (1 : Nat) (Option.some Jvm.ClassFile.FieldType.byte) ∈ TB := tb_in2 (i := 190) rfl rfl
theorem t_2_191 : Jvm.Cond.fieldLink "java/lang/String" (38 : Nat) "java/lang/String" "COMPACT_STRINGS" "Z" ∈ TB := tb_in2 (i := 191) rfl rfl
theorem t_2_193 : Jvm.Cond.methodLink "DropsDance$TextReader" (152 : Nat) ({ cls := "java/lang/String", name := "charAt", desc := "(I)C" } : Jvm.MethodName) ∈ TB := tb_in2 (i := 193) rfl rfl
theorem t_2_194 : Jvm.Cond.instanceMethod ({ cls := "java/lang/String", name := "charAt", desc := "(I)C" } : Jvm.MethodName) ∈ TB := tb_in2 (i := 194) rfl rfl
theorem t_2_195 : Jvm.Cond.selects "java/lang/String" ({ cls := "java/lang/String", name := "charAt", desc := "(I)C" } : Jvm.MethodName) ({ cls := "java/lang/String", name := "charAt", desc := "(I)C" } : Jvm.MethodName) ∈ TB := tb_in2 (i := 195) rfl rfl
theorem t_2_196 : Jvm.Cond.code ({ cls := "java/lang/String", name := "charAt", desc := "(I)C" } : Jvm.MethodName) prog_16_method_56_code (2 : Nat) (Option.some Jvm.ClassFile.FieldType.char) ∈ TB := tb_in2 (i := 196) rfl rfl
theorem t_2_197 : Jvm.Cond.methodLink "java/lang/String" (492 : Nat) ({ cls := "java/lang/String", name := "isLatin1", desc := "()Z" } : Jvm.MethodName) ∈ TB := tb_in2 (i := 197) rfl rfl
theorem t_2_198 : Jvm.Cond.instanceMethod ({ cls := "java/lang/String", name := "isLatin1", desc := "()Z" } : Jvm.MethodName) ∈ TB := tb_in2 (i := 198) rfl rfl
theorem t_2_199 : Jvm.Cond.selects "java/lang/String" ({ cls := "java/lang/String", name := "isLatin1", desc := "()Z" } : Jvm.MethodName) ({ cls := "java/lang/String", name := "isLatin1", desc := "()Z" } : Jvm.MethodName) ∈ TB := tb_in2 (i := 199) rfl rfl
theorem t_2_200 : Jvm.Cond.code ({ cls := "java/lang/String", name := "isLatin1", desc := "()Z" } : Jvm.MethodName) prog_16_method_154_code (1 : Nat) (Option.some Jvm.ClassFile.FieldType.boolean) ∈ TB := tb_in2 (i := 200) rfl rfl
theorem t_2_201 : Jvm.Cond.methodLink "java/lang/String" (495 : Nat) ({ cls := "java/lang/StringLatin1", name := "charAt", desc := "([BI)C" } : Jvm.MethodName) ∈ TB := tb_in2 (i := 201) rfl rfl
theorem t_2_202 : Jvm.Cond.static ({ cls := "java/lang/StringLatin1", name := "charAt", desc := "([BI)C" } : Jvm.MethodName) ∈ TB := tb_in2 (i := 202) rfl rfl
theorem t_2_203 : Jvm.Cond.code ({ cls := "java/lang/StringLatin1", name := "charAt", desc := "([BI)C" } : Jvm.MethodName) prog_17_method_2_code (2 : Nat) (Option.some Jvm.ClassFile.FieldType.char) ∈ TB := tb_in2 (i := 203) rfl rfl
theorem t_2_204 : Jvm.Cond.methodLink "java/lang/StringLatin1" (9 : Nat) ({ cls := "java/lang/String", name := "checkIndex", desc := "(II)V" } : Jvm.MethodName) ∈ TB := tb_in2 (i := 204) rfl rfl
theorem t_2_205 : Jvm.Cond.static ({ cls := "java/lang/String", name := "checkIndex", desc := "(II)V" } : Jvm.MethodName) ∈ TB := tb_in2 (i := 205) rfl rfl
theorem t_2_206 : Jvm.Cond.code ({ cls := "java/lang/String", name := "checkIndex", desc := "(II)V" } : Jvm.MethodName) prog_16_method_155_code (2 : Nat) (Option.none : Option Jvm.ClassFile.FieldType) ∈ TB := tb_in2 (i := 206) rfl rfl
theorem t_2_207 : Jvm.Cond.fieldLink "java/lang/String" (1053 : Nat) "jdk/internal/util/Preconditions" "SIOOBE_FORMATTER" "Ljava/util/function/BiFunction;" ∈ TB := tb_in2 (i := 207) rfl rfl
theorem t_2_209 : Jvm.Cond.methodLink "java/lang/String" (1059 : Nat) ({ cls := "jdk/internal/util/Preconditions", name := "checkIndex", desc := "(IILjava/util/function/BiFunction;)I" } : Jvm.MethodName) ∈ TB := tb_in2 (i := 209) rfl rfl
theorem t_2_210 : Jvm.Cond.static ({ cls := "jdk/internal/util/Preconditions", name := "checkIndex", desc := "(IILjava/util/function/BiFunction;)I" } : Jvm.MethodName) ∈ TB := tb_in2 (i := 210) rfl rfl
theorem t_2_211 : Jvm.Cond.code ({ cls := "jdk/internal/util/Preconditions", name := "checkIndex", desc := "(IILjava/util/function/BiFunction;)I" } : Jvm.MethodName) prog_21_method_11_code (3 : Nat) (Option.some Jvm.ClassFile.FieldType.int) ∈ TB := tb_in2 (i := 211) rfl rfl
theorem t_2_212 : Jvm.Cond.methodLink "java/lang/String" (498 : Nat) ({ cls := "java/lang/StringUTF16", name := "charAt", desc := "([BI)C" } : Jvm.MethodName) ∈ TB := tb_in2 (i := 212) rfl rfl
theorem t_2_213 : Jvm.Cond.static ({ cls := "java/lang/StringUTF16", name := "charAt", desc := "([BI)C" } : Jvm.MethodName) ∈ TB := tb_in2 (i := 213) rfl rfl
theorem t_2_214 : Jvm.Cond.code ({ cls := "java/lang/StringUTF16", name := "charAt", desc := "([BI)C" } : Jvm.MethodName) prog_18_method_83_code (2 : Nat) (Option.some Jvm.ClassFile.FieldType.char) ∈ TB := tb_in2 (i := 214) rfl rfl
theorem t_2_215 : Jvm.Cond.methodLink "java/lang/StringUTF16" (67 : Nat) ({ cls := "java/lang/StringUTF16", name := "checkIndex", desc := "(I[B)V" } : Jvm.MethodName) ∈ TB := tb_in2 (i := 215) rfl rfl
theorem t_2_216 : Jvm.Cond.static ({ cls := "java/lang/StringUTF16", name := "checkIndex", desc := "(I[B)V" } : Jvm.MethodName) ∈ TB := tb_in2 (i := 216) rfl rfl
theorem t_2_217 : Jvm.Cond.code ({ cls := "java/lang/StringUTF16", name := "checkIndex", desc := "(I[B)V" } : Jvm.MethodName) prog_18_method_91_code (2 : Nat) (Option.none : Option Jvm.ClassFile.FieldType) ∈ TB := tb_in2 (i := 217) rfl rfl
theorem t_2_218 : Jvm.Cond.methodLink "java/lang/StringUTF16" (48 : Nat) ({ cls := "java/lang/StringUTF16", name := "length", desc := "([B)I" } : Jvm.MethodName) ∈ TB := tb_in2 (i := 218) rfl rfl
theorem t_2_219 : Jvm.Cond.static ({ cls := "java/lang/StringUTF16", name := "length", desc := "([B)I" } : Jvm.MethodName) ∈ TB := tb_in2 (i := 219) rfl rfl
theorem t_2_220 : Jvm.Cond.code ({ cls := "java/lang/StringUTF16", name := "length", desc := "([B)I" } : Jvm.MethodName) prog_18_method_6_code (1 : Nat) (Option.some Jvm.ClassFile.FieldType.int) ∈ TB := tb_in2 (i := 220) rfl rfl
theorem t_2_221 : Jvm.Cond.methodLink "java/lang/StringUTF16" (414 : Nat) ({ cls := "java/lang/String", name := "checkIndex", desc := "(II)V" } : Jvm.MethodName) ∈ TB := tb_in2 (i := 221) rfl rfl
theorem t_2_222 : Jvm.Cond.methodLink "java/lang/StringUTF16" (71 : Nat) ({ cls := "java/lang/StringUTF16", name := "getChar", desc := "([BI)C" } : Jvm.MethodName) ∈ TB := tb_in2 (i := 222) rfl rfl
theorem t_2_223 : Jvm.Cond.static ({ cls := "java/lang/StringUTF16", name := "getChar", desc := "([BI)C" } : Jvm.MethodName) ∈ TB := tb_in2 (i := 223) rfl rfl
theorem t_2_224 : Jvm.Cond.code ({ cls := "java/lang/StringUTF16", name := "getChar", desc := "([BI)C" } : Jvm.MethodName) prog_18_method_5_code (2 : Nat) (Option.some Jvm.ClassFile.FieldType.char) ∈ TB := tb_in2 (i := 224) rfl rfl
theorem t_2_225 : Jvm.Cond.fieldLink "java/lang/StringUTF16" (44 : Nat) "java/lang/StringUTF16" "$assertionsDisabled" "Z" ∈ TB := tb_in2 (i := 225) rfl rfl
theorem t_2_227 : Jvm.Cond.fieldLink "java/lang/StringUTF16" (59 : Nat) "java/lang/StringUTF16" "HI_BYTE_SHIFT" "I" ∈ TB := tb_in2 (i := 227) rfl rfl
theorem t_2_229 : Jvm.Cond.fieldLink "java/lang/StringUTF16" (63 : Nat) "java/lang/StringUTF16" "LO_BYTE_SHIFT" "I" ∈ TB := tb_in2 (i := 229) rfl rfl
theorem t_2_231 : Jvm.Cond.methodLink "DropsDance$TextReader" (68 : Nat) ({ cls := "DropsDance$TextReader", name := "readRow", desc := "()V" } : Jvm.MethodName) ∈ TB := tb_in2 (i := 231) rfl rfl
theorem t_2_233 : Jvm.Cond.instanceMethod ({ cls := "DropsDance$TextReader", name := "readRow", desc := "()V" } : Jvm.MethodName) ∈ TB := tb_in2 (i := 233) rfl rfl
theorem t_2_234 : Jvm.Cond.code ({ cls := "DropsDance$TextReader", name := "readRow", desc := "()V" } : Jvm.MethodName) prog_10_method_5_code (3 : Nat) (Option.none : Option Jvm.ClassFile.FieldType) ∈ TB := tb_in2 (i := 234) rfl rfl
theorem t_2_235 : Jvm.Cond.methodLink "DropsDance$TextReader" (78 : Nat) ({ cls := "DropsDance$TextReader", name := "take", desc := "(I)V" } : Jvm.MethodName) ∈ TB := tb_in2 (i := 235) rfl rfl
theorem t_2_237 : Jvm.Cond.instanceMethod ({ cls := "DropsDance$TextReader", name := "take", desc := "(I)V" } : Jvm.MethodName) ∈ TB := tb_in2 (i := 237) rfl rfl
theorem t_2_238 : Jvm.Cond.code ({ cls := "DropsDance$TextReader", name := "take", desc := "(I)V" } : Jvm.MethodName) prog_10_method_8_code (2 : Nat) (Option.none : Option Jvm.ClassFile.FieldType) ∈ TB := tb_in2 (i := 238) rfl rfl
theorem t_3_0 : Jvm.Cond.methodLink "DropsDance$TextReader" (108 : Nat) ({ cls := "java/lang/String", name := "indexOf", desc := "(I)I" } : Jvm.MethodName) ∈ TB := tb_in3 (i := 0) rfl rfl
theorem t_3_1 : Jvm.Cond.instanceMethod ({ cls := "java/lang/String", name := "indexOf", desc := "(I)I" } : Jvm.MethodName) ∈ TB := tb_in3 (i := 1) rfl rfl
theorem t_3_2 : Jvm.Cond.selects "java/lang/String" ({ cls := "java/lang/String", name := "indexOf", desc := "(I)I" } : Jvm.MethodName) ({ cls := "java/lang/String", name := "indexOf", desc := "(I)I" } : Jvm.MethodName) ∈ TB := tb_in3 (i := 2) rfl rfl
theorem t_3_3 : Jvm.Cond.code ({ cls := "java/lang/String", name := "indexOf", desc := "(I)I" } : Jvm.MethodName) prog_16_method_79_code (2 : Nat) (Option.some Jvm.ClassFile.FieldType.int) ∈ TB := tb_in3 (i := 3) rfl rfl
theorem t_3_4 : Jvm.Cond.methodLink "java/lang/String" (633 : Nat) ({ cls := "java/lang/String", name := "indexOf", desc := "(II)I" } : Jvm.MethodName) ∈ TB := tb_in3 (i := 4) rfl rfl
theorem t_3_5 : Jvm.Cond.instanceMethod ({ cls := "java/lang/String", name := "indexOf", desc := "(II)I" } : Jvm.MethodName) ∈ TB := tb_in3 (i := 5) rfl rfl
theorem t_3_6 : Jvm.Cond.selects "java/lang/String" ({ cls := "java/lang/String", name := "indexOf", desc := "(II)I" } : Jvm.MethodName) ({ cls := "java/lang/String", name := "indexOf", desc := "(II)I" } : Jvm.MethodName) ∈ TB := tb_in3 (i := 6) rfl rfl
theorem t_3_7 : Jvm.Cond.code ({ cls := "java/lang/String", name := "indexOf", desc := "(II)I" } : Jvm.MethodName) prog_16_method_80_code (3 : Nat) (Option.some Jvm.ClassFile.FieldType.int) ∈ TB := tb_in3 (i := 7) rfl rfl
theorem t_3_8 : Jvm.Cond.methodLink "java/lang/String" (505 : Nat) ({ cls := "java/lang/String", name := "length", desc := "()I" } : Jvm.MethodName) ∈ TB := tb_in3 (i := 8) rfl rfl
theorem t_3_9 : Jvm.Cond.methodLink "java/lang/String" (637 : Nat) ({ cls := "java/lang/StringLatin1", name := "indexOf", desc := "([BIII)I" } : Jvm.MethodName) ∈ TB := tb_in3 (i := 9) rfl rfl
theorem t_3_10 : Jvm.Cond.static ({ cls := "java/lang/StringLatin1", name := "indexOf", desc := "([BIII)I" } : Jvm.MethodName) ∈ TB := tb_in3 (i := 10) rfl rfl
theorem t_3_11 : Jvm.Cond.code ({ cls := "java/lang/StringLatin1", name := "indexOf", desc := "([BIII)I" } : Jvm.MethodName) prog_17_method_22_code (4 : Nat) (Option.some Jvm.ClassFile.FieldType.int) ∈ TB := tb_in3 (i := 11) rfl rfl
theorem t_3_12 : Jvm.Cond.methodLink "java/lang/StringLatin1" (88 : Nat) ({ cls := "java/lang/StringLatin1", name := "canEncode", desc := "(I)Z" } : Jvm.MethodName) ∈ TB := tb_in3 (i := 12) rfl rfl
theorem t_3_13 : Jvm.Cond.static ({ cls := "java/lang/StringLatin1", name := "canEncode", desc := "(I)Z" } : Jvm.MethodName) ∈ TB := tb_in3 (i := 13) rfl rfl
theorem t_3_14 : Jvm.Cond.code ({ cls := "java/lang/StringLatin1", name := "canEncode", desc := "(I)Z" } : Jvm.MethodName) prog_17_method_4_code (1 : Nat) (Option.some Jvm.ClassFile.FieldType.boolean) ∈ TB := tb_in3 (i := 14) rfl rfl
theorem t_3_15 : Jvm.Cond.methodLink "java/lang/StringLatin1" (92 : Nat) ({ cls := "java/lang/Math", name := "max", desc := "(II)I" } : Jvm.MethodName) ∈ TB := tb_in3 (i := 15) rfl rfl
theorem t_3_16 : Jvm.Cond.static ({ cls := "java/lang/Math", name := "max", desc := "(II)I" } : Jvm.MethodName) ∈ TB := tb_in3 (i := 16) rfl rfl
theorem t_3_17 : Jvm.Cond.code ({ cls := "java/lang/Math", name := "max", desc := "(II)I" } : Jvm.MethodName) prog_15_method_65_code (2 : Nat) (Option.some Jvm.ClassFile.FieldType.int) ∈ TB := tb_in3 (i := 17) rfl rfl
theorem t_3_18 : Jvm.Cond.methodLink "java/lang/StringLatin1" (38 : Nat) ({ cls := "java/lang/Math", name := "min", desc := "(II)I" } : Jvm.MethodName) ∈ TB := tb_in3 (i := 18) rfl rfl
theorem t_3_19 : Jvm.Cond.methodLink "java/lang/StringLatin1" (95 : Nat) ({ cls := "java/lang/StringLatin1", name := "indexOfChar", desc := "([BIII)I" } : Jvm.MethodName) ∈ TB := tb_in3 (i := 19) rfl rfl
theorem t_3_20 : Jvm.Cond.static ({ cls := "java/lang/StringLatin1", name := "indexOfChar", desc := "([BIII)I" } : Jvm.MethodName) ∈ TB := tb_in3 (i := 20) rfl rfl
theorem t_3_21 : Jvm.Cond.code ({ cls := "java/lang/StringLatin1", name := "indexOfChar", desc := "([BIII)I" } : Jvm.MethodName) prog_17_method_23_code (6 : Nat) (Option.some Jvm.ClassFile.FieldType.int) ∈ TB := tb_in3 (i := 21) rfl rfl
theorem t_3_22 : Jvm.Cond.methodLink "java/lang/String" (640 : Nat) ({ cls := "java/lang/StringUTF16", name := "indexOf", desc := "([BIII)I" } : Jvm.MethodName) ∈ TB := tb_in3 (i := 22) rfl rfl
theorem t_3_23 : Jvm.Cond.static ({ cls := "java/lang/StringUTF16", name := "indexOf", desc := "([BIII)I" } : Jvm.MethodName) ∈ TB := tb_in3 (i := 23) rfl rfl
theorem t_3_24 : Jvm.Cond.code ({ cls := "java/lang/StringUTF16", name := "indexOf", desc := "([BIII)I" } : Jvm.MethodName) prog_18_method_40_code (4 : Nat) (Option.some Jvm.ClassFile.FieldType.int) ∈ TB := tb_in3 (i := 24) rfl rfl
theorem t_3_25 : Jvm.Cond.methodLink "java/lang/StringUTF16" (224 : Nat) ({ cls := "java/lang/Math", name := "max", desc := "(II)I" } : Jvm.MethodName) ∈ TB := tb_in3 (i := 25) rfl rfl
theorem t_3_26 : Jvm.Cond.methodLink "java/lang/StringUTF16" (183 : Nat) ({ cls := "java/lang/Math", name := "min", desc := "(II)I" } : Jvm.MethodName) ∈ TB := tb_in3 (i := 26) rfl rfl
theorem t_3_27 : Jvm.Cond.constant "java/lang/StringUTF16" (227 : Nat) (65536 : Int32) ∈ TB := tb_in3 (i := 27) rfl rfl
theorem t_3_28 : Jvm.Cond.methodLink "java/lang/StringUTF16" (228 : Nat) ({ cls := "java/lang/StringUTF16", name := "indexOfChar", desc := "([BIII)I" } : Jvm.MethodName) ∈ TB := tb_in3 (i := 28) rfl rfl
theorem t_3_29 : Jvm.Cond.static ({ cls := "java/lang/StringUTF16", name := "indexOfChar", desc := "([BIII)I" } : Jvm.MethodName) ∈ TB := tb_in3 (i := 29) rfl rfl
theorem t_3_30 : Jvm.Cond.code ({ cls := "java/lang/StringUTF16", name := "indexOfChar", desc := "([BIII)I" } : Jvm.MethodName) prog_18_method_47_code (4 : Nat) (Option.some Jvm.ClassFile.FieldType.int) ∈ TB := tb_in3 (i := 30) rfl rfl
theorem t_3_31 : Jvm.Cond.methodLink "java/lang/StringUTF16" (96 : Nat) ({ cls := "java/lang/StringUTF16", name := "checkBoundsBeginEnd", desc := "(II[B)V" } : Jvm.MethodName) ∈ TB := tb_in3 (i := 31) rfl rfl
theorem t_3_32 : Jvm.Cond.static ({ cls := "java/lang/StringUTF16", name := "checkBoundsBeginEnd", desc := "(II[B)V" } : Jvm.MethodName) ∈ TB := tb_in3 (i := 32) rfl rfl
theorem t_3_33 : Jvm.Cond.code ({ cls := "java/lang/StringUTF16", name := "checkBoundsBeginEnd", desc := "(II[B)V" } : Jvm.MethodName) prog_18_method_93_code (3 : Nat) (Option.none : Option Jvm.ClassFile.FieldType) ∈ TB := tb_in3 (i := 33) rfl rfl
theorem t_3_34 : Jvm.Cond.methodLink "java/lang/StringUTF16" (241 : Nat) ({ cls := "java/lang/String", name := "checkBoundsBeginEnd", desc := "(III)V" } : Jvm.MethodName) ∈ TB := tb_in3 (i := 34) rfl rfl
theorem t_3_35 : Jvm.Cond.static ({ cls := "java/lang/String", name := "checkBoundsBeginEnd", desc := "(III)V" } : Jvm.MethodName) ∈ TB := tb_in3 (i := 35) rfl rfl
theorem t_3_36 : Jvm.Cond.code ({ cls := "java/lang/String", name := "checkBoundsBeginEnd", desc := "(III)V" } : Jvm.MethodName) prog_16_method_158_code (3 : Nat) (Option.none : Option Jvm.ClassFile.FieldType) ∈ TB := tb_in3 (i := 36) rfl rfl
theorem t_3_37 : Jvm.Cond.methodLink "java/lang/String" (1062 : Nat) ({ cls := "jdk/internal/util/Preconditions", name := "checkFromToIndex", desc := "(IIILjava/util/function/BiFunction;)I" } : Jvm.MethodName) ∈ TB := tb_in3 (i := 37) rfl rfl
theorem t_3_38 : Jvm.Cond.static ({ cls := "jdk/internal/util/Preconditions", name := "checkFromToIndex", desc := "(IIILjava/util/function/BiFunction;)I" } : Jvm.MethodName) ∈ TB := tb_in3 (i := 38) rfl rfl
theorem t_3_39 : Jvm.Cond.code ({ cls := "jdk/internal/util/Preconditions", name := "checkFromToIndex", desc := "(IIILjava/util/function/BiFunction;)I" } : Jvm.MethodName) prog_21_method_12_code (4 : Nat) (Option.some Jvm.ClassFile.FieldType.int) ∈ TB := tb_in3 (i := 39) rfl rfl
theorem t_3_40 : Jvm.Cond.methodLink "java/lang/StringUTF16" (244 : Nat) ({ cls := "java/lang/StringUTF16", name := "indexOfCharUnsafe", desc := "([BIII)I" } : Jvm.MethodName) ∈ TB := tb_in3 (i := 40) rfl rfl
theorem t_3_41 : Jvm.Cond.static ({ cls := "java/lang/StringUTF16", name := "indexOfCharUnsafe", desc := "([BIII)I" } : Jvm.MethodName) ∈ TB := tb_in3 (i := 41) rfl rfl
theorem t_3_42 : Jvm.Cond.code ({ cls := "java/lang/StringUTF16", name := "indexOfCharUnsafe", desc := "([BIII)I" } : Jvm.MethodName) prog_18_method_48_code (5 : Nat) (Option.some Jvm.ClassFile.FieldType.int) ∈ TB := tb_in3 (i := 42) rfl rfl
theorem t_3_43 : Jvm.Cond.methodLink "java/lang/StringUTF16" (232 : Nat) ({ cls := "java/lang/StringUTF16", name := "indexOfSupplementary", desc := "([BIII)I" } : Jvm.MethodName) ∈ TB := tb_in3 (i := 43) rfl rfl
theorem t_3_44 : Jvm.Cond.static ({ cls := "java/lang/StringUTF16", name := "indexOfSupplementary", desc := "([BIII)I" } : Jvm.MethodName) ∈ TB := tb_in3 (i := 44) rfl rfl
theorem t_3_45 : Jvm.Cond.code ({ cls := "java/lang/StringUTF16", name := "indexOfSupplementary", desc := "([BIII)I" } : Jvm.MethodName) prog_18_method_49_code (7 : Nat) (Option.some Jvm.ClassFile.FieldType.int) ∈ TB := tb_in3 (i := 45) rfl rfl
theorem t_3_46 : Jvm.Cond.methodLink "java/lang/StringUTF16" (164 : Nat) ({ cls := "java/lang/Character", name := "isValidCodePoint", desc := "(I)Z" } : Jvm.MethodName) ∈ TB := tb_in3 (i := 46) rfl rfl
theorem t_3_47 : Jvm.Cond.static ({ cls := "java/lang/Character", name := "isValidCodePoint", desc := "(I)Z" } : Jvm.MethodName) ∈ TB := tb_in3 (i := 47) rfl rfl
theorem t_3_48 : Jvm.Cond.code ({ cls := "java/lang/Character", name := "isValidCodePoint", desc := "(I)Z" } : Jvm.MethodName) prog_14_method_11_code (2 : Nat) (Option.some Jvm.ClassFile.FieldType.boolean) ∈ TB := tb_in3 (i := 48) rfl rfl
theorem t_3_49 : Jvm.Cond.methodLink "java/lang/StringUTF16" (157 : Nat) ({ cls := "java/lang/Character", name := "highSurrogate", desc := "(I)C" } : Jvm.MethodName) ∈ TB := tb_in3 (i := 49) rfl rfl
theorem t_3_50 : Jvm.Cond.static ({ cls := "java/lang/Character", name := "highSurrogate", desc := "(I)C" } : Jvm.MethodName) ∈ TB := tb_in3 (i := 50) rfl rfl
theorem t_3_51 : Jvm.Cond.code ({ cls := "java/lang/Character", name := "highSurrogate", desc := "(I)C" } : Jvm.MethodName) prog_14_method_28_code (1 : Nat) (Option.some Jvm.ClassFile.FieldType.char) ∈ TB := tb_in3 (i := 51) rfl rfl
theorem t_3_52 : Jvm.Cond.constant "java/lang/Character" (110 : Nat) (55232 : Int32) ∈ TB := tb_in3 (i := 52) rfl rfl
theorem t_3_53 : Jvm.Cond.methodLink "java/lang/StringUTF16" (161 : Nat) ({ cls := "java/lang/Character", name := "lowSurrogate", desc := "(I)C" } : Jvm.MethodName) ∈ TB := tb_in3 (i := 53) rfl rfl
theorem t_3_54 : Jvm.Cond.static ({ cls := "java/lang/Character", name := "lowSurrogate", desc := "(I)C" } : Jvm.MethodName) ∈ TB := tb_in3 (i := 54) rfl rfl
theorem t_3_55 : Jvm.Cond.code ({ cls := "java/lang/Character", name := "lowSurrogate", desc := "(I)C" } : Jvm.MethodName) prog_14_method_29_code (1 : Nat) (Option.some Jvm.ClassFile.FieldType.char) ∈ TB := tb_in3 (i := 55) rfl rfl
theorem t_3_56 : Jvm.Cond.constant "java/lang/Character" (76 : Nat) (56320 : Int32) ∈ TB := tb_in3 (i := 56) rfl rfl
theorem t_3_57 : Jvm.Cond.methodLink "DropsDance$TextReader" (71 : Nat) ({ cls := "DropsDance$TextReader", name := "ruleNamed", desc := "()I" } : Jvm.MethodName) ∈ TB := tb_in3 (i := 57) rfl rfl
theorem t_3_59 : Jvm.Cond.instanceMethod ({ cls := "DropsDance$TextReader", name := "ruleNamed", desc := "()I" } : Jvm.MethodName) ∈ TB := tb_in3 (i := 59) rfl rfl
theorem t_3_60 : Jvm.Cond.code ({ cls := "DropsDance$TextReader", name := "ruleNamed", desc := "()I" } : Jvm.MethodName) prog_10_method_12_code (2 : Nat) (Option.some Jvm.ClassFile.FieldType.int) ∈ TB := tb_in3 (i := 60) rfl rfl
theorem t_3_61 : Jvm.Cond.methodLink "DropsDance$TextReader" (128 : Nat) ({ cls := "DropsDance$TextReader", name := "nameOf", desc := "(I)Ljava/lang/String;" } : Jvm.MethodName) ∈ TB := tb_in3 (i := 61) rfl rfl
theorem t_3_62 : Jvm.Cond.static ({ cls := "DropsDance$TextReader", name := "nameOf", desc := "(I)Ljava/lang/String;" } : Jvm.MethodName) ∈ TB := tb_in3 (i := 62) rfl rfl
theorem t_3_63 : Jvm.Cond.code ({ cls := "DropsDance$TextReader", name := "nameOf", desc := "(I)Ljava/lang/String;" } : Jvm.MethodName) prog_10_method_13_code (1 : Nat) (Option.some (Jvm.ClassFile.FieldType.object "java/lang/String")) ∈ TB := tb_in3 (i := 63) rfl rfl
theorem t_3_73 : Jvm.Cond.methodLink "DropsDance$TextReader" (75 : Nat) ({ cls := "DropsDance$TextReader", name := "readRule", desc := "(I)V" } : Jvm.MethodName) ∈ TB := tb_in3 (i := 73) rfl rfl
theorem t_3_75 : Jvm.Cond.instanceMethod ({ cls := "DropsDance$TextReader", name := "readRule", desc := "(I)V" } : Jvm.MethodName) ∈ TB := tb_in3 (i := 75) rfl rfl
theorem t_3_76 : Jvm.Cond.code ({ cls := "DropsDance$TextReader", name := "readRule", desc := "(I)V" } : Jvm.MethodName) prog_10_method_6_code (2 : Nat) (Option.none : Option Jvm.ClassFile.FieldType) ∈ TB := tb_in3 (i := 76) rfl rfl
theorem t_3_79 : Jvm.Cond.methodLink "DropsDance$TextReader" (116 : Nat) ({ cls := "DropsDance$TextReader", name := "readValue", desc := "(II)V" } : Jvm.MethodName) ∈ TB := tb_in3 (i := 79) rfl rfl
theorem t_3_81 : Jvm.Cond.instanceMethod ({ cls := "DropsDance$TextReader", name := "readValue", desc := "(II)V" } : Jvm.MethodName) ∈ TB := tb_in3 (i := 81) rfl rfl
theorem t_3_82 : Jvm.Cond.code ({ cls := "DropsDance$TextReader", name := "readValue", desc := "(II)V" } : Jvm.MethodName) prog_10_method_7_code (5 : Nat) (Option.none : Option Jvm.ClassFile.FieldType) ∈ TB := tb_in3 (i := 82) rfl rfl
theorem t_3_85 : Jvm.Cond.methodLink "DropsDance$TextReader" (122 : Nat) ({ cls := "DropsDance$Rules", name := "become", desc := "(II)V" } : Jvm.MethodName) ∈ TB := tb_in3 (i := 85) rfl rfl
theorem t_3_86 : Jvm.Cond.instanceMethod ({ cls := "DropsDance$Rules", name := "become", desc := "(II)V" } : Jvm.MethodName) ∈ TB := tb_in3 (i := 86) rfl rfl
theorem t_3_87 : Jvm.Cond.selects "DropsDance$Rules" ({ cls := "DropsDance$Rules", name := "become", desc := "(II)V" } : Jvm.MethodName) ({ cls := "DropsDance$Rules", name := "become", desc := "(II)V" } : Jvm.MethodName) ∈ TB := tb_in3 (i := 87) rfl rfl
theorem t_3_88 : Jvm.Cond.code ({ cls := "DropsDance$Rules", name := "become", desc := "(II)V" } : Jvm.MethodName) prog_7_method_5_code (3 : Nat) (Option.none : Option Jvm.ClassFile.FieldType) ∈ TB := tb_in3 (i := 88) rfl rfl
theorem t_3_89 : Jvm.Cond.methodLink "DropsDance$TextReader" (81 : Nat) ({ cls := "DropsDance$Rules", name := "value", desc := "(I)I" } : Jvm.MethodName) ∈ TB := tb_in3 (i := 89) rfl rfl
theorem t_3_90 : Jvm.Cond.instanceMethod ({ cls := "DropsDance$Rules", name := "value", desc := "(I)I" } : Jvm.MethodName) ∈ TB := tb_in3 (i := 90) rfl rfl
theorem t_3_91 : Jvm.Cond.selects "DropsDance$Rules" ({ cls := "DropsDance$Rules", name := "value", desc := "(I)I" } : Jvm.MethodName) ({ cls := "DropsDance$Rules", name := "value", desc := "(I)I" } : Jvm.MethodName) ∈ TB := tb_in3 (i := 91) rfl rfl
theorem t_3_92 : Jvm.Cond.code ({ cls := "DropsDance$Rules", name := "value", desc := "(I)I" } : Jvm.MethodName) prog_7_method_4_code (2 : Nat) (Option.some Jvm.ClassFile.FieldType.int) ∈ TB := tb_in3 (i := 92) rfl rfl
theorem t_3_93 : Jvm.Cond.methodLink "DropsDance" (103 : Nat) ({ cls := "DropsDance$Rules", name := "takeAll", desc := "(LDropsDance$Rules;)V" } : Jvm.MethodName) ∈ TB := tb_in3 (i := 93) rfl rfl
theorem t_3_94 : Jvm.Cond.instanceMethod ({ cls := "DropsDance$Rules", name := "takeAll", desc := "(LDropsDance$Rules;)V" } : Jvm.MethodName) ∈ TB := tb_in3 (i := 94) rfl rfl
theorem t_3_95 : Jvm.Cond.selects "DropsDance$Rules" ({ cls := "DropsDance$Rules", name := "takeAll", desc := "(LDropsDance$Rules;)V" } : Jvm.MethodName) ({ cls := "DropsDance$Rules", name := "takeAll", desc := "(LDropsDance$Rules;)V" } : Jvm.MethodName) ∈ TB := tb_in3 (i := 95) rfl rfl
theorem t_3_96 : Jvm.Cond.code ({ cls := "DropsDance$Rules", name := "takeAll", desc := "(LDropsDance$Rules;)V" } : Jvm.MethodName) prog_7_method_3_code (2 : Nat) (Option.none : Option Jvm.ClassFile.FieldType) ∈ TB := tb_in3 (i := 96) rfl rfl
theorem t_3_97 : Jvm.Cond.methodLink "DropsDance" (111 : Nat) ({ cls := "DropsDance$Scene", name := "beginAnew", desc := "([I)V" } : Jvm.MethodName) ∈ TB := tb_in3 (i := 97) rfl rfl
theorem t_3_98 : Jvm.Cond.instanceMethod ({ cls := "DropsDance$Scene", name := "beginAnew", desc := "([I)V" } : Jvm.MethodName) ∈ TB := tb_in3 (i := 98) rfl rfl
theorem t_3_99 : Jvm.Cond.selects "DropsDance$Scene" ({ cls := "DropsDance$Scene", name := "beginAnew", desc := "([I)V" } : Jvm.MethodName) ({ cls := "DropsDance$Scene", name := "beginAnew", desc := "([I)V" } : Jvm.MethodName) ∈ TB := tb_in3 (i := 99) rfl rfl
theorem t_3_100 : Jvm.Cond.code ({ cls := "DropsDance$Scene", name := "beginAnew", desc := "([I)V" } : Jvm.MethodName) prog_8_method_3_code (2 : Nat) (Option.none : Option Jvm.ClassFile.FieldType) ∈ TB := tb_in3 (i := 100) rfl rfl
theorem t_3_101 : Jvm.Cond.methodLink "DropsDance$Scene" (67 : Nat) ({ cls := "java/lang/Math", name := "min", desc := "(II)I" } : Jvm.MethodName) ∈ TB := tb_in3 (i := 101) rfl rfl
theorem t_3_102 : Jvm.Cond.methodLink "DropsDance$Scene" (57 : Nat) ({ cls := "java/lang/System", name := "arraycopy", desc := "(Ljava/lang/Object;ILjava/lang/Object;II)V" } : Jvm.MethodName) ∈ TB := tb_in3 (i := 102) rfl rfl
theorem t_3_103 : Jvm.Cond.methodLink "DropsDance$Scene" (73 : Nat) ({ cls := "DropsDance$Scene", name := "clearDrops", desc := "()V" } : Jvm.MethodName) ∈ TB := tb_in3 (i := 103) rfl rfl
theorem t_3_104 : Jvm.Cond.instanceMethod ({ cls := "DropsDance$Scene", name := "clearDrops", desc := "()V" } : Jvm.MethodName) ∈ TB := tb_in3 (i := 104) rfl rfl
theorem t_3_105 : Jvm.Cond.selects "DropsDance$Scene" ({ cls := "DropsDance$Scene", name := "clearDrops", desc := "()V" } : Jvm.MethodName) ({ cls := "DropsDance$Scene", name := "clearDrops", desc := "()V" } : Jvm.MethodName) ∈ TB := tb_in3 (i := 105) rfl rfl
theorem t_3_106 : Jvm.Cond.code ({ cls := "DropsDance$Scene", name := "clearDrops", desc := "()V" } : Jvm.MethodName) prog_8_method_5_code (1 : Nat) (Option.none : Option Jvm.ClassFile.FieldType) ∈ TB := tb_in3 (i := 106) rfl rfl
theorem t_3_107 : Jvm.Cond.methodLink "DropsDanceLaw" (30 : Nat) ({ cls := "DropsDance", name := "fault", desc := "()I" } : Jvm.MethodName) ∈ TB := tb_in3 (i := 107) rfl rfl
theorem t_3_108 : Jvm.Cond.instanceMethod ({ cls := "DropsDance", name := "fault", desc := "()I" } : Jvm.MethodName) ∈ TB := tb_in3 (i := 108) rfl rfl
theorem t_3_109 : Jvm.Cond.selects "DropsDance" ({ cls := "DropsDance", name := "fault", desc := "()I" } : Jvm.MethodName) ({ cls := "DropsDance", name := "fault", desc := "()I" } : Jvm.MethodName) ∈ TB := tb_in3 (i := 109) rfl rfl
theorem t_3_110 : Jvm.Cond.code ({ cls := "DropsDance", name := "fault", desc := "()I" } : Jvm.MethodName) prog_1_method_5_code (1 : Nat) (Option.some Jvm.ClassFile.FieldType.int) ∈ TB := tb_in3 (i := 110) rfl rfl
theorem t_3_111 : Jvm.Cond.methodLink "DropsDanceLaw" (34 : Nat) ({ cls := "DropsDance", name := "rule", desc := "(I)I" } : Jvm.MethodName) ∈ TB := tb_in3 (i := 111) rfl rfl
theorem t_3_112 : Jvm.Cond.instanceMethod ({ cls := "DropsDance", name := "rule", desc := "(I)I" } : Jvm.MethodName) ∈ TB := tb_in3 (i := 112) rfl rfl
theorem t_3_113 : Jvm.Cond.selects "DropsDance" ({ cls := "DropsDance", name := "rule", desc := "(I)I" } : Jvm.MethodName) ({ cls := "DropsDance", name := "rule", desc := "(I)I" } : Jvm.MethodName) ∈ TB := tb_in3 (i := 113) rfl rfl
theorem t_3_114 : Jvm.Cond.code ({ cls := "DropsDance", name := "rule", desc := "(I)I" } : Jvm.MethodName) prog_1_method_6_code (2 : Nat) (Option.some Jvm.ClassFile.FieldType.int) ∈ TB := tb_in3 (i := 114) rfl rfl
theorem t_3_115 : Jvm.Cond.methodLink "DropsDance" (125 : Nat) ({ cls := "DropsDance$Rules", name := "value", desc := "(I)I" } : Jvm.MethodName) ∈ TB := tb_in3 (i := 115) rfl rfl
theorem t_3_116 : Jvm.Cond.methodLink "DropsDanceLaw" (38 : Nat) ({ cls := "DropsDance", name := "cell", desc := "(I)I" } : Jvm.MethodName) ∈ TB := tb_in3 (i := 116) rfl rfl
theorem t_3_117 : Jvm.Cond.instanceMethod ({ cls := "DropsDance", name := "cell", desc := "(I)I" } : Jvm.MethodName) ∈ TB := tb_in3 (i := 117) rfl rfl
theorem t_3_118 : Jvm.Cond.selects "DropsDance" ({ cls := "DropsDance", name := "cell", desc := "(I)I" } : Jvm.MethodName) ({ cls := "DropsDance", name := "cell", desc := "(I)I" } : Jvm.MethodName) ∈ TB := tb_in3 (i := 118) rfl rfl
theorem t_3_119 : Jvm.Cond.code ({ cls := "DropsDance", name := "cell", desc := "(I)I" } : Jvm.MethodName) prog_1_method_7_code (2 : Nat) (Option.some Jvm.ClassFile.FieldType.int) ∈ TB := tb_in3 (i := 119) rfl rfl
theorem t_3_120 : Jvm.Cond.methodLink "DropsDance" (129 : Nat) ({ cls := "DropsDance", name := "isCell", desc := "(I)Z" } : Jvm.MethodName) ∈ TB := tb_in3 (i := 120) rfl rfl
theorem t_3_121 : Jvm.Cond.static ({ cls := "DropsDance", name := "isCell", desc := "(I)Z" } : Jvm.MethodName) ∈ TB := tb_in3 (i := 121) rfl rfl
theorem t_3_122 : Jvm.Cond.code ({ cls := "DropsDance", name := "isCell", desc := "(I)Z" } : Jvm.MethodName) prog_1_method_41_code (1 : Nat) (Option.some Jvm.ClassFile.FieldType.boolean) ∈ TB := tb_in3 (i := 122) rfl rfl
theorem t_3_123 : Jvm.Cond.methodLink "DropsDance" (133 : Nat) ({ cls := "DropsDance$Scene", name := "kindAt", desc := "(I)I" } : Jvm.MethodName) ∈ TB := tb_in3 (i := 123) rfl rfl
theorem t_3_124 : Jvm.Cond.instanceMethod ({ cls := "DropsDance$Scene", name := "kindAt", desc := "(I)I" } : Jvm.MethodName) ∈ TB := tb_in3 (i := 124) rfl rfl
theorem t_3_125 : Jvm.Cond.selects "DropsDance$Scene" ({ cls := "DropsDance$Scene", name := "kindAt", desc := "(I)I" } : Jvm.MethodName) ({ cls := "DropsDance$Scene", name := "kindAt", desc := "(I)I" } : Jvm.MethodName) ∈ TB := tb_in3 (i := 125) rfl rfl
theorem t_3_126 : Jvm.Cond.code ({ cls := "DropsDance$Scene", name := "kindAt", desc := "(I)I" } : Jvm.MethodName) prog_8_method_7_code (2 : Nat) (Option.some Jvm.ClassFile.FieldType.int) ∈ TB := tb_in3 (i := 126) rfl rfl
theorem t_3_127 : Jvm.Cond.methodLink "DropsDanceLaw" (42 : Nat) ({ cls := "DropsDance", name := "put", desc := "(II)I" } : Jvm.MethodName) ∈ TB := tb_in3 (i := 127) rfl rfl
theorem t_3_128 : Jvm.Cond.instanceMethod ({ cls := "DropsDance", name := "put", desc := "(II)I" } : Jvm.MethodName) ∈ TB := tb_in3 (i := 128) rfl rfl
theorem t_3_129 : Jvm.Cond.selects "DropsDance" ({ cls := "DropsDance", name := "put", desc := "(II)I" } : Jvm.MethodName) ({ cls := "DropsDance", name := "put", desc := "(II)I" } : Jvm.MethodName) ∈ TB := tb_in3 (i := 129) rfl rfl
theorem t_3_130 : Jvm.Cond.code ({ cls := "DropsDance", name := "put", desc := "(II)I" } : Jvm.MethodName) prog_1_method_8_code (4 : Nat) (Option.some Jvm.ClassFile.FieldType.int) ∈ TB := tb_in3 (i := 130) rfl rfl
theorem t_3_131 : Jvm.Cond.methodLink "DropsDance" (136 : Nat) ({ cls := "DropsDance$Scene", name := "dropAt", desc := "(I)I" } : Jvm.MethodName) ∈ TB := tb_in3 (i := 131) rfl rfl
theorem t_3_132 : Jvm.Cond.instanceMethod ({ cls := "DropsDance$Scene", name := "dropAt", desc := "(I)I" } : Jvm.MethodName) ∈ TB := tb_in3 (i := 132) rfl rfl
theorem t_3_133 : Jvm.Cond.selects "DropsDance$Scene" ({ cls := "DropsDance$Scene", name := "dropAt", desc := "(I)I" } : Jvm.MethodName) ({ cls := "DropsDance$Scene", name := "dropAt", desc := "(I)I" } : Jvm.MethodName) ∈ TB := tb_in3 (i := 133) rfl rfl
theorem t_3_134 : Jvm.Cond.code ({ cls := "DropsDance$Scene", name := "dropAt", desc := "(I)I" } : Jvm.MethodName) prog_8_method_10_code (3 : Nat) (Option.some Jvm.ClassFile.FieldType.int) ∈ TB := tb_in3 (i := 134) rfl rfl
theorem t_3_135 : Jvm.Cond.methodLink "DropsDanceLaw" (47 : Nat) ({ cls := "DropsDance", name := "heat", desc := "(I)I" } : Jvm.MethodName) ∈ TB := tb_in3 (i := 135) rfl rfl
theorem t_3_136 : Jvm.Cond.instanceMethod ({ cls := "DropsDance", name := "heat", desc := "(I)I" } : Jvm.MethodName) ∈ TB := tb_in3 (i := 136) rfl rfl
theorem t_3_137 : Jvm.Cond.selects "DropsDance" ({ cls := "DropsDance", name := "heat", desc := "(I)I" } : Jvm.MethodName) ({ cls := "DropsDance", name := "heat", desc := "(I)I" } : Jvm.MethodName) ∈ TB := tb_in3 (i := 137) rfl rfl
theorem t_3_138 : Jvm.Cond.code ({ cls := "DropsDance", name := "heat", desc := "(I)I" } : Jvm.MethodName) prog_1_method_9_code (2 : Nat) (Option.some Jvm.ClassFile.FieldType.int) ∈ TB := tb_in3 (i := 138) rfl rfl
theorem t_3_139 : Jvm.Cond.methodLink "DropsDance" (140 : Nat) ({ cls := "DropsDance", name := "isHeat", desc := "(I)Z" } : Jvm.MethodName) ∈ TB := tb_in3 (i := 139) rfl rfl
theorem t_3_140 : Jvm.Cond.static ({ cls := "DropsDance", name := "isHeat", desc := "(I)Z" } : Jvm.MethodName) ∈ TB := tb_in3 (i := 140) rfl rfl
theorem t_3_141 : Jvm.Cond.code ({ cls := "DropsDance", name := "isHeat", desc := "(I)Z" } : Jvm.MethodName) prog_1_method_44_code (1 : Nat) (Option.some Jvm.ClassFile.FieldType.boolean) ∈ TB := tb_in3 (i := 141) rfl rfl
theorem t_3_142 : Jvm.Cond.methodLink "DropsDance" (149 : Nat) ({ cls := "DropsDance$Rules", name := "floatsAt", desc := "(IZ)Z" } : Jvm.MethodName) ∈ TB := tb_in3 (i := 142) rfl rfl
theorem t_3_143 : Jvm.Cond.instanceMethod ({ cls := "DropsDance$Rules", name := "floatsAt", desc := "(IZ)Z" } : Jvm.MethodName) ∈ TB := tb_in3 (i := 143) rfl rfl
theorem t_3_144 : Jvm.Cond.selects "DropsDance$Rules" ({ cls := "DropsDance$Rules", name := "floatsAt", desc := "(IZ)Z" } : Jvm.MethodName) ({ cls := "DropsDance$Rules", name := "floatsAt", desc := "(IZ)Z" } : Jvm.MethodName) ∈ TB := tb_in3 (i := 144) rfl rfl
theorem t_3_145 : Jvm.Cond.code ({ cls := "DropsDance$Rules", name := "floatsAt", desc := "(IZ)Z" } : Jvm.MethodName) prog_7_method_6_code (3 : Nat) (Option.some Jvm.ClassFile.FieldType.boolean) ∈ TB := tb_in3 (i := 145) rfl rfl
theorem t_3_146 : Jvm.Cond.methodLink "DropsDanceLaw" (51 : Nat) ({ cls := "DropsDance", name := "drop", desc := "(III)I" } : Jvm.MethodName) ∈ TB := tb_in3 (i := 146) rfl rfl
theorem t_3_147 : Jvm.Cond.instanceMethod ({ cls := "DropsDance", name := "drop", desc := "(III)I" } : Jvm.MethodName) ∈ TB := tb_in3 (i := 147) rfl rfl
theorem t_3_148 : Jvm.Cond.selects "DropsDance" ({ cls := "DropsDance", name := "drop", desc := "(III)I" } : Jvm.MethodName) ({ cls := "DropsDance", name := "drop", desc := "(III)I" } : Jvm.MethodName) ∈ TB := tb_in3 (i := 148) rfl rfl
theorem t_3_149 : Jvm.Cond.code ({ cls := "DropsDance", name := "drop", desc := "(III)I" } : Jvm.MethodName) prog_1_method_10_code (4 : Nat) (Option.some Jvm.ClassFile.FieldType.int) ∈ TB := tb_in3 (i := 149) rfl rfl
theorem t_3_150 : Jvm.Cond.methodLink "DropsDance" (153 : Nat) ({ cls := "DropsDance", name := "setDown", desc := "(III)I" } : Jvm.MethodName) ∈ TB := tb_in3 (i := 150) rfl rfl
theorem t_3_152 : Jvm.Cond.instanceMethod ({ cls := "DropsDance", name := "setDown", desc := "(III)I" } : Jvm.MethodName) ∈ TB := tb_in3 (i := 152) rfl rfl
theorem t_3_153 : Jvm.Cond.code ({ cls := "DropsDance", name := "setDown", desc := "(III)I" } : Jvm.MethodName) prog_1_method_38_code (4 : Nat) (Option.some Jvm.ClassFile.FieldType.int) ∈ TB := tb_in3 (i := 153) rfl rfl
theorem t_3_154 : Jvm.Cond.methodLink "DropsDance" (224 : Nat) ({ cls := "DropsDance", name := "isDropToBe", desc := "(III)Z" } : Jvm.MethodName) ∈ TB := tb_in3 (i := 154) rfl rfl
theorem t_3_155 : Jvm.Cond.static ({ cls := "DropsDance", name := "isDropToBe", desc := "(III)Z" } : Jvm.MethodName) ∈ TB := tb_in3 (i := 155) rfl rfl
theorem t_3_156 : Jvm.Cond.code ({ cls := "DropsDance", name := "isDropToBe", desc := "(III)Z" } : Jvm.MethodName) prog_1_method_47_code (3 : Nat) (Option.some Jvm.ClassFile.FieldType.boolean) ∈ TB := tb_in3 (i := 156) rfl rfl
theorem t_3_157 : Jvm.Cond.methodLink "DropsDance" (278 : Nat) ({ cls := "DropsDance", name := "isSize", desc := "(I)Z" } : Jvm.MethodName) ∈ TB := tb_in3 (i := 157) rfl rfl
theorem t_3_158 : Jvm.Cond.static ({ cls := "DropsDance", name := "isSize", desc := "(I)Z" } : Jvm.MethodName) ∈ TB := tb_in3 (i := 158) rfl rfl
theorem t_3_159 : Jvm.Cond.code ({ cls := "DropsDance", name := "isSize", desc := "(I)Z" } : Jvm.MethodName) prog_1_method_43_code (1 : Nat) (Option.some Jvm.ClassFile.FieldType.boolean) ∈ TB := tb_in3 (i := 159) rfl rfl
theorem t_3_160 : Jvm.Cond.methodLink "DropsDance" (255 : Nat) ({ cls := "DropsDance", name := "isWay", desc := "(I)Z" } : Jvm.MethodName) ∈ TB := tb_in3 (i := 160) rfl rfl
theorem t_3_161 : Jvm.Cond.static ({ cls := "DropsDance", name := "isWay", desc := "(I)Z" } : Jvm.MethodName) ∈ TB := tb_in3 (i := 161) rfl rfl
theorem t_3_162 : Jvm.Cond.code ({ cls := "DropsDance", name := "isWay", desc := "(I)Z" } : Jvm.MethodName) prog_1_method_42_code (1 : Nat) (Option.some Jvm.ClassFile.FieldType.boolean) ∈ TB := tb_in3 (i := 162) rfl rfl
theorem t_3_163 : Jvm.Cond.methodLink "DropsDance" (227 : Nat) ({ cls := "DropsDance$Scene", name := "isOpen", desc := "(I)Z" } : Jvm.MethodName) ∈ TB := tb_in3 (i := 163) rfl rfl
theorem t_3_164 : Jvm.Cond.instanceMethod ({ cls := "DropsDance$Scene", name := "isOpen", desc := "(I)Z" } : Jvm.MethodName) ∈ TB := tb_in3 (i := 164) rfl rfl
theorem t_3_165 : Jvm.Cond.selects "DropsDance$Scene" ({ cls := "DropsDance$Scene", name := "isOpen", desc := "(I)Z" } : Jvm.MethodName) ({ cls := "DropsDance$Scene", name := "isOpen", desc := "(I)Z" } : Jvm.MethodName) ∈ TB := tb_in3 (i := 165) rfl rfl
theorem t_3_166 : Jvm.Cond.code ({ cls := "DropsDance$Scene", name := "isOpen", desc := "(I)Z" } : Jvm.MethodName) prog_8_method_8_code (3 : Nat) (Option.some Jvm.ClassFile.FieldType.boolean) ∈ TB := tb_in3 (i := 166) rfl rfl
theorem t_3_167 : Jvm.Cond.methodLink "DropsDance$Scene" (84 : Nat) ({ cls := "DropsDance$Scene", name := "kindAt", desc := "(I)I" } : Jvm.MethodName) ∈ TB := tb_in3 (i := 167) rfl rfl
theorem t_3_168 : Jvm.Cond.methodLink "DropsDance" (360 : Nat) ({ cls := "DropsDance$Scene", name := "addDrop", desc := "(III)I" } : Jvm.MethodName) ∈ TB := tb_in3 (i := 168) rfl rfl
theorem t_3_169 : Jvm.Cond.instanceMethod ({ cls := "DropsDance$Scene", name := "addDrop", desc := "(III)I" } : Jvm.MethodName) ∈ TB := tb_in3 (i := 169) rfl rfl
theorem t_3_170 : Jvm.Cond.selects "DropsDance$Scene" ({ cls := "DropsDance$Scene", name := "addDrop", desc := "(III)I" } : Jvm.MethodName) ({ cls := "DropsDance$Scene", name := "addDrop", desc := "(III)I" } : Jvm.MethodName) ∈ TB := tb_in3 (i := 170) rfl rfl
theorem t_3_171 : Jvm.Cond.code ({ cls := "DropsDance$Scene", name := "addDrop", desc := "(III)I" } : Jvm.MethodName) prog_8_method_6_code (4 : Nat) (Option.some Jvm.ClassFile.FieldType.int) ∈ TB := tb_in3 (i := 171) rfl rfl
theorem t_3_172 : Jvm.Cond.methodLink "DropsDance$Scene" (80 : Nat) ({ cls := "DropsDance$Drop", name := "begin", desc := "(III)V" } : Jvm.MethodName) ∈ TB := tb_in3 (i := 172) rfl rfl
theorem t_3_173 : Jvm.Cond.instanceMethod ({ cls := "DropsDance$Drop", name := "begin", desc := "(III)V" } : Jvm.MethodName) ∈ TB := tb_in3 (i := 173) rfl rfl
theorem t_3_174 : Jvm.Cond.selects "DropsDance$Drop" ({ cls := "DropsDance$Drop", name := "begin", desc := "(III)V" } : Jvm.MethodName) ({ cls := "DropsDance$Drop", name := "begin", desc := "(III)V" } : Jvm.MethodName) ∈ TB := tb_in3 (i := 174) rfl rfl
theorem t_3_175 : Jvm.Cond.code ({ cls := "DropsDance$Drop", name := "begin", desc := "(III)V" } : Jvm.MethodName) prog_2_method_2_code (4 : Nat) (Option.none : Option Jvm.ClassFile.FieldType) ∈ TB := tb_in3 (i := 175) rfl rfl
theorem t_3_176 : Jvm.Cond.methodLink "DropsDanceLaw" (56 : Nat) ({ cls := "DropsDance", name := "go", desc := "(I)I" } : Jvm.MethodName) ∈ TB := tb_in3 (i := 176) rfl rfl
theorem t_3_177 : Jvm.Cond.instanceMethod ({ cls := "DropsDance", name := "go", desc := "(I)I" } : Jvm.MethodName) ∈ TB := tb_in3 (i := 177) rfl rfl
theorem t_3_178 : Jvm.Cond.selects "DropsDance" ({ cls := "DropsDance", name := "go", desc := "(I)I" } : Jvm.MethodName) ({ cls := "DropsDance", name := "go", desc := "(I)I" } : Jvm.MethodName) ∈ TB := tb_in3 (i := 178) rfl rfl
theorem t_3_179 : Jvm.Cond.code ({ cls := "DropsDance", name := "go", desc := "(I)I" } : Jvm.MethodName) prog_1_method_11_code (4 : Nat) (Option.some Jvm.ClassFile.FieldType.int) ∈ TB := tb_in3 (i := 179) rfl rfl
theorem t_3_180 : Jvm.Cond.methodLink "DropsDance" (157 : Nat) ({ cls := "DropsDance$Scene", name := "passTick", desc := "(LDropsDance$Rules;I)V" } : Jvm.MethodName) ∈ TB := tb_in3 (i := 180) rfl rfl
theorem t_3_181 : Jvm.Cond.instanceMethod ({ cls := "DropsDance$Scene", name := "passTick", desc := "(LDropsDance$Rules;I)V" } : Jvm.MethodName) ∈ TB := tb_in3 (i := 181) rfl rfl
theorem t_3_182 : Jvm.Cond.selects "DropsDance$Scene" ({ cls := "DropsDance$Scene", name := "passTick", desc := "(LDropsDance$Rules;I)V" } : Jvm.MethodName) ({ cls := "DropsDance$Scene", name := "passTick", desc := "(LDropsDance$Rules;I)V" } : Jvm.MethodName) ∈ TB := tb_in3 (i := 182) rfl rfl
theorem t_3_183 : Jvm.Cond.code ({ cls := "DropsDance$Scene", name := "passTick", desc := "(LDropsDance$Rules;I)V" } : Jvm.MethodName) prog_8_method_15_code (5 : Nat) (Option.none : Option Jvm.ClassFile.FieldType) ∈ TB := tb_in3 (i := 183) rfl rfl
theorem t_3_184 : Jvm.Cond.methodLink "DropsDance$Scene" (97 : Nat) ({ cls := "DropsDance$Scene", name := "touches", desc := "(LDropsDance$Drop;)Z" } : Jvm.MethodName) ∈ TB := tb_in3 (i := 184) rfl rfl
theorem t_3_185 : Jvm.Cond.instanceMethod ({ cls := "DropsDance$Scene", name := "touches", desc := "(LDropsDance$Drop;)Z" } : Jvm.MethodName) ∈ TB := tb_in3 (i := 185) rfl rfl
theorem t_3_186 : Jvm.Cond.selects "DropsDance$Scene" ({ cls := "DropsDance$Scene", name := "touches", desc := "(LDropsDance$Drop;)Z" } : Jvm.MethodName) ({ cls := "DropsDance$Scene", name := "touches", desc := "(LDropsDance$Drop;)Z" } : Jvm.MethodName) ∈ TB := tb_in3 (i := 186) rfl rfl
theorem t_3_187 : Jvm.Cond.code ({ cls := "DropsDance$Scene", name := "touches", desc := "(LDropsDance$Drop;)Z" } : Jvm.MethodName) prog_8_method_14_code (2 : Nat) (Option.some Jvm.ClassFile.FieldType.boolean) ∈ TB := tb_in3 (i := 187) rfl rfl
theorem t_3_188 : Jvm.Cond.methodLink "DropsDance$Scene" (101 : Nat) ({ cls := "DropsDance$Rules", name := "lossTouching", desc := "(I)I" } : Jvm.MethodName) ∈ TB := tb_in3 (i := 188) rfl rfl
theorem t_3_189 : Jvm.Cond.instanceMethod ({ cls := "DropsDance$Rules", name := "lossTouching", desc := "(I)I" } : Jvm.MethodName) ∈ TB := tb_in3 (i := 189) rfl rfl
theorem t_3_190 : Jvm.Cond.selects "DropsDance$Rules" ({ cls := "DropsDance$Rules", name := "lossTouching", desc := "(I)I" } : Jvm.MethodName) ({ cls := "DropsDance$Rules", name := "lossTouching", desc := "(I)I" } : Jvm.MethodName) ∈ TB := tb_in3 (i := 190) rfl rfl
theorem t_3_191 : Jvm.Cond.code ({ cls := "DropsDance$Rules", name := "lossTouching", desc := "(I)I" } : Jvm.MethodName) prog_7_method_11_code (3 : Nat) (Option.some Jvm.ClassFile.FieldType.int) ∈ TB := tb_in3 (i := 191) rfl rfl
theorem t_3_192 : Jvm.Cond.methodLink "DropsDance$Scene" (106 : Nat) ({ cls := "DropsDance$Scene", name := "loseSteam", desc := "(LDropsDance$Drop;I)V" } : Jvm.MethodName) ∈ TB := tb_in3 (i := 192) rfl rfl
theorem t_3_194 : Jvm.Cond.instanceMethod ({ cls := "DropsDance$Scene", name := "loseSteam", desc := "(LDropsDance$Drop;I)V" } : Jvm.MethodName) ∈ TB := tb_in3 (i := 194) rfl rfl
theorem t_3_195 : Jvm.Cond.code ({ cls := "DropsDance$Scene", name := "loseSteam", desc := "(LDropsDance$Drop;I)V" } : Jvm.MethodName) prog_8_method_16_code (4 : Nat) (Option.none : Option Jvm.ClassFile.FieldType) ∈ TB := tb_in3 (i := 195) rfl rfl
theorem t_3_196 : Jvm.Cond.methodLink "DropsDance$Scene" (114 : Nat) ({ cls := "DropsDance$Scene", name := "leave", desc := "(LDropsDance$Drop;I)V" } : Jvm.MethodName) ∈ TB := tb_in3 (i := 196) rfl rfl
theorem t_3_198 : Jvm.Cond.instanceMethod ({ cls := "DropsDance$Scene", name := "leave", desc := "(LDropsDance$Drop;I)V" } : Jvm.MethodName) ∈ TB := tb_in3 (i := 198) rfl rfl
theorem t_3_199 : Jvm.Cond.code ({ cls := "DropsDance$Scene", name := "leave", desc := "(LDropsDance$Drop;I)V" } : Jvm.MethodName) prog_8_method_17_code (3 : Nat) (Option.none : Option Jvm.ClassFile.FieldType) ∈ TB := tb_in3 (i := 199) rfl rfl
theorem t_3_200 : Jvm.Cond.methodLink "DropsDance$Scene" (110 : Nat) ({ cls := "DropsDance$Scene", name := "floatOn", desc := "(LDropsDance$Drop;LDropsDance$Rules;I)V" } : Jvm.MethodName) ∈ TB := tb_in3 (i := 200) rfl rfl
theorem t_3_202 : Jvm.Cond.instanceMethod ({ cls := "DropsDance$Scene", name := "floatOn", desc := "(LDropsDance$Drop;LDropsDance$Rules;I)V" } : Jvm.MethodName) ∈ TB := tb_in3 (i := 202) rfl rfl
theorem t_3_203 : Jvm.Cond.code ({ cls := "DropsDance$Scene", name := "floatOn", desc := "(LDropsDance$Drop;LDropsDance$Rules;I)V" } : Jvm.MethodName) prog_8_method_18_code (4 : Nat) (Option.none : Option Jvm.ClassFile.FieldType) ∈ TB := tb_in3 (i := 203) rfl rfl
theorem t_3_204 : Jvm.Cond.methodLink "DropsDance$Scene" (120 : Nat) ({ cls := "DropsDance$Rules", name := "losesFloatingAt", desc := "(I)Z" } : Jvm.MethodName) ∈ TB := tb_in3 (i := 204) rfl rfl
theorem t_3_205 : Jvm.Cond.instanceMethod ({ cls := "DropsDance$Rules", name := "losesFloatingAt", desc := "(I)Z" } : Jvm.MethodName) ∈ TB := tb_in3 (i := 205) rfl rfl
theorem t_3_206 : Jvm.Cond.selects "DropsDance$Rules" ({ cls := "DropsDance$Rules", name := "losesFloatingAt", desc := "(I)Z" } : Jvm.MethodName) ({ cls := "DropsDance$Rules", name := "losesFloatingAt", desc := "(I)Z" } : Jvm.MethodName) ∈ TB := tb_in3 (i := 206) rfl rfl
theorem t_3_207 : Jvm.Cond.code ({ cls := "DropsDance$Rules", name := "losesFloatingAt", desc := "(I)Z" } : Jvm.MethodName) prog_7_method_9_code (3 : Nat) (Option.some Jvm.ClassFile.FieldType.boolean) ∈ TB := tb_in3 (i := 207) rfl rfl
theorem t_3_208 : Jvm.Cond.methodLink "DropsDance$Scene" (124 : Nat) ({ cls := "DropsDance$Rules", name := "lossFloating", desc := "(I)I" } : Jvm.MethodName) ∈ TB := tb_in3 (i := 208) rfl rfl
theorem t_3_209 : Jvm.Cond.instanceMethod ({ cls := "DropsDance$Rules", name := "lossFloating", desc := "(I)I" } : Jvm.MethodName) ∈ TB := tb_in3 (i := 209) rfl rfl
theorem t_3_210 : Jvm.Cond.selects "DropsDance$Rules" ({ cls := "DropsDance$Rules", name := "lossFloating", desc := "(I)I" } : Jvm.MethodName) ({ cls := "DropsDance$Rules", name := "lossFloating", desc := "(I)I" } : Jvm.MethodName) ∈ TB := tb_in3 (i := 210) rfl rfl
theorem t_3_211 : Jvm.Cond.code ({ cls := "DropsDance$Rules", name := "lossFloating", desc := "(I)I" } : Jvm.MethodName) prog_7_method_10_code (2 : Nat) (Option.some Jvm.ClassFile.FieldType.int) ∈ TB := tb_in3 (i := 211) rfl rfl
theorem t_3_212 : Jvm.Cond.methodLink "DropsDance$Rules" (27 : Nat) ({ cls := "DropsDance$Rules", name := "hasChimney", desc := "(I)Z" } : Jvm.MethodName) ∈ TB := tb_in3 (i := 212) rfl rfl
theorem t_3_213 : Jvm.Cond.instanceMethod ({ cls := "DropsDance$Rules", name := "hasChimney", desc := "(I)Z" } : Jvm.MethodName) ∈ TB := tb_in3 (i := 213) rfl rfl
theorem t_3_214 : Jvm.Cond.selects "DropsDance$Rules" ({ cls := "DropsDance$Rules", name := "hasChimney", desc := "(I)Z" } : Jvm.MethodName) ({ cls := "DropsDance$Rules", name := "hasChimney", desc := "(I)Z" } : Jvm.MethodName) ∈ TB := tb_in3 (i := 214) rfl rfl
theorem t_3_215 : Jvm.Cond.code ({ cls := "DropsDance$Rules", name := "hasChimney", desc := "(I)Z" } : Jvm.MethodName) prog_7_method_8_code (2 : Nat) (Option.some Jvm.ClassFile.FieldType.boolean) ∈ TB := tb_in3 (i := 215) rfl rfl
theorem t_3_216 : Jvm.Cond.methodLink "DropsDance$Scene" (127 : Nat) ({ cls := "DropsDance$Rules", name := "value", desc := "(I)I" } : Jvm.MethodName) ∈ TB := tb_in3 (i := 216) rfl rfl
theorem t_3_217 : Jvm.Cond.methodLink "DropsDance$Scene" (130 : Nat) ({ cls := "DropsDance$Scene", name := "wayOf", desc := "(LDropsDance$Drop;LDropsDance$Rules;I)I" } : Jvm.MethodName) ∈ TB := tb_in3 (i := 217) rfl rfl
theorem t_3_218 : Jvm.Cond.instanceMethod ({ cls := "DropsDance$Scene", name := "wayOf", desc := "(LDropsDance$Drop;LDropsDance$Rules;I)I" } : Jvm.MethodName) ∈ TB := tb_in3 (i := 218) rfl rfl
theorem t_3_219 : Jvm.Cond.selects "DropsDance$Scene" ({ cls := "DropsDance$Scene", name := "wayOf", desc := "(LDropsDance$Drop;LDropsDance$Rules;I)I" } : Jvm.MethodName) ({ cls := "DropsDance$Scene", name := "wayOf", desc := "(LDropsDance$Drop;LDropsDance$Rules;I)I" } : Jvm.MethodName) ∈ TB := tb_in3 (i := 219) rfl rfl
theorem t_3_220 : Jvm.Cond.code ({ cls := "DropsDance$Scene", name := "wayOf", desc := "(LDropsDance$Drop;LDropsDance$Rules;I)I" } : Jvm.MethodName) prog_8_method_20_code (5 : Nat) (Option.some Jvm.ClassFile.FieldType.int) ∈ TB := tb_in3 (i := 220) rfl rfl
theorem t_3_221 : Jvm.Cond.methodLink "DropsDance$Scene" (143 : Nat) ({ cls := "DropsDance$Rules", name := "teethSend", desc := "(I)Z" } : Jvm.MethodName) ∈ TB := tb_in3 (i := 221) rfl rfl
theorem t_3_222 : Jvm.Cond.instanceMethod ({ cls := "DropsDance$Rules", name := "teethSend", desc := "(I)Z" } : Jvm.MethodName) ∈ TB := tb_in3 (i := 222) rfl rfl
theorem t_3_223 : Jvm.Cond.selects "DropsDance$Rules" ({ cls := "DropsDance$Rules", name := "teethSend", desc := "(I)Z" } : Jvm.MethodName) ({ cls := "DropsDance$Rules", name := "teethSend", desc := "(I)Z" } : Jvm.MethodName) ∈ TB := tb_in3 (i := 223) rfl rfl
theorem t_3_224 : Jvm.Cond.code ({ cls := "DropsDance$Rules", name := "teethSend", desc := "(I)Z" } : Jvm.MethodName) prog_7_method_7_code (2 : Nat) (Option.some Jvm.ClassFile.FieldType.boolean) ∈ TB := tb_in3 (i := 224) rfl rfl
theorem t_3_225 : Jvm.Cond.methodLink "DropsDance$Scene" (149 : Nat) ({ cls := "DropsDance$Scene", name := "drawWay", desc := "()I" } : Jvm.MethodName) ∈ TB := tb_in3 (i := 225) rfl rfl
theorem t_3_227 : Jvm.Cond.instanceMethod ({ cls := "DropsDance$Scene", name := "drawWay", desc := "()I" } : Jvm.MethodName) ∈ TB := tb_in3 (i := 227) rfl rfl
theorem t_3_228 : Jvm.Cond.code ({ cls := "DropsDance$Scene", name := "drawWay", desc := "()I" } : Jvm.MethodName) prog_8_method_21_code (1 : Nat) (Option.some Jvm.ClassFile.FieldType.int) ∈ TB := tb_in3 (i := 228) rfl rfl
theorem t_3_229 : Jvm.Cond.constant "DropsDance$Scene" (153 : Nat) (1103515245 : Int32) ∈ TB := tb_in3 (i := 229) rfl rfl
theorem t_3_230 : Jvm.Cond.methodLink "DropsDance$Scene" (134 : Nat) ({ cls := "DropsDance$Scene", name := "stepOn", desc := "(LDropsDance$Drop;I)V" } : Jvm.MethodName) ∈ TB := tb_in3 (i := 230) rfl rfl
theorem t_3_231 : Jvm.Cond.instanceMethod ({ cls := "DropsDance$Scene", name := "stepOn", desc := "(LDropsDance$Drop;I)V" } : Jvm.MethodName) ∈ TB := tb_in3 (i := 231) rfl rfl
theorem t_3_232 : Jvm.Cond.selects "DropsDance$Scene" ({ cls := "DropsDance$Scene", name := "stepOn", desc := "(LDropsDance$Drop;I)V" } : Jvm.MethodName) ({ cls := "DropsDance$Scene", name := "stepOn", desc := "(LDropsDance$Drop;I)V" } : Jvm.MethodName) ∈ TB := tb_in3 (i := 232) rfl rfl
theorem t_3_233 : Jvm.Cond.code ({ cls := "DropsDance$Scene", name := "stepOn", desc := "(LDropsDance$Drop;I)V" } : Jvm.MethodName) prog_8_method_22_code (4 : Nat) (Option.none : Option Jvm.ClassFile.FieldType) ∈ TB := tb_in3 (i := 233) rfl rfl
theorem t_3_235 : Jvm.Cond.static ({ cls := "DropsDance", name := "nextCell", desc := "(II)I" } : Jvm.MethodName) ∈ TB := tb_in3 (i := 235) rfl rfl
theorem t_3_236 : Jvm.Cond.code ({ cls := "DropsDance", name := "nextCell", desc := "(II)I" } : Jvm.MethodName) prog_1_method_48_code (4 : Nat) (Option.some Jvm.ClassFile.FieldType.int) ∈ TB := tb_in3 (i := 236) rfl rfl
theorem t_3_237 : Jvm.Cond.methodLink "DropsDance$Scene" (137 : Nat) ({ cls := "DropsDance$Scene", name := "joinWhoIsThere", desc := "(LDropsDance$Drop;)V" } : Jvm.MethodName) ∈ TB := tb_in3 (i := 237) rfl rfl
theorem t_3_239 : Jvm.Cond.instanceMethod ({ cls := "DropsDance$Scene", name := "joinWhoIsThere", desc := "(LDropsDance$Drop;)V" } : Jvm.MethodName) ∈ TB := tb_in3 (i := 239) rfl rfl
theorem t_4_0 : Jvm.Cond.code ({ cls := "DropsDance$Scene", name := "joinWhoIsThere", desc := "(LDropsDance$Drop;)V" } : Jvm.MethodName) prog_8_method_19_code (4 : Nat) (Option.none : Option Jvm.ClassFile.FieldType) ∈ TB := tb_in4 (i := 0) rfl rfl
theorem t_4_1 : Jvm.Cond.methodLink "DropsDance" (161 : Nat) ({ cls := "DropsDance$Scene", name := "howManyThere", desc := "()I" } : Jvm.MethodName) ∈ TB := tb_in4 (i := 1) rfl rfl
theorem t_4_2 : Jvm.Cond.instanceMethod ({ cls := "DropsDance$Scene", name := "howManyThere", desc := "()I" } : Jvm.MethodName) ∈ TB := tb_in4 (i := 2) rfl rfl
theorem t_4_3 : Jvm.Cond.selects "DropsDance$Scene" ({ cls := "DropsDance$Scene", name := "howManyThere", desc := "()I" } : Jvm.MethodName) ({ cls := "DropsDance$Scene", name := "howManyThere", desc := "()I" } : Jvm.MethodName) ∈ TB := tb_in4 (i := 3) rfl rfl
theorem t_4_4 : Jvm.Cond.code ({ cls := "DropsDance$Scene", name := "howManyThere", desc := "()I" } : Jvm.MethodName) prog_8_method_11_code (3 : Nat) (Option.some Jvm.ClassFile.FieldType.int) ∈ TB := tb_in4 (i := 4) rfl rfl
theorem t_4_5 : Jvm.Cond.methodLink "DropsDanceLaw" (60 : Nat) ({ cls := "DropsDance", name := "seed", desc := "(I)I" } : Jvm.MethodName) ∈ TB := tb_in4 (i := 5) rfl rfl
theorem t_4_6 : Jvm.Cond.instanceMethod ({ cls := "DropsDance", name := "seed", desc := "(I)I" } : Jvm.MethodName) ∈ TB := tb_in4 (i := 6) rfl rfl
theorem t_4_7 : Jvm.Cond.selects "DropsDance" ({ cls := "DropsDance", name := "seed", desc := "(I)I" } : Jvm.MethodName) ({ cls := "DropsDance", name := "seed", desc := "(I)I" } : Jvm.MethodName) ∈ TB := tb_in4 (i := 7) rfl rfl
theorem t_4_8 : Jvm.Cond.code ({ cls := "DropsDance", name := "seed", desc := "(I)I" } : Jvm.MethodName) prog_1_method_12_code (3 : Nat) (Option.some Jvm.ClassFile.FieldType.int) ∈ TB := tb_in4 (i := 8) rfl rfl
theorem t_4_9 : Jvm.Cond.methodLink "DropsDanceLaw" (64 : Nat) ({ cls := "DropsDance", name := "of", desc := "(II)I" } : Jvm.MethodName) ∈ TB := tb_in4 (i := 9) rfl rfl
theorem t_4_10 : Jvm.Cond.instanceMethod ({ cls := "DropsDance", name := "of", desc := "(II)I" } : Jvm.MethodName) ∈ TB := tb_in4 (i := 10) rfl rfl
theorem t_4_11 : Jvm.Cond.selects "DropsDance" ({ cls := "DropsDance", name := "of", desc := "(II)I" } : Jvm.MethodName) ({ cls := "DropsDance", name := "of", desc := "(II)I" } : Jvm.MethodName) ∈ TB := tb_in4 (i := 11) rfl rfl
theorem t_4_12 : Jvm.Cond.code ({ cls := "DropsDance", name := "of", desc := "(II)I" } : Jvm.MethodName) prog_1_method_13_code (4 : Nat) (Option.some Jvm.ClassFile.FieldType.int) ∈ TB := tb_in4 (i := 12) rfl rfl
theorem t_4_13 : Jvm.Cond.methodLink "DropsDance" (168 : Nat) ({ cls := "DropsDance$Scene", name := "isDrop", desc := "(I)Z" } : Jvm.MethodName) ∈ TB := tb_in4 (i := 13) rfl rfl
theorem t_4_14 : Jvm.Cond.instanceMethod ({ cls := "DropsDance$Scene", name := "isDrop", desc := "(I)Z" } : Jvm.MethodName) ∈ TB := tb_in4 (i := 14) rfl rfl
theorem t_4_15 : Jvm.Cond.selects "DropsDance$Scene" ({ cls := "DropsDance$Scene", name := "isDrop", desc := "(I)Z" } : Jvm.MethodName) ({ cls := "DropsDance$Scene", name := "isDrop", desc := "(I)Z" } : Jvm.MethodName) ∈ TB := tb_in4 (i := 15) rfl rfl
theorem t_4_16 : Jvm.Cond.code ({ cls := "DropsDance$Scene", name := "isDrop", desc := "(I)Z" } : Jvm.MethodName) prog_8_method_9_code (2 : Nat) (Option.some Jvm.ClassFile.FieldType.boolean) ∈ TB := tb_in4 (i := 16) rfl rfl
theorem t_4_17 : Jvm.Cond.methodLink "DropsDanceLaw" (68 : Nat) ({ cls := "DropsDance", name := "at", desc := "(I)I" } : Jvm.MethodName) ∈ TB := tb_in4 (i := 17) rfl rfl
theorem t_4_18 : Jvm.Cond.instanceMethod ({ cls := "DropsDance", name := "at", desc := "(I)I" } : Jvm.MethodName) ∈ TB := tb_in4 (i := 18) rfl rfl
theorem t_4_19 : Jvm.Cond.selects "DropsDance" ({ cls := "DropsDance", name := "at", desc := "(I)I" } : Jvm.MethodName) ({ cls := "DropsDance", name := "at", desc := "(I)I" } : Jvm.MethodName) ∈ TB := tb_in4 (i := 19) rfl rfl
theorem t_4_20 : Jvm.Cond.code ({ cls := "DropsDance", name := "at", desc := "(I)I" } : Jvm.MethodName) prog_1_method_14_code (2 : Nat) (Option.some Jvm.ClassFile.FieldType.int) ∈ TB := tb_in4 (i := 20) rfl rfl
theorem t_4_21 : Jvm.Cond.methodLink "DropsDanceLaw" (72 : Nat) ({ cls := "DropsDance", name := "now", desc := "(I)I" } : Jvm.MethodName) ∈ TB := tb_in4 (i := 21) rfl rfl
theorem t_4_22 : Jvm.Cond.instanceMethod ({ cls := "DropsDance", name := "now", desc := "(I)I" } : Jvm.MethodName) ∈ TB := tb_in4 (i := 22) rfl rfl
theorem t_4_23 : Jvm.Cond.selects "DropsDance" ({ cls := "DropsDance", name := "now", desc := "(I)I" } : Jvm.MethodName) ({ cls := "DropsDance", name := "now", desc := "(I)I" } : Jvm.MethodName) ∈ TB := tb_in4 (i := 23) rfl rfl
theorem t_4_24 : Jvm.Cond.code ({ cls := "DropsDance", name := "now", desc := "(I)I" } : Jvm.MethodName) prog_1_method_15_code (2 : Nat) (Option.some Jvm.ClassFile.FieldType.int) ∈ TB := tb_in4 (i := 24) rfl rfl
theorem t_4_25 : Jvm.Cond.methodLink "DropsDance" (198 : Nat) ({ cls := "DropsDance$Scene", name := "sizesThere", desc := "()I" } : Jvm.MethodName) ∈ TB := tb_in4 (i := 25) rfl rfl
theorem t_4_26 : Jvm.Cond.instanceMethod ({ cls := "DropsDance$Scene", name := "sizesThere", desc := "()I" } : Jvm.MethodName) ∈ TB := tb_in4 (i := 26) rfl rfl
theorem t_4_27 : Jvm.Cond.selects "DropsDance$Scene" ({ cls := "DropsDance$Scene", name := "sizesThere", desc := "()I" } : Jvm.MethodName) ({ cls := "DropsDance$Scene", name := "sizesThere", desc := "()I" } : Jvm.MethodName) ∈ TB := tb_in4 (i := 27) rfl rfl
theorem t_4_28 : Jvm.Cond.code ({ cls := "DropsDance$Scene", name := "sizesThere", desc := "()I" } : Jvm.MethodName) prog_8_method_12_code (3 : Nat) (Option.some Jvm.ClassFile.FieldType.int) ∈ TB := tb_in4 (i := 28) rfl rfl
theorem t_4_29 : Jvm.Cond.methodLink "DropsDanceLaw" (76 : Nat) ({ cls := "DropsDance", name := "points", desc := "(I)I" } : Jvm.MethodName) ∈ TB := tb_in4 (i := 29) rfl rfl
theorem t_4_30 : Jvm.Cond.instanceMethod ({ cls := "DropsDance", name := "points", desc := "(I)I" } : Jvm.MethodName) ∈ TB := tb_in4 (i := 30) rfl rfl
theorem t_4_31 : Jvm.Cond.selects "DropsDance" ({ cls := "DropsDance", name := "points", desc := "(I)I" } : Jvm.MethodName) ({ cls := "DropsDance", name := "points", desc := "(I)I" } : Jvm.MethodName) ∈ TB := tb_in4 (i := 31) rfl rfl
theorem t_4_32 : Jvm.Cond.code ({ cls := "DropsDance", name := "points", desc := "(I)I" } : Jvm.MethodName) prog_1_method_16_code (3 : Nat) (Option.some Jvm.ClassFile.FieldType.int) ∈ TB := tb_in4 (i := 32) rfl rfl
theorem t_4_33 : Jvm.Cond.methodLink "DropsDance" (213 : Nat) ({ cls := "DropsDance$Scene", name := "touches", desc := "(LDropsDance$Drop;)Z" } : Jvm.MethodName) ∈ TB := tb_in4 (i := 33) rfl rfl
theorem t_4_34 : Jvm.Cond.methodLink "DropsDance" (217 : Nat) ({ cls := "DropsDance$Rules", name := "hasChimney", desc := "(I)Z" } : Jvm.MethodName) ∈ TB := tb_in4 (i := 34) rfl rfl
theorem t_4_35 : Jvm.Cond.methodLink "DropsDanceLaw" (80 : Nat) ({ cls := "DropsDance", name := "keep", desc := "(I)I" } : Jvm.MethodName) ∈ TB := tb_in4 (i := 35) rfl rfl
theorem t_4_36 : Jvm.Cond.instanceMethod ({ cls := "DropsDance", name := "keep", desc := "(I)I" } : Jvm.MethodName) ∈ TB := tb_in4 (i := 36) rfl rfl
theorem t_4_37 : Jvm.Cond.selects "DropsDance" ({ cls := "DropsDance", name := "keep", desc := "(I)I" } : Jvm.MethodName) ({ cls := "DropsDance", name := "keep", desc := "(I)I" } : Jvm.MethodName) ∈ TB := tb_in4 (i := 37) rfl rfl
theorem t_4_38 : Jvm.Cond.code ({ cls := "DropsDance", name := "keep", desc := "(I)I" } : Jvm.MethodName) prog_1_method_17_code (4 : Nat) (Option.some Jvm.ClassFile.FieldType.int) ∈ TB := tb_in4 (i := 38) rfl rfl
theorem t_4_39 : Jvm.Cond.methodLink "DropsDance" (221 : Nat) ({ cls := "DropsDance$Scene", name := "takeAll", desc := "(LDropsDance$Scene;)V" } : Jvm.MethodName) ∈ TB := tb_in4 (i := 39) rfl rfl
theorem t_4_40 : Jvm.Cond.instanceMethod ({ cls := "DropsDance$Scene", name := "takeAll", desc := "(LDropsDance$Scene;)V" } : Jvm.MethodName) ∈ TB := tb_in4 (i := 40) rfl rfl
theorem t_4_41 : Jvm.Cond.selects "DropsDance$Scene" ({ cls := "DropsDance$Scene", name := "takeAll", desc := "(LDropsDance$Scene;)V" } : Jvm.MethodName) ({ cls := "DropsDance$Scene", name := "takeAll", desc := "(LDropsDance$Scene;)V" } : Jvm.MethodName) ∈ TB := tb_in4 (i := 41) rfl rfl
theorem t_4_42 : Jvm.Cond.code ({ cls := "DropsDance$Scene", name := "takeAll", desc := "(LDropsDance$Scene;)V" } : Jvm.MethodName) prog_8_method_2_code (3 : Nat) (Option.none : Option Jvm.ClassFile.FieldType) ∈ TB := tb_in4 (i := 42) rfl rfl
theorem t_4_43 : Jvm.Cond.methodLink "DropsDance$Scene" (63 : Nat) ({ cls := "DropsDance$Drop", name := "takeAll", desc := "(LDropsDance$Drop;)V" } : Jvm.MethodName) ∈ TB := tb_in4 (i := 43) rfl rfl
theorem t_4_44 : Jvm.Cond.instanceMethod ({ cls := "DropsDance$Drop", name := "takeAll", desc := "(LDropsDance$Drop;)V" } : Jvm.MethodName) ∈ TB := tb_in4 (i := 44) rfl rfl
theorem t_4_45 : Jvm.Cond.selects "DropsDance$Drop" ({ cls := "DropsDance$Drop", name := "takeAll", desc := "(LDropsDance$Drop;)V" } : Jvm.MethodName) ({ cls := "DropsDance$Drop", name := "takeAll", desc := "(LDropsDance$Drop;)V" } : Jvm.MethodName) ∈ TB := tb_in4 (i := 45) rfl rfl
theorem t_4_46 : Jvm.Cond.code ({ cls := "DropsDance$Drop", name := "takeAll", desc := "(LDropsDance$Drop;)V" } : Jvm.MethodName) prog_2_method_3_code (2 : Nat) (Option.none : Option Jvm.ClassFile.FieldType) ∈ TB := tb_in4 (i := 46) rfl rfl
theorem t_4_47 : Jvm.Cond.methodLink "DropsDanceLaw" (84 : Nat) ({ cls := "DropsDance", name := "back", desc := "(I)I" } : Jvm.MethodName) ∈ TB := tb_in4 (i := 47) rfl rfl
theorem t_4_48 : Jvm.Cond.instanceMethod ({ cls := "DropsDance", name := "back", desc := "(I)I" } : Jvm.MethodName) ∈ TB := tb_in4 (i := 48) rfl rfl
theorem t_4_49 : Jvm.Cond.selects "DropsDance" ({ cls := "DropsDance", name := "back", desc := "(I)I" } : Jvm.MethodName) ({ cls := "DropsDance", name := "back", desc := "(I)I" } : Jvm.MethodName) ∈ TB := tb_in4 (i := 49) rfl rfl
theorem t_4_50 : Jvm.Cond.code ({ cls := "DropsDance", name := "back", desc := "(I)I" } : Jvm.MethodName) prog_1_method_18_code (3 : Nat) (Option.some Jvm.ClassFile.FieldType.int) ∈ TB := tb_in4 (i := 50) rfl rfl
theorem t_4_51 : Jvm.Cond.methodLink "DropsDanceLaw" (88 : Nat) ({ cls := "DropsDance", name := "alone", desc := "(IIIII)I" } : Jvm.MethodName) ∈ TB := tb_in4 (i := 51) rfl rfl
theorem t_4_52 : Jvm.Cond.instanceMethod ({ cls := "DropsDance", name := "alone", desc := "(IIIII)I" } : Jvm.MethodName) ∈ TB := tb_in4 (i := 52) rfl rfl
theorem t_4_53 : Jvm.Cond.selects "DropsDance" ({ cls := "DropsDance", name := "alone", desc := "(IIIII)I" } : Jvm.MethodName) ({ cls := "DropsDance", name := "alone", desc := "(IIIII)I" } : Jvm.MethodName) ∈ TB := tb_in4 (i := 53) rfl rfl
theorem t_4_54 : Jvm.Cond.code ({ cls := "DropsDance", name := "alone", desc := "(IIIII)I" } : Jvm.MethodName) prog_1_method_19_code (7 : Nat) (Option.some Jvm.ClassFile.FieldType.int) ∈ TB := tb_in4 (i := 54) rfl rfl
theorem t_4_55 : Jvm.Cond.methodLink "DropsDance" (230 : Nat) ({ cls := "DropsDance$Loner", name := "begin", desc := "(LDropsDance$Scene;III)V" } : Jvm.MethodName) ∈ TB := tb_in4 (i := 55) rfl rfl
theorem t_4_56 : Jvm.Cond.instanceMethod ({ cls := "DropsDance$Loner", name := "begin", desc := "(LDropsDance$Scene;III)V" } : Jvm.MethodName) ∈ TB := tb_in4 (i := 56) rfl rfl
theorem t_4_57 : Jvm.Cond.selects "DropsDance$Loner" ({ cls := "DropsDance$Loner", name := "begin", desc := "(LDropsDance$Scene;III)V" } : Jvm.MethodName) ({ cls := "DropsDance$Loner", name := "begin", desc := "(LDropsDance$Scene;III)V" } : Jvm.MethodName) ∈ TB := tb_in4 (i := 57) rfl rfl
theorem t_4_58 : Jvm.Cond.code ({ cls := "DropsDance$Loner", name := "begin", desc := "(LDropsDance$Scene;III)V" } : Jvm.MethodName) prog_4_method_2_code (5 : Nat) (Option.none : Option Jvm.ClassFile.FieldType) ∈ TB := tb_in4 (i := 58) rfl rfl
theorem t_4_59 : Jvm.Cond.methodLink "DropsDance$Loner" (44 : Nat) ({ cls := "DropsDance$Scene", name := "beginAlone", desc := "(LDropsDance$Scene;III)V" } : Jvm.MethodName) ∈ TB := tb_in4 (i := 59) rfl rfl
theorem t_4_60 : Jvm.Cond.instanceMethod ({ cls := "DropsDance$Scene", name := "beginAlone", desc := "(LDropsDance$Scene;III)V" } : Jvm.MethodName) ∈ TB := tb_in4 (i := 60) rfl rfl
theorem t_4_61 : Jvm.Cond.selects "DropsDance$Scene" ({ cls := "DropsDance$Scene", name := "beginAlone", desc := "(LDropsDance$Scene;III)V" } : Jvm.MethodName) ({ cls := "DropsDance$Scene", name := "beginAlone", desc := "(LDropsDance$Scene;III)V" } : Jvm.MethodName) ∈ TB := tb_in4 (i := 61) rfl rfl
theorem t_4_62 : Jvm.Cond.code ({ cls := "DropsDance$Scene", name := "beginAlone", desc := "(LDropsDance$Scene;III)V" } : Jvm.MethodName) prog_8_method_4_code (5 : Nat) (Option.none : Option Jvm.ClassFile.FieldType) ∈ TB := tb_in4 (i := 62) rfl rfl
theorem t_4_63 : Jvm.Cond.methodLink "DropsDance$Scene" (76 : Nat) ({ cls := "DropsDance$Scene", name := "addDrop", desc := "(III)I" } : Jvm.MethodName) ∈ TB := tb_in4 (i := 63) rfl rfl
theorem t_4_64 : Jvm.Cond.methodLink "DropsDance" (234 : Nat) ({ cls := "DropsDance$Loner", name := "runOn", desc := "(LDropsDance$Rules;I)LDropsDance$Drop;" } : Jvm.MethodName) ∈ TB := tb_in4 (i := 64) rfl rfl
theorem t_4_65 : Jvm.Cond.instanceMethod ({ cls := "DropsDance$Loner", name := "runOn", desc := "(LDropsDance$Rules;I)LDropsDance$Drop;" } : Jvm.MethodName) ∈ TB := tb_in4 (i := 65) rfl rfl
theorem t_4_66 : Jvm.Cond.selects "DropsDance$Loner" ({ cls := "DropsDance$Loner", name := "runOn", desc := "(LDropsDance$Rules;I)LDropsDance$Drop;" } : Jvm.MethodName) ({ cls := "DropsDance$Loner", name := "runOn", desc := "(LDropsDance$Rules;I)LDropsDance$Drop;" } : Jvm.MethodName) ∈ TB := tb_in4 (i := 66) rfl rfl
theorem t_4_67 : Jvm.Cond.code ({ cls := "DropsDance$Loner", name := "runOn", desc := "(LDropsDance$Rules;I)LDropsDance$Drop;" } : Jvm.MethodName) prog_4_method_3_code (4 : Nat) (Option.some (Jvm.ClassFile.FieldType.object "DropsDance$Drop")) ∈ TB := tb_in4 (i := 67) rfl rfl
theorem t_4_68 : Jvm.Cond.methodLink "DropsDance$Loner" (48 : Nat) ({ cls := "DropsDance$Scene", name := "passTick", desc := "(LDropsDance$Rules;I)V" } : Jvm.MethodName) ∈ TB := tb_in4 (i := 68) rfl rfl
theorem t_4_69 : Jvm.Cond.methodLink "DropsDanceLaw" (93 : Nat) ({ cls := "DropsDance", name := "reach", desc := "(IIII)I" } : Jvm.MethodName) ∈ TB := tb_in4 (i := 69) rfl rfl
theorem t_4_70 : Jvm.Cond.instanceMethod ({ cls := "DropsDance", name := "reach", desc := "(IIII)I" } : Jvm.MethodName) ∈ TB := tb_in4 (i := 70) rfl rfl
theorem t_4_71 : Jvm.Cond.selects "DropsDance" ({ cls := "DropsDance", name := "reach", desc := "(IIII)I" } : Jvm.MethodName) ({ cls := "DropsDance", name := "reach", desc := "(IIII)I" } : Jvm.MethodName) ∈ TB := tb_in4 (i := 71) rfl rfl
theorem t_4_72 : Jvm.Cond.code ({ cls := "DropsDance", name := "reach", desc := "(IIII)I" } : Jvm.MethodName) prog_1_method_20_code (5 : Nat) (Option.some Jvm.ClassFile.FieldType.int) ∈ TB := tb_in4 (i := 72) rfl rfl
theorem t_4_73 : Jvm.Cond.methodLink "DropsDance" (238 : Nat) ({ cls := "DropsDance$Loner", name := "ticksTill", desc := "(LDropsDance$Rules;II)I" } : Jvm.MethodName) ∈ TB := tb_in4 (i := 73) rfl rfl
theorem t_4_74 : Jvm.Cond.instanceMethod ({ cls := "DropsDance$Loner", name := "ticksTill", desc := "(LDropsDance$Rules;II)I" } : Jvm.MethodName) ∈ TB := tb_in4 (i := 74) rfl rfl
theorem t_4_75 : Jvm.Cond.selects "DropsDance$Loner" ({ cls := "DropsDance$Loner", name := "ticksTill", desc := "(LDropsDance$Rules;II)I" } : Jvm.MethodName) ({ cls := "DropsDance$Loner", name := "ticksTill", desc := "(LDropsDance$Rules;II)I" } : Jvm.MethodName) ∈ TB := tb_in4 (i := 75) rfl rfl
theorem t_4_76 : Jvm.Cond.code ({ cls := "DropsDance$Loner", name := "ticksTill", desc := "(LDropsDance$Rules;II)I" } : Jvm.MethodName) prog_4_method_4_code (6 : Nat) (Option.some Jvm.ClassFile.FieldType.int) ∈ TB := tb_in4 (i := 76) rfl rfl
theorem t_4_78 : Jvm.Cond.methodLink "DropsDanceLaw" (98 : Nat) ({ cls := "DropsDance", name := "ring", desc := "(IIII)I" } : Jvm.MethodName) ∈ TB := tb_in4 (i := 78) rfl rfl
theorem t_4_79 : Jvm.Cond.instanceMethod ({ cls := "DropsDance", name := "ring", desc := "(IIII)I" } : Jvm.MethodName) ∈ TB := tb_in4 (i := 79) rfl rfl
theorem t_4_80 : Jvm.Cond.selects "DropsDance" ({ cls := "DropsDance", name := "ring", desc := "(IIII)I" } : Jvm.MethodName) ({ cls := "DropsDance", name := "ring", desc := "(IIII)I" } : Jvm.MethodName) ∈ TB := tb_in4 (i := 80) rfl rfl
theorem t_4_81 : Jvm.Cond.code ({ cls := "DropsDance", name := "ring", desc := "(IIII)I" } : Jvm.MethodName) prog_1_method_21_code (5 : Nat) (Option.some Jvm.ClassFile.FieldType.int) ∈ TB := tb_in4 (i := 81) rfl rfl
theorem t_4_82 : Jvm.Cond.methodLink "DropsDance" (242 : Nat) ({ cls := "DropsDance$Path", name := "follow", desc := "(LDropsDance$Scene;LDropsDance$Rules;III)I" } : Jvm.MethodName) ∈ TB := tb_in4 (i := 82) rfl rfl
theorem t_4_83 : Jvm.Cond.instanceMethod ({ cls := "DropsDance$Path", name := "follow", desc := "(LDropsDance$Scene;LDropsDance$Rules;III)I" } : Jvm.MethodName) ∈ TB := tb_in4 (i := 83) rfl rfl
theorem t_4_84 : Jvm.Cond.selects "DropsDance$Path" ({ cls := "DropsDance$Path", name := "follow", desc := "(LDropsDance$Scene;LDropsDance$Rules;III)I" } : Jvm.MethodName) ({ cls := "DropsDance$Path", name := "follow", desc := "(LDropsDance$Scene;LDropsDance$Rules;III)I" } : Jvm.MethodName) ∈ TB := tb_in4 (i := 84) rfl rfl
theorem t_4_85 : Jvm.Cond.code ({ cls := "DropsDance$Path", name := "follow", desc := "(LDropsDance$Scene;LDropsDance$Rules;III)I" } : Jvm.MethodName) prog_5_method_2_code (8 : Nat) (Option.some Jvm.ClassFile.FieldType.int) ∈ TB := tb_in4 (i := 85) rfl rfl
theorem t_4_86 : Jvm.Cond.methodLink "DropsDance$Path" (29 : Nat) ({ cls := "java/util/Arrays", name := "fill", desc := "([II)V" } : Jvm.MethodName) ∈ TB := tb_in4 (i := 86) rfl rfl
theorem t_4_87 : Jvm.Cond.methodLink "DropsDance$Path" (35 : Nat) ({ cls := "DropsDance$Drop", name := "begin", desc := "(III)V" } : Jvm.MethodName) ∈ TB := tb_in4 (i := 87) rfl rfl
theorem t_4_89 : Jvm.Cond.methodLink "DropsDance$Path" (49 : Nat) ({ cls := "DropsDance$Scene", name := "wayOf", desc := "(LDropsDance$Drop;LDropsDance$Rules;I)I" } : Jvm.MethodName) ∈ TB := tb_in4 (i := 89) rfl rfl
theorem t_4_90 : Jvm.Cond.methodLink "DropsDance$Path" (55 : Nat) ({ cls := "DropsDance$Scene", name := "stepOn", desc := "(LDropsDance$Drop;I)V" } : Jvm.MethodName) ∈ TB := tb_in4 (i := 90) rfl rfl
theorem t_4_91 : Jvm.Cond.methodLink "DropsDance$Path" (59 : Nat) ({ cls := "DropsDance$Scene", name := "kindAt", desc := "(I)I" } : Jvm.MethodName) ∈ TB := tb_in4 (i := 91) rfl rfl
theorem t_4_92 : Jvm.Cond.methodLink "DropsDance" (252 : Nat) ({ cls := "DropsDance$Path", name := "cellsRound", desc := "()I" } : Jvm.MethodName) ∈ TB := tb_in4 (i := 92) rfl rfl
theorem t_4_93 : Jvm.Cond.instanceMethod ({ cls := "DropsDance$Path", name := "cellsRound", desc := "()I" } : Jvm.MethodName) ∈ TB := tb_in4 (i := 93) rfl rfl
theorem t_4_94 : Jvm.Cond.selects "DropsDance$Path" ({ cls := "DropsDance$Path", name := "cellsRound", desc := "()I" } : Jvm.MethodName) ({ cls := "DropsDance$Path", name := "cellsRound", desc := "()I" } : Jvm.MethodName) ∈ TB := tb_in4 (i := 94) rfl rfl
theorem t_4_95 : Jvm.Cond.code ({ cls := "DropsDance$Path", name := "cellsRound", desc := "()I" } : Jvm.MethodName) prog_5_method_3_code (5 : Nat) (Option.some Jvm.ClassFile.FieldType.int) ∈ TB := tb_in4 (i := 95) rfl rfl
theorem t_4_96 : Jvm.Cond.methodLink "DropsDanceLaw" (102 : Nat) ({ cls := "DropsDance", name := "falls", desc := "(III)J" } : Jvm.MethodName) ∈ TB := tb_in4 (i := 96) rfl rfl
theorem t_4_97 : Jvm.Cond.instanceMethod ({ cls := "DropsDance", name := "falls", desc := "(III)J" } : Jvm.MethodName) ∈ TB := tb_in4 (i := 97) rfl rfl
theorem t_4_98 : Jvm.Cond.selects "DropsDance" ({ cls := "DropsDance", name := "falls", desc := "(III)J" } : Jvm.MethodName) ({ cls := "DropsDance", name := "falls", desc := "(III)J" } : Jvm.MethodName) ∈ TB := tb_in4 (i := 98) rfl rfl
theorem t_4_99 : Jvm.Cond.code ({ cls := "DropsDance", name := "falls", desc := "(III)J" } : Jvm.MethodName) prog_1_method_22_code (11 : Nat) (Option.some Jvm.ClassFile.FieldType.long) ∈ TB := tb_in4 (i := 99) rfl rfl
theorem t_4_100 : Jvm.Cond.constantLong "DropsDance" (258 : Nat) (-1 : Int64) ∈ TB := tb_in4 (i := 100) rfl rfl
theorem t_4_101 : Jvm.Cond.constantLong "DropsDance" (260 : Nat) (-2 : Int64) ∈ TB := tb_in4 (i := 101) rfl rfl
theorem t_4_102 : Jvm.Cond.methodLink "DropsDance" (262 : Nat) ({ cls := "DropsDance$Rules", name := "teethSend", desc := "(I)Z" } : Jvm.MethodName) ∈ TB := tb_in4 (i := 102) rfl rfl
theorem t_4_103 : Jvm.Cond.methodLink "DropsDanceLaw" (107 : Nat) ({ cls := "DropsDance", name := "mend", desc := "(IIIII)I" } : Jvm.MethodName) ∈ TB := tb_in4 (i := 103) rfl rfl
theorem t_4_104 : Jvm.Cond.instanceMethod ({ cls := "DropsDance", name := "mend", desc := "(IIIII)I" } : Jvm.MethodName) ∈ TB := tb_in4 (i := 104) rfl rfl
theorem t_4_105 : Jvm.Cond.selects "DropsDance" ({ cls := "DropsDance", name := "mend", desc := "(IIIII)I" } : Jvm.MethodName) ({ cls := "DropsDance", name := "mend", desc := "(IIIII)I" } : Jvm.MethodName) ∈ TB := tb_in4 (i := 105) rfl rfl
theorem t_4_106 : Jvm.Cond.code ({ cls := "DropsDance", name := "mend", desc := "(IIIII)I" } : Jvm.MethodName) prog_1_method_23_code (6 : Nat) (Option.some Jvm.ClassFile.FieldType.int) ∈ TB := tb_in4 (i := 106) rfl rfl
theorem t_4_107 : Jvm.Cond.methodLink "DropsDance" (265 : Nat) ({ cls := "DropsDance$Loner", name := "findMend", desc := "(LDropsDance$Rules;I)Z" } : Jvm.MethodName) ∈ TB := tb_in4 (i := 107) rfl rfl
theorem t_4_108 : Jvm.Cond.instanceMethod ({ cls := "DropsDance$Loner", name := "findMend", desc := "(LDropsDance$Rules;I)Z" } : Jvm.MethodName) ∈ TB := tb_in4 (i := 108) rfl rfl
theorem t_4_109 : Jvm.Cond.selects "DropsDance$Loner" ({ cls := "DropsDance$Loner", name := "findMend", desc := "(LDropsDance$Rules;I)Z" } : Jvm.MethodName) ({ cls := "DropsDance$Loner", name := "findMend", desc := "(LDropsDance$Rules;I)Z" } : Jvm.MethodName) ∈ TB := tb_in4 (i := 109) rfl rfl
theorem t_4_110 : Jvm.Cond.code ({ cls := "DropsDance$Loner", name := "findMend", desc := "(LDropsDance$Rules;I)Z" } : Jvm.MethodName) prog_4_method_5_code (9 : Nat) (Option.some Jvm.ClassFile.FieldType.boolean) ∈ TB := tb_in4 (i := 110) rfl rfl
theorem t_4_111 : Jvm.Cond.methodLink "DropsDance$Loner" (68 : Nat) ({ cls := "java/util/Arrays", name := "fill", desc := "([II)V" } : Jvm.MethodName) ∈ TB := tb_in4 (i := 111) rfl rfl
theorem t_4_112 : Jvm.Cond.methodLink "DropsDance$Loner" (74 : Nat) ({ cls := "DropsDance$Loner", name := "ticksTill", desc := "(LDropsDance$Rules;II)I" } : Jvm.MethodName) ∈ TB := tb_in4 (i := 112) rfl rfl
theorem t_4_113 : Jvm.Cond.methodLink "DropsDance$Loner" (78 : Nat) ({ cls := "java/lang/System", name := "arraycopy", desc := "(Ljava/lang/Object;ILjava/lang/Object;II)V" } : Jvm.MethodName) ∈ TB := tb_in4 (i := 113) rfl rfl
theorem t_4_114 : Jvm.Cond.methodLink "DropsDance$Loner" (87 : Nat) ({ cls := "DropsDance$Scene", name := "clearDrops", desc := "()V" } : Jvm.MethodName) ∈ TB := tb_in4 (i := 114) rfl rfl
theorem t_4_115 : Jvm.Cond.methodLink "DropsDance$Loner" (90 : Nat) ({ cls := "DropsDance$Scene", name := "addDrop", desc := "(III)I" } : Jvm.MethodName) ∈ TB := tb_in4 (i := 115) rfl rfl
theorem t_4_116 : Jvm.Cond.methodLink "DropsDanceLaw" (111 : Nat) ({ cls := "DropsDance", name := "life", desc := "(IIZ)I" } : Jvm.MethodName) ∈ TB := tb_in4 (i := 116) rfl rfl
theorem t_4_117 : Jvm.Cond.instanceMethod ({ cls := "DropsDance", name := "life", desc := "(IIZ)I" } : Jvm.MethodName) ∈ TB := tb_in4 (i := 117) rfl rfl
theorem t_4_118 : Jvm.Cond.selects "DropsDance" ({ cls := "DropsDance", name := "life", desc := "(IIZ)I" } : Jvm.MethodName) ({ cls := "DropsDance", name := "life", desc := "(IIZ)I" } : Jvm.MethodName) ∈ TB := tb_in4 (i := 118) rfl rfl
theorem t_4_119 : Jvm.Cond.code ({ cls := "DropsDance", name := "life", desc := "(IIZ)I" } : Jvm.MethodName) prog_1_method_24_code (4 : Nat) (Option.some Jvm.ClassFile.FieldType.int) ∈ TB := tb_in4 (i := 119) rfl rfl
theorem t_4_120 : Jvm.Cond.methodLink "DropsDance" (281 : Nat) ({ cls := "DropsDance$Rules", name := "lifeOf", desc := "(IIZ)I" } : Jvm.MethodName) ∈ TB := tb_in4 (i := 120) rfl rfl
theorem t_4_121 : Jvm.Cond.instanceMethod ({ cls := "DropsDance$Rules", name := "lifeOf", desc := "(IIZ)I" } : Jvm.MethodName) ∈ TB := tb_in4 (i := 121) rfl rfl
theorem t_4_122 : Jvm.Cond.selects "DropsDance$Rules" ({ cls := "DropsDance$Rules", name := "lifeOf", desc := "(IIZ)I" } : Jvm.MethodName) ({ cls := "DropsDance$Rules", name := "lifeOf", desc := "(IIZ)I" } : Jvm.MethodName) ∈ TB := tb_in4 (i := 122) rfl rfl
theorem t_4_123 : Jvm.Cond.code ({ cls := "DropsDance$Rules", name := "lifeOf", desc := "(IIZ)I" } : Jvm.MethodName) prog_7_method_12_code (4 : Nat) (Option.some Jvm.ClassFile.FieldType.int) ∈ TB := tb_in4 (i := 123) rfl rfl
theorem t_4_124 : Jvm.Cond.methodLink "DropsDance$Rules" (31 : Nat) ({ cls := "DropsDance$Rules", name := "floatsAt", desc := "(IZ)Z" } : Jvm.MethodName) ∈ TB := tb_in4 (i := 124) rfl rfl
theorem t_4_125 : Jvm.Cond.methodLink "DropsDance$Rules" (35 : Nat) ({ cls := "DropsDance$Rules", name := "lifeBy", desc := "(IIZ)I" } : Jvm.MethodName) ∈ TB := tb_in4 (i := 125) rfl rfl
theorem t_4_126 : Jvm.Cond.instanceMethod ({ cls := "DropsDance$Rules", name := "lifeBy", desc := "(IIZ)I" } : Jvm.MethodName) ∈ TB := tb_in4 (i := 126) rfl rfl
theorem t_4_127 : Jvm.Cond.selects "DropsDance$Rules" ({ cls := "DropsDance$Rules", name := "lifeBy", desc := "(IIZ)I" } : Jvm.MethodName) ({ cls := "DropsDance$Rules", name := "lifeBy", desc := "(IIZ)I" } : Jvm.MethodName) ∈ TB := tb_in4 (i := 127) rfl rfl
theorem t_4_128 : Jvm.Cond.code ({ cls := "DropsDance$Rules", name := "lifeBy", desc := "(IIZ)I" } : Jvm.MethodName) prog_7_method_13_code (4 : Nat) (Option.some Jvm.ClassFile.FieldType.int) ∈ TB := tb_in4 (i := 128) rfl rfl
theorem t_4_129 : Jvm.Cond.methodLink "DropsDance$Rules" (39 : Nat) ({ cls := "DropsDance$Rules", name := "lifeFloating", desc := "(I)I" } : Jvm.MethodName) ∈ TB := tb_in4 (i := 129) rfl rfl
theorem t_4_131 : Jvm.Cond.instanceMethod ({ cls := "DropsDance$Rules", name := "lifeFloating", desc := "(I)I" } : Jvm.MethodName) ∈ TB := tb_in4 (i := 131) rfl rfl
theorem t_4_132 : Jvm.Cond.code ({ cls := "DropsDance$Rules", name := "lifeFloating", desc := "(I)I" } : Jvm.MethodName) prog_7_method_15_code (4 : Nat) (Option.some Jvm.ClassFile.FieldType.int) ∈ TB := tb_in4 (i := 132) rfl rfl
theorem t_4_133 : Jvm.Cond.methodLink "DropsDance$Rules" (50 : Nat) ({ cls := "DropsDance$Rules", name := "lossFloating", desc := "(I)I" } : Jvm.MethodName) ∈ TB := tb_in4 (i := 133) rfl rfl
theorem t_4_134 : Jvm.Cond.methodLink "DropsDance$Rules" (43 : Nat) ({ cls := "DropsDance$Rules", name := "lifeTouching", desc := "(II)I" } : Jvm.MethodName) ∈ TB := tb_in4 (i := 134) rfl rfl
theorem t_4_136 : Jvm.Cond.instanceMethod ({ cls := "DropsDance$Rules", name := "lifeTouching", desc := "(II)I" } : Jvm.MethodName) ∈ TB := tb_in4 (i := 136) rfl rfl
theorem t_4_137 : Jvm.Cond.code ({ cls := "DropsDance$Rules", name := "lifeTouching", desc := "(II)I" } : Jvm.MethodName) prog_7_method_14_code (4 : Nat) (Option.some Jvm.ClassFile.FieldType.int) ∈ TB := tb_in4 (i := 137) rfl rfl
theorem t_4_138 : Jvm.Cond.methodLink "DropsDance$Rules" (47 : Nat) ({ cls := "DropsDance$Rules", name := "lossTouching", desc := "(I)I" } : Jvm.MethodName) ∈ TB := tb_in4 (i := 138) rfl rfl
theorem t_4_139 : Jvm.Cond.methodLink "DropsDanceLaw" (116 : Nat) ({ cls := "DropsDance", name := "hump", desc := "(IZI)I" } : Jvm.MethodName) ∈ TB := tb_in4 (i := 139) rfl rfl
theorem t_4_140 : Jvm.Cond.instanceMethod ({ cls := "DropsDance", name := "hump", desc := "(IZI)I" } : Jvm.MethodName) ∈ TB := tb_in4 (i := 140) rfl rfl
theorem t_4_141 : Jvm.Cond.selects "DropsDance" ({ cls := "DropsDance", name := "hump", desc := "(IZI)I" } : Jvm.MethodName) ({ cls := "DropsDance", name := "hump", desc := "(IZI)I" } : Jvm.MethodName) ∈ TB := tb_in4 (i := 141) rfl rfl
theorem t_4_142 : Jvm.Cond.code ({ cls := "DropsDance", name := "hump", desc := "(IZI)I" } : Jvm.MethodName) prog_1_method_25_code (4 : Nat) (Option.some Jvm.ClassFile.FieldType.int) ∈ TB := tb_in4 (i := 142) rfl rfl
theorem t_4_143 : Jvm.Cond.methodLink "DropsDance" (285 : Nat) ({ cls := "DropsDance$Rules", name := "longestHeat", desc := "(IZ)I" } : Jvm.MethodName) ∈ TB := tb_in4 (i := 143) rfl rfl
theorem t_4_144 : Jvm.Cond.instanceMethod ({ cls := "DropsDance$Rules", name := "longestHeat", desc := "(IZ)I" } : Jvm.MethodName) ∈ TB := tb_in4 (i := 144) rfl rfl
theorem t_4_145 : Jvm.Cond.selects "DropsDance$Rules" ({ cls := "DropsDance$Rules", name := "longestHeat", desc := "(IZ)I" } : Jvm.MethodName) ({ cls := "DropsDance$Rules", name := "longestHeat", desc := "(IZ)I" } : Jvm.MethodName) ∈ TB := tb_in4 (i := 145) rfl rfl
theorem t_4_146 : Jvm.Cond.code ({ cls := "DropsDance$Rules", name := "longestHeat", desc := "(IZ)I" } : Jvm.MethodName) prog_7_method_16_code (5 : Nat) (Option.some Jvm.ClassFile.FieldType.int) ∈ TB := tb_in4 (i := 146) rfl rfl
theorem t_4_147 : Jvm.Cond.methodLink "DropsDance$Rules" (53 : Nat) ({ cls := "DropsDance$Rules", name := "lifeOf", desc := "(IIZ)I" } : Jvm.MethodName) ∈ TB := tb_in4 (i := 147) rfl rfl
theorem t_4_148 : Jvm.Cond.methodLink "DropsDance" (289 : Nat) ({ cls := "DropsDance$Rules", name := "shortestLife", desc := "(IZ)I" } : Jvm.MethodName) ∈ TB := tb_in4 (i := 148) rfl rfl
theorem t_4_149 : Jvm.Cond.instanceMethod ({ cls := "DropsDance$Rules", name := "shortestLife", desc := "(IZ)I" } : Jvm.MethodName) ∈ TB := tb_in4 (i := 149) rfl rfl
theorem t_4_150 : Jvm.Cond.selects "DropsDance$Rules" ({ cls := "DropsDance$Rules", name := "shortestLife", desc := "(IZ)I" } : Jvm.MethodName) ({ cls := "DropsDance$Rules", name := "shortestLife", desc := "(IZ)I" } : Jvm.MethodName) ∈ TB := tb_in4 (i := 150) rfl rfl
theorem t_4_151 : Jvm.Cond.code ({ cls := "DropsDance$Rules", name := "shortestLife", desc := "(IZ)I" } : Jvm.MethodName) prog_7_method_17_code (5 : Nat) (Option.some Jvm.ClassFile.FieldType.int) ∈ TB := tb_in4 (i := 151) rfl rfl
theorem t_4_152 : Jvm.Cond.methodLink "DropsDance$Rules" (56 : Nat) ({ cls := "java/lang/Math", name := "min", desc := "(II)I" } : Jvm.MethodName) ∈ TB := tb_in4 (i := 152) rfl rfl
theorem t_4_153 : Jvm.Cond.methodLink "DropsDance" (292 : Nat) ({ cls := "DropsDance$Rules", name := "firstLonger", desc := "(IZ)I" } : Jvm.MethodName) ∈ TB := tb_in4 (i := 153) rfl rfl
theorem t_4_154 : Jvm.Cond.instanceMethod ({ cls := "DropsDance$Rules", name := "firstLonger", desc := "(IZ)I" } : Jvm.MethodName) ∈ TB := tb_in4 (i := 154) rfl rfl
theorem t_4_155 : Jvm.Cond.selects "DropsDance$Rules" ({ cls := "DropsDance$Rules", name := "firstLonger", desc := "(IZ)I" } : Jvm.MethodName) ({ cls := "DropsDance$Rules", name := "firstLonger", desc := "(IZ)I" } : Jvm.MethodName) ∈ TB := tb_in4 (i := 155) rfl rfl
theorem t_4_156 : Jvm.Cond.code ({ cls := "DropsDance$Rules", name := "firstLonger", desc := "(IZ)I" } : Jvm.MethodName) prog_7_method_18_code (4 : Nat) (Option.some Jvm.ClassFile.FieldType.int) ∈ TB := tb_in4 (i := 156) rfl rfl
theorem t_4_157 : Jvm.Cond.methodLink "DropsDanceLaw" (121 : Nat) ({ cls := "DropsDance", name := "hot", desc := "(IIZI)I" } : Jvm.MethodName) ∈ TB := tb_in4 (i := 157) rfl rfl
theorem t_4_158 : Jvm.Cond.instanceMethod ({ cls := "DropsDance", name := "hot", desc := "(IIZI)I" } : Jvm.MethodName) ∈ TB := tb_in4 (i := 158) rfl rfl
theorem t_4_159 : Jvm.Cond.selects "DropsDance" ({ cls := "DropsDance", name := "hot", desc := "(IIZI)I" } : Jvm.MethodName) ({ cls := "DropsDance", name := "hot", desc := "(IIZI)I" } : Jvm.MethodName) ∈ TB := tb_in4 (i := 159) rfl rfl
theorem t_4_160 : Jvm.Cond.code ({ cls := "DropsDance", name := "hot", desc := "(IIZI)I" } : Jvm.MethodName) prog_1_method_26_code (9 : Nat) (Option.some Jvm.ClassFile.FieldType.int) ∈ TB := tb_in4 (i := 160) rfl rfl
theorem t_4_161 : Jvm.Cond.methodLink "DropsDanceLaw" (126 : Nat) ({ cls := "DropsDance", name := "odds", desc := "(IIII)J" } : Jvm.MethodName) ∈ TB := tb_in4 (i := 161) rfl rfl
theorem t_4_162 : Jvm.Cond.instanceMethod ({ cls := "DropsDance", name := "odds", desc := "(IIII)J" } : Jvm.MethodName) ∈ TB := tb_in4 (i := 162) rfl rfl
theorem t_4_163 : Jvm.Cond.selects "DropsDance" ({ cls := "DropsDance", name := "odds", desc := "(IIII)J" } : Jvm.MethodName) ({ cls := "DropsDance", name := "odds", desc := "(IIII)J" } : Jvm.MethodName) ∈ TB := tb_in4 (i := 163) rfl rfl
theorem t_4_164 : Jvm.Cond.code ({ cls := "DropsDance", name := "odds", desc := "(IIII)J" } : Jvm.MethodName) prog_1_method_27_code (10 : Nat) (Option.some Jvm.ClassFile.FieldType.long) ∈ TB := tb_in4 (i := 164) rfl rfl
theorem t_4_165 : Jvm.Cond.methodLink "DropsDance" (295 : Nat) ({ cls := "DropsDance$Roller", name := "beenIn", desc := "(LDropsDance$Scene;III)J" } : Jvm.MethodName) ∈ TB := tb_in4 (i := 165) rfl rfl
theorem t_4_166 : Jvm.Cond.instanceMethod ({ cls := "DropsDance$Roller", name := "beenIn", desc := "(LDropsDance$Scene;III)J" } : Jvm.MethodName) ∈ TB := tb_in4 (i := 166) rfl rfl
theorem t_4_167 : Jvm.Cond.selects "DropsDance$Roller" ({ cls := "DropsDance$Roller", name := "beenIn", desc := "(LDropsDance$Scene;III)J" } : Jvm.MethodName) ({ cls := "DropsDance$Roller", name := "beenIn", desc := "(LDropsDance$Scene;III)J" } : Jvm.MethodName) ∈ TB := tb_in4 (i := 167) rfl rfl
theorem t_4_168 : Jvm.Cond.code ({ cls := "DropsDance$Roller", name := "beenIn", desc := "(LDropsDance$Scene;III)J" } : Jvm.MethodName) prog_6_method_2_code (8 : Nat) (Option.some Jvm.ClassFile.FieldType.long) ∈ TB := tb_in4 (i := 168) rfl rfl
theorem t_4_170 : Jvm.Cond.methodLink "DropsDance$Roller" (22 : Nat) ({ cls := "java/util/Arrays", name := "fill", desc := "([JJ)V" } : Jvm.MethodName) ∈ TB := tb_in4 (i := 170) rfl rfl
theorem t_4_171 : Jvm.Cond.static ({ cls := "java/util/Arrays", name := "fill", desc := "([JJ)V" } : Jvm.MethodName) ∈ TB := tb_in4 (i := 171) rfl rfl
theorem t_4_172 : Jvm.Cond.code ({ cls := "java/util/Arrays", name := "fill", desc := "([JJ)V" } : Jvm.MethodName) prog_20_method_101_code (5 : Nat) (Option.none : Option Jvm.ClassFile.FieldType) ∈ TB := tb_in4 (i := 172) rfl rfl
theorem t_4_173 : Jvm.Cond.constantLong "DropsDance$Roller" (28 : Nat) (4 : Int64) ∈ TB := tb_in4 (i := 173) rfl rfl
theorem t_4_174 : Jvm.Cond.methodLink "DropsDance$Roller" (30 : Nat) ({ cls := "DropsDance$Roller", name := "takeOut", desc := "(I)J" } : Jvm.MethodName) ∈ TB := tb_in4 (i := 174) rfl rfl
theorem t_4_176 : Jvm.Cond.instanceMethod ({ cls := "DropsDance$Roller", name := "takeOut", desc := "(I)J" } : Jvm.MethodName) ∈ TB := tb_in4 (i := 176) rfl rfl
theorem t_4_177 : Jvm.Cond.code ({ cls := "DropsDance$Roller", name := "takeOut", desc := "(I)J" } : Jvm.MethodName) prog_6_method_3_code (4 : Nat) (Option.some Jvm.ClassFile.FieldType.long) ∈ TB := tb_in4 (i := 177) rfl rfl
theorem t_4_178 : Jvm.Cond.methodLink "DropsDance$Roller" (34 : Nat) ({ cls := "DropsDance$Roller", name := "rollAll", desc := "(LDropsDance$Scene;)V" } : Jvm.MethodName) ∈ TB := tb_in4 (i := 178) rfl rfl
theorem t_4_180 : Jvm.Cond.instanceMethod ({ cls := "DropsDance$Roller", name := "rollAll", desc := "(LDropsDance$Scene;)V" } : Jvm.MethodName) ∈ TB := tb_in4 (i := 180) rfl rfl
theorem t_4_181 : Jvm.Cond.code ({ cls := "DropsDance$Roller", name := "rollAll", desc := "(LDropsDance$Scene;)V" } : Jvm.MethodName) prog_6_method_4_code (5 : Nat) (Option.none : Option Jvm.ClassFile.FieldType) ∈ TB := tb_in4 (i := 181) rfl rfl
theorem t_4_182 : Jvm.Cond.methodLink "DropsDance$Roller" (38 : Nat) ({ cls := "DropsDance$Roller", name := "rolledTo", desc := "(LDropsDance$Scene;II)I" } : Jvm.MethodName) ∈ TB := tb_in4 (i := 182) rfl rfl
theorem t_4_183 : Jvm.Cond.static ({ cls := "DropsDance$Roller", name := "rolledTo", desc := "(LDropsDance$Scene;II)I" } : Jvm.MethodName) ∈ TB := tb_in4 (i := 183) rfl rfl
theorem t_4_184 : Jvm.Cond.code ({ cls := "DropsDance$Roller", name := "rolledTo", desc := "(LDropsDance$Scene;II)I" } : Jvm.MethodName) prog_6_method_5_code (5 : Nat) (Option.some Jvm.ClassFile.FieldType.int) ∈ TB := tb_in4 (i := 184) rfl rfl
theorem t_4_185 : Jvm.Cond.methodLink "DropsDance$Roller" (48 : Nat) ({ cls := "DropsDance$Scene", name := "kindAt", desc := "(I)I" } : Jvm.MethodName) ∈ TB := tb_in4 (i := 185) rfl rfl
theorem t_4_188 : Jvm.Cond.methodLink "DropsDance$Roller" (42 : Nat) ({ cls := "java/lang/System", name := "arraycopy", desc := "(Ljava/lang/Object;ILjava/lang/Object;II)V" } : Jvm.MethodName) ∈ TB := tb_in4 (i := 188) rfl rfl
theorem t_4_189 : Jvm.Cond.methodLink "DropsDanceLaw" (131 : Nat) ({ cls := "DropsDance", name := "cools", desc := "(III)I" } : Jvm.MethodName) ∈ TB := tb_in4 (i := 189) rfl rfl
theorem t_4_190 : Jvm.Cond.instanceMethod ({ cls := "DropsDance", name := "cools", desc := "(III)I" } : Jvm.MethodName) ∈ TB := tb_in4 (i := 190) rfl rfl
theorem t_4_191 : Jvm.Cond.selects "DropsDance" ({ cls := "DropsDance", name := "cools", desc := "(III)I" } : Jvm.MethodName) ({ cls := "DropsDance", name := "cools", desc := "(III)I" } : Jvm.MethodName) ∈ TB := tb_in4 (i := 191) rfl rfl
theorem t_4_192 : Jvm.Cond.code ({ cls := "DropsDance", name := "cools", desc := "(III)I" } : Jvm.MethodName) prog_1_method_28_code (8 : Nat) (Option.some Jvm.ClassFile.FieldType.int) ∈ TB := tb_in4 (i := 192) rfl rfl
theorem t_4_193 : Jvm.Cond.methodLink "DropsDance" (299 : Nat) ({ cls := "DropsDance$Rules", name := "lossTouching", desc := "(I)I" } : Jvm.MethodName) ∈ TB := tb_in4 (i := 193) rfl rfl
theorem t_4_194 : Jvm.Cond.methodLink "DropsDance" (302 : Nat) ({ cls := "java/lang/Math", name := "max", desc := "(II)I" } : Jvm.MethodName) ∈ TB := tb_in4 (i := 194) rfl rfl
theorem t_4_195 : Jvm.Cond.methodLink "DropsDanceLaw" (135 : Nat) ({ cls := "DropsDance", name := "saw", desc := "(IIZI)I" } : Jvm.MethodName) ∈ TB := tb_in4 (i := 195) rfl rfl
theorem t_4_196 : Jvm.Cond.instanceMethod ({ cls := "DropsDance", name := "saw", desc := "(IIZI)I" } : Jvm.MethodName) ∈ TB := tb_in4 (i := 196) rfl rfl
theorem t_4_197 : Jvm.Cond.selects "DropsDance" ({ cls := "DropsDance", name := "saw", desc := "(IIZI)I" } : Jvm.MethodName) ({ cls := "DropsDance", name := "saw", desc := "(IIZI)I" } : Jvm.MethodName) ∈ TB := tb_in4 (i := 197) rfl rfl
theorem t_4_198 : Jvm.Cond.code ({ cls := "DropsDance", name := "saw", desc := "(IIZI)I" } : Jvm.MethodName) prog_1_method_29_code (5 : Nat) (Option.some Jvm.ClassFile.FieldType.int) ∈ TB := tb_in4 (i := 198) rfl rfl
theorem t_4_199 : Jvm.Cond.methodLink "DropsDance" (308 : Nat) ({ cls := "DropsDance$ToldLives", name := "tell", desc := "(IIZI)Z" } : Jvm.MethodName) ∈ TB := tb_in4 (i := 199) rfl rfl
theorem t_4_200 : Jvm.Cond.instanceMethod ({ cls := "DropsDance$ToldLives", name := "tell", desc := "(IIZI)Z" } : Jvm.MethodName) ∈ TB := tb_in4 (i := 200) rfl rfl
theorem t_4_201 : Jvm.Cond.selects "DropsDance$ToldLives" ({ cls := "DropsDance$ToldLives", name := "tell", desc := "(IIZI)Z" } : Jvm.MethodName) ({ cls := "DropsDance$ToldLives", name := "tell", desc := "(IIZI)Z" } : Jvm.MethodName) ∈ TB := tb_in4 (i := 201) rfl rfl
theorem t_4_202 : Jvm.Cond.code ({ cls := "DropsDance$ToldLives", name := "tell", desc := "(IIZI)Z" } : Jvm.MethodName) prog_11_method_2_code (5 : Nat) (Option.some Jvm.ClassFile.FieldType.boolean) ∈ TB := tb_in4 (i := 202) rfl rfl
theorem t_4_203 : Jvm.Cond.methodLink "DropsDanceLaw" (139 : Nat) ({ cls := "DropsDance", name := "forget", desc := "()I" } : Jvm.MethodName) ∈ TB := tb_in4 (i := 203) rfl rfl
theorem t_4_204 : Jvm.Cond.instanceMethod ({ cls := "DropsDance", name := "forget", desc := "()I" } : Jvm.MethodName) ∈ TB := tb_in4 (i := 204) rfl rfl
theorem t_4_205 : Jvm.Cond.selects "DropsDance" ({ cls := "DropsDance", name := "forget", desc := "()I" } : Jvm.MethodName) ({ cls := "DropsDance", name := "forget", desc := "()I" } : Jvm.MethodName) ∈ TB := tb_in4 (i := 205) rfl rfl
theorem t_4_206 : Jvm.Cond.code ({ cls := "DropsDance", name := "forget", desc := "()I" } : Jvm.MethodName) prog_1_method_30_code (2 : Nat) (Option.some Jvm.ClassFile.FieldType.int) ∈ TB := tb_in4 (i := 206) rfl rfl
theorem t_4_207 : Jvm.Cond.methodLink "DropsDanceLaw" (143 : Nat) ({ cls := "DropsDance", name := "fits", desc := "(I)I" } : Jvm.MethodName) ∈ TB := tb_in4 (i := 207) rfl rfl
theorem t_4_208 : Jvm.Cond.instanceMethod ({ cls := "DropsDance", name := "fits", desc := "(I)I" } : Jvm.MethodName) ∈ TB := tb_in4 (i := 208) rfl rfl
theorem t_4_209 : Jvm.Cond.selects "DropsDance" ({ cls := "DropsDance", name := "fits", desc := "(I)I" } : Jvm.MethodName) ({ cls := "DropsDance", name := "fits", desc := "(I)I" } : Jvm.MethodName) ∈ TB := tb_in4 (i := 209) rfl rfl
theorem t_4_210 : Jvm.Cond.code ({ cls := "DropsDance", name := "fits", desc := "(I)I" } : Jvm.MethodName) prog_1_method_31_code (6 : Nat) (Option.some Jvm.ClassFile.FieldType.int) ∈ TB := tb_in4 (i := 210) rfl rfl
theorem t_4_211 : Jvm.Cond.fieldLink "DropsDance" (312 : Nat) "DropsDance" "RULE_LEAST" "[I" ∈ TB := tb_in4 (i := 211) rfl rfl
theorem t_4_212 : Jvm.Cond.fieldLink "DropsDance" (315 : Nat) "DropsDance" "RULE_MOST" "[I" ∈ TB := tb_in4 (i := 212) rfl rfl
theorem t_4_213 : Jvm.Cond.methodLink "DropsDance" (318 : Nat) ({ cls := "DropsDance$ToldLives", name := "allSo", desc := "(LDropsDance$Rules;I)Z" } : Jvm.MethodName) ∈ TB := tb_in4 (i := 213) rfl rfl
theorem t_4_214 : Jvm.Cond.instanceMethod ({ cls := "DropsDance$ToldLives", name := "allSo", desc := "(LDropsDance$Rules;I)Z" } : Jvm.MethodName) ∈ TB := tb_in4 (i := 214) rfl rfl
theorem t_4_215 : Jvm.Cond.selects "DropsDance$ToldLives" ({ cls := "DropsDance$ToldLives", name := "allSo", desc := "(LDropsDance$Rules;I)Z" } : Jvm.MethodName) ({ cls := "DropsDance$ToldLives", name := "allSo", desc := "(LDropsDance$Rules;I)Z" } : Jvm.MethodName) ∈ TB := tb_in4 (i := 215) rfl rfl
theorem t_4_216 : Jvm.Cond.code ({ cls := "DropsDance$ToldLives", name := "allSo", desc := "(LDropsDance$Rules;I)Z" } : Jvm.MethodName) prog_11_method_4_code (4 : Nat) (Option.some Jvm.ClassFile.FieldType.boolean) ∈ TB := tb_in4 (i := 216) rfl rfl
theorem t_4_217 : Jvm.Cond.methodLink "DropsDance$ToldLives" (39 : Nat) ({ cls := "DropsDance$ToldLives", name := "isSo", desc := "(ILDropsDance$Rules;I)Z" } : Jvm.MethodName) ∈ TB := tb_in4 (i := 217) rfl rfl
theorem t_4_218 : Jvm.Cond.instanceMethod ({ cls := "DropsDance$ToldLives", name := "isSo", desc := "(ILDropsDance$Rules;I)Z" } : Jvm.MethodName) ∈ TB := tb_in4 (i := 218) rfl rfl
theorem t_4_219 : Jvm.Cond.selects "DropsDance$ToldLives" ({ cls := "DropsDance$ToldLives", name := "isSo", desc := "(ILDropsDance$Rules;I)Z" } : Jvm.MethodName) ({ cls := "DropsDance$ToldLives", name := "isSo", desc := "(ILDropsDance$Rules;I)Z" } : Jvm.MethodName) ∈ TB := tb_in4 (i := 219) rfl rfl
theorem t_4_220 : Jvm.Cond.code ({ cls := "DropsDance$ToldLives", name := "isSo", desc := "(ILDropsDance$Rules;I)Z" } : Jvm.MethodName) prog_11_method_3_code (5 : Nat) (Option.some Jvm.ClassFile.FieldType.boolean) ∈ TB := tb_in4 (i := 220) rfl rfl
theorem t_4_221 : Jvm.Cond.methodLink "DropsDance$ToldLives" (29 : Nat) ({ cls := "DropsDance$Rules", name := "value", desc := "(I)I" } : Jvm.MethodName) ∈ TB := tb_in4 (i := 221) rfl rfl
theorem t_4_222 : Jvm.Cond.methodLink "DropsDance$ToldLives" (35 : Nat) ({ cls := "DropsDance$Rules", name := "lifeBy", desc := "(IIZ)I" } : Jvm.MethodName) ∈ TB := tb_in4 (i := 222) rfl rfl
theorem t_4_223 : Jvm.Cond.methodLink "DropsDanceLaw" (147 : Nat) ({ cls := "DropsDance", name := "right", desc := "()I" } : Jvm.MethodName) ∈ TB := tb_in4 (i := 223) rfl rfl
theorem t_4_224 : Jvm.Cond.instanceMethod ({ cls := "DropsDance", name := "right", desc := "()I" } : Jvm.MethodName) ∈ TB := tb_in4 (i := 224) rfl rfl
theorem t_4_225 : Jvm.Cond.selects "DropsDance" ({ cls := "DropsDance", name := "right", desc := "()I" } : Jvm.MethodName) ({ cls := "DropsDance", name := "right", desc := "()I" } : Jvm.MethodName) ∈ TB := tb_in4 (i := 225) rfl rfl
theorem t_4_226 : Jvm.Cond.code ({ cls := "DropsDance", name := "right", desc := "()I" } : Jvm.MethodName) prog_1_method_32_code (3 : Nat) (Option.some Jvm.ClassFile.FieldType.int) ∈ TB := tb_in4 (i := 226) rfl rfl
theorem t_4_227 : Jvm.Cond.methodLink "DropsDance" (321 : Nat) ({ cls := "DropsDance$ToldLives", name := "isSo", desc := "(ILDropsDance$Rules;I)Z" } : Jvm.MethodName) ∈ TB := tb_in4 (i := 227) rfl rfl
theorem t_4_228 : Jvm.Cond.methodLink "DropsDanceLaw" (151 : Nat) ({ cls := "DropsDance", name := "sheet", desc := "(III)I" } : Jvm.MethodName) ∈ TB := tb_in4 (i := 228) rfl rfl
theorem t_4_229 : Jvm.Cond.instanceMethod ({ cls := "DropsDance", name := "sheet", desc := "(III)I" } : Jvm.MethodName) ∈ TB := tb_in4 (i := 229) rfl rfl
theorem t_4_230 : Jvm.Cond.selects "DropsDance" ({ cls := "DropsDance", name := "sheet", desc := "(III)I" } : Jvm.MethodName) ({ cls := "DropsDance", name := "sheet", desc := "(III)I" } : Jvm.MethodName) ∈ TB := tb_in4 (i := 230) rfl rfl
theorem t_4_231 : Jvm.Cond.code ({ cls := "DropsDance", name := "sheet", desc := "(III)I" } : Jvm.MethodName) prog_1_method_33_code (4 : Nat) (Option.some Jvm.ClassFile.FieldType.int) ∈ TB := tb_in4 (i := 231) rfl rfl
theorem t_4_232 : Jvm.Cond.methodLink "DropsDance" (325 : Nat) ({ cls := "DropsDance", name := "isSheet", desc := "(I)Z" } : Jvm.MethodName) ∈ TB := tb_in4 (i := 232) rfl rfl
theorem t_4_233 : Jvm.Cond.static ({ cls := "DropsDance", name := "isSheet", desc := "(I)Z" } : Jvm.MethodName) ∈ TB := tb_in4 (i := 233) rfl rfl
theorem t_4_234 : Jvm.Cond.code ({ cls := "DropsDance", name := "isSheet", desc := "(I)Z" } : Jvm.MethodName) prog_1_method_45_code (1 : Nat) (Option.some Jvm.ClassFile.FieldType.boolean) ∈ TB := tb_in4 (i := 234) rfl rfl
theorem t_4_235 : Jvm.Cond.methodLink "DropsDance" (328 : Nat) ({ cls := "DropsDance", name := "isLane", desc := "(I)Z" } : Jvm.MethodName) ∈ TB := tb_in4 (i := 235) rfl rfl
theorem t_4_236 : Jvm.Cond.static ({ cls := "DropsDance", name := "isLane", desc := "(I)Z" } : Jvm.MethodName) ∈ TB := tb_in4 (i := 236) rfl rfl
theorem t_4_237 : Jvm.Cond.code ({ cls := "DropsDance", name := "isLane", desc := "(I)Z" } : Jvm.MethodName) prog_1_method_46_code (1 : Nat) (Option.some Jvm.ClassFile.FieldType.boolean) ∈ TB := tb_in4 (i := 237) rfl rfl
theorem t_4_238 : Jvm.Cond.methodLink "DropsDance" (331 : Nat) ({ cls := "DropsDance$Sheet", name := "becomeNew", desc := "(II)V" } : Jvm.MethodName) ∈ TB := tb_in4 (i := 238) rfl rfl
theorem t_4_239 : Jvm.Cond.instanceMethod ({ cls := "DropsDance$Sheet", name := "becomeNew", desc := "(II)V" } : Jvm.MethodName) ∈ TB := tb_in4 (i := 239) rfl rfl
theorem t_5_0 : Jvm.Cond.selects "DropsDance$Sheet" ({ cls := "DropsDance$Sheet", name := "becomeNew", desc := "(II)V" } : Jvm.MethodName) ({ cls := "DropsDance$Sheet", name := "becomeNew", desc := "(II)V" } : Jvm.MethodName) ∈ TB := tb_in5 (i := 0) rfl rfl
theorem t_5_1 : Jvm.Cond.code ({ cls := "DropsDance$Sheet", name := "becomeNew", desc := "(II)V" } : Jvm.MethodName) prog_9_method_2_code (3 : Nat) (Option.none : Option Jvm.ClassFile.FieldType) ∈ TB := tb_in5 (i := 1) rfl rfl
theorem t_5_2 : Jvm.Cond.methodLink "DropsDance$Sheet" (22 : Nat) ({ cls := "java/util/Arrays", name := "fill", desc := "([II)V" } : Jvm.MethodName) ∈ TB := tb_in5 (i := 2) rfl rfl
theorem t_5_3 : Jvm.Cond.methodLink "DropsDanceLaw" (155 : Nat) ({ cls := "DropsDance", name := "lay", desc := "(III)I" } : Jvm.MethodName) ∈ TB := tb_in5 (i := 3) rfl rfl
theorem t_5_4 : Jvm.Cond.instanceMethod ({ cls := "DropsDance", name := "lay", desc := "(III)I" } : Jvm.MethodName) ∈ TB := tb_in5 (i := 4) rfl rfl
theorem t_5_5 : Jvm.Cond.selects "DropsDance" ({ cls := "DropsDance", name := "lay", desc := "(III)I" } : Jvm.MethodName) ({ cls := "DropsDance", name := "lay", desc := "(III)I" } : Jvm.MethodName) ∈ TB := tb_in5 (i := 5) rfl rfl
theorem t_5_6 : Jvm.Cond.code ({ cls := "DropsDance", name := "lay", desc := "(III)I" } : Jvm.MethodName) prog_1_method_34_code (5 : Nat) (Option.some Jvm.ClassFile.FieldType.int) ∈ TB := tb_in5 (i := 6) rfl rfl
theorem t_5_7 : Jvm.Cond.methodLink "DropsDance" (335 : Nat) ({ cls := "DropsDance$Sheet", name := "faultAt", desc := "(I)I" } : Jvm.MethodName) ∈ TB := tb_in5 (i := 7) rfl rfl
theorem t_5_8 : Jvm.Cond.instanceMethod ({ cls := "DropsDance$Sheet", name := "faultAt", desc := "(I)I" } : Jvm.MethodName) ∈ TB := tb_in5 (i := 8) rfl rfl
theorem t_5_9 : Jvm.Cond.selects "DropsDance$Sheet" ({ cls := "DropsDance$Sheet", name := "faultAt", desc := "(I)I" } : Jvm.MethodName) ({ cls := "DropsDance$Sheet", name := "faultAt", desc := "(I)I" } : Jvm.MethodName) ∈ TB := tb_in5 (i := 9) rfl rfl
theorem t_5_10 : Jvm.Cond.code ({ cls := "DropsDance$Sheet", name := "faultAt", desc := "(I)I" } : Jvm.MethodName) prog_9_method_3_code (2 : Nat) (Option.some Jvm.ClassFile.FieldType.int) ∈ TB := tb_in5 (i := 10) rfl rfl
theorem t_5_11 : Jvm.Cond.methodLink "DropsDance" (338 : Nat) ({ cls := "DropsDance$Sheet", name := "write", desc := "(II)V" } : Jvm.MethodName) ∈ TB := tb_in5 (i := 11) rfl rfl
theorem t_5_12 : Jvm.Cond.instanceMethod ({ cls := "DropsDance$Sheet", name := "write", desc := "(II)V" } : Jvm.MethodName) ∈ TB := tb_in5 (i := 12) rfl rfl
theorem t_5_13 : Jvm.Cond.selects "DropsDance$Sheet" ({ cls := "DropsDance$Sheet", name := "write", desc := "(II)V" } : Jvm.MethodName) ({ cls := "DropsDance$Sheet", name := "write", desc := "(II)V" } : Jvm.MethodName) ∈ TB := tb_in5 (i := 13) rfl rfl
theorem t_5_14 : Jvm.Cond.code ({ cls := "DropsDance$Sheet", name := "write", desc := "(II)V" } : Jvm.MethodName) prog_9_method_5_code (3 : Nat) (Option.none : Option Jvm.ClassFile.FieldType) ∈ TB := tb_in5 (i := 14) rfl rfl
theorem t_5_15 : Jvm.Cond.methodLink "DropsDance$Sheet" (28 : Nat) ({ cls := "DropsDance$Sheet", name := "faultAt", desc := "(I)I" } : Jvm.MethodName) ∈ TB := tb_in5 (i := 15) rfl rfl
theorem t_5_16 : Jvm.Cond.methodLink "DropsDanceLaw" (159 : Nat) ({ cls := "DropsDance", name := "read", desc := "(IIII)I" } : Jvm.MethodName) ∈ TB := tb_in5 (i := 16) rfl rfl
theorem t_5_17 : Jvm.Cond.instanceMethod ({ cls := "DropsDance", name := "read", desc := "(IIII)I" } : Jvm.MethodName) ∈ TB := tb_in5 (i := 17) rfl rfl
theorem t_5_18 : Jvm.Cond.selects "DropsDance" ({ cls := "DropsDance", name := "read", desc := "(IIII)I" } : Jvm.MethodName) ({ cls := "DropsDance", name := "read", desc := "(IIII)I" } : Jvm.MethodName) ∈ TB := tb_in5 (i := 18) rfl rfl
theorem t_5_19 : Jvm.Cond.code ({ cls := "DropsDance", name := "read", desc := "(IIII)I" } : Jvm.MethodName) prog_1_method_35_code (13 : Nat) (Option.some Jvm.ClassFile.FieldType.int) ∈ TB := tb_in5 (i := 19) rfl rfl
theorem t_5_20 : Jvm.Cond.methodLink "DropsDance" (342 : Nat) ({ cls := "DropsDance$Sheet", name := "faultOfDrop", desc := "(III)I" } : Jvm.MethodName) ∈ TB := tb_in5 (i := 20) rfl rfl
theorem t_5_21 : Jvm.Cond.instanceMethod ({ cls := "DropsDance$Sheet", name := "faultOfDrop", desc := "(III)I" } : Jvm.MethodName) ∈ TB := tb_in5 (i := 21) rfl rfl
theorem t_5_22 : Jvm.Cond.selects "DropsDance$Sheet" ({ cls := "DropsDance$Sheet", name := "faultOfDrop", desc := "(III)I" } : Jvm.MethodName) ({ cls := "DropsDance$Sheet", name := "faultOfDrop", desc := "(III)I" } : Jvm.MethodName) ∈ TB := tb_in5 (i := 22) rfl rfl
theorem t_5_23 : Jvm.Cond.code ({ cls := "DropsDance$Sheet", name := "faultOfDrop", desc := "(III)I" } : Jvm.MethodName) prog_9_method_4_code (5 : Nat) (Option.some Jvm.ClassFile.FieldType.int) ∈ TB := tb_in5 (i := 23) rfl rfl
theorem t_5_24 : Jvm.Cond.methodLink "DropsDance" (345 : Nat) ({ cls := "DropsDance$Sheet", name := "valueAt", desc := "(I)I" } : Jvm.MethodName) ∈ TB := tb_in5 (i := 24) rfl rfl
theorem t_5_25 : Jvm.Cond.instanceMethod ({ cls := "DropsDance$Sheet", name := "valueAt", desc := "(I)I" } : Jvm.MethodName) ∈ TB := tb_in5 (i := 25) rfl rfl
theorem t_5_26 : Jvm.Cond.selects "DropsDance$Sheet" ({ cls := "DropsDance$Sheet", name := "valueAt", desc := "(I)I" } : Jvm.MethodName) ({ cls := "DropsDance$Sheet", name := "valueAt", desc := "(I)I" } : Jvm.MethodName) ∈ TB := tb_in5 (i := 26) rfl rfl
theorem t_5_27 : Jvm.Cond.code ({ cls := "DropsDance$Sheet", name := "valueAt", desc := "(I)I" } : Jvm.MethodName) prog_9_method_6_code (2 : Nat) (Option.some Jvm.ClassFile.FieldType.int) ∈ TB := tb_in5 (i := 27) rfl rfl
theorem t_5_28 : Jvm.Cond.methodLink "DropsDanceLaw" (163 : Nat) ({ cls := "DropsDance", name := "torn", desc := "()I" } : Jvm.MethodName) ∈ TB := tb_in5 (i := 28) rfl rfl
theorem t_5_29 : Jvm.Cond.instanceMethod ({ cls := "DropsDance", name := "torn", desc := "()I" } : Jvm.MethodName) ∈ TB := tb_in5 (i := 29) rfl rfl
theorem t_5_30 : Jvm.Cond.selects "DropsDance" ({ cls := "DropsDance", name := "torn", desc := "()I" } : Jvm.MethodName) ({ cls := "DropsDance", name := "torn", desc := "()I" } : Jvm.MethodName) ∈ TB := tb_in5 (i := 30) rfl rfl
theorem t_5_31 : Jvm.Cond.code ({ cls := "DropsDance", name := "torn", desc := "()I" } : Jvm.MethodName) prog_1_method_36_code (1 : Nat) (Option.some Jvm.ClassFile.FieldType.int) ∈ TB := tb_in5 (i := 31) rfl rfl
theorem t_5_32 : Jvm.Cond.methodLink "DropsDanceLaw" (167 : Nat) ({ cls := "DropsDance", name := "count", desc := "(I)I" } : Jvm.MethodName) ∈ TB := tb_in5 (i := 32) rfl rfl
theorem t_5_33 : Jvm.Cond.instanceMethod ({ cls := "DropsDance", name := "count", desc := "(I)I" } : Jvm.MethodName) ∈ TB := tb_in5 (i := 33) rfl rfl
theorem t_5_34 : Jvm.Cond.selects "DropsDance" ({ cls := "DropsDance", name := "count", desc := "(I)I" } : Jvm.MethodName) ({ cls := "DropsDance", name := "count", desc := "(I)I" } : Jvm.MethodName) ∈ TB := tb_in5 (i := 34) rfl rfl
theorem t_5_35 : Jvm.Cond.code ({ cls := "DropsDance", name := "count", desc := "(I)I" } : Jvm.MethodName) prog_1_method_37_code (2 : Nat) (Option.some Jvm.ClassFile.FieldType.int) ∈ TB := tb_in5 (i := 35) rfl rfl
theorem t_5_36 : Jvm.Cond.methodLink "DropsDance" (348 : Nat) ({ cls := "DropsDance", name := "howManyImages", desc := "()I" } : Jvm.MethodName) ∈ TB := tb_in5 (i := 36) rfl rfl
theorem t_5_38 : Jvm.Cond.instanceMethod ({ cls := "DropsDance", name := "howManyImages", desc := "()I" } : Jvm.MethodName) ∈ TB := tb_in5 (i := 38) rfl rfl
theorem t_5_39 : Jvm.Cond.code ({ cls := "DropsDance", name := "howManyImages", desc := "()I" } : Jvm.MethodName) prog_1_method_39_code (3 : Nat) (Option.some Jvm.ClassFile.FieldType.int) ∈ TB := tb_in5 (i := 39) rfl rfl
theorem t_5_40 : Jvm.Cond.methodLink "DropsDance" (351 : Nat) ({ cls := "DropsDance$Scene", name := "howManyHoles", desc := "()I" } : Jvm.MethodName) ∈ TB := tb_in5 (i := 40) rfl rfl
theorem t_5_41 : Jvm.Cond.instanceMethod ({ cls := "DropsDance$Scene", name := "howManyHoles", desc := "()I" } : Jvm.MethodName) ∈ TB := tb_in5 (i := 41) rfl rfl
theorem t_5_42 : Jvm.Cond.selects "DropsDance$Scene" ({ cls := "DropsDance$Scene", name := "howManyHoles", desc := "()I" } : Jvm.MethodName) ({ cls := "DropsDance$Scene", name := "howManyHoles", desc := "()I" } : Jvm.MethodName) ∈ TB := tb_in5 (i := 42) rfl rfl
theorem t_5_43 : Jvm.Cond.code ({ cls := "DropsDance$Scene", name := "howManyHoles", desc := "()I" } : Jvm.MethodName) prog_8_method_13_code (3 : Nat) (Option.some Jvm.ClassFile.FieldType.int) ∈ TB := tb_in5 (i := 43) rfl rfl
theorem t_5_44 : Jvm.Cond.classLink "DropsDanceLaw" (10 : Nat) "DropsDanceModel" ∈ TB := tb_in5 (i := 44) rfl rfl
theorem t_5_45 : Jvm.Cond.instantiable "DropsDanceModel" (29 : Nat) ∈ TB := tb_in5 (i := 45) rfl rfl
theorem t_5_46 : Jvm.Cond.methodLink "DropsDanceLaw" (12 : Nat) ({ cls := "DropsDanceModel", name := "<init>", desc := "()V" } : Jvm.MethodName) ∈ TB := tb_in5 (i := 46) rfl rfl
theorem t_5_47 : Jvm.Cond.instanceMethod ({ cls := "DropsDanceModel", name := "<init>", desc := "()V" } : Jvm.MethodName) ∈ TB := tb_in5 (i := 47) rfl rfl
theorem t_5_48 : Jvm.Cond.code ({ cls := "DropsDanceModel", name := "<init>", desc := "()V" } : Jvm.MethodName) prog_13_method_1_code (2 : Nat) (Option.none : Option Jvm.ClassFile.FieldType) ∈ TB := tb_in5 (i := 48) rfl rfl
theorem t_5_49 : Jvm.Cond.methodLink "DropsDanceModel" (1 : Nat) ({ cls := "java/lang/Object", name := "<init>", desc := "()V" } : Jvm.MethodName) ∈ TB := tb_in5 (i := 49) rfl rfl
theorem t_5_50 : Jvm.Cond.methodLink "DropsDanceModel" (54 : Nat) ({ cls := "DropsDanceModel", name := "firstDraft", desc := "()V" } : Jvm.MethodName) ∈ TB := tb_in5 (i := 50) rfl rfl
theorem t_5_52 : Jvm.Cond.instanceMethod ({ cls := "DropsDanceModel", name := "firstDraft", desc := "()V" } : Jvm.MethodName) ∈ TB := tb_in5 (i := 52) rfl rfl
theorem t_5_53 : Jvm.Cond.code ({ cls := "DropsDanceModel", name := "firstDraft", desc := "()V" } : Jvm.MethodName) prog_13_method_6_code (2 : Nat) (Option.none : Option Jvm.ClassFile.FieldType) ∈ TB := tb_in5 (i := 53) rfl rfl
theorem t_5_54 : Jvm.Cond.methodLink "DropsDanceModel" (57 : Nat) ({ cls := "DropsDanceModel", name := "keepDraft", desc := "()V" } : Jvm.MethodName) ∈ TB := tb_in5 (i := 54) rfl rfl
theorem t_5_56 : Jvm.Cond.instanceMethod ({ cls := "DropsDanceModel", name := "keepDraft", desc := "()V" } : Jvm.MethodName) ∈ TB := tb_in5 (i := 56) rfl rfl
theorem t_5_57 : Jvm.Cond.code ({ cls := "DropsDanceModel", name := "keepDraft", desc := "()V" } : Jvm.MethodName) prog_13_method_7_code (3 : Nat) (Option.none : Option Jvm.ClassFile.FieldType) ∈ TB := tb_in5 (i := 57) rfl rfl
theorem t_5_58 : Jvm.Cond.fieldLink "DropsDanceModel" (7 : Nat) "DropsDanceModel" "st" "[I" ∈ TB := tb_in5 (i := 58) rfl rfl
theorem t_5_59 : Jvm.Cond.fieldLink "DropsDanceModel" (13 : Nat) "DropsDanceModel" "isKept" "[Z" ∈ TB := tb_in5 (i := 59) rfl rfl
theorem t_5_60 : Jvm.Cond.fieldLink "DropsDanceModel" (17 : Nat) "DropsDanceModel" "rule" "[I" ∈ TB := tb_in5 (i := 60) rfl rfl
theorem t_5_61 : Jvm.Cond.fieldLink "DropsDanceModel" (20 : Nat) "DropsDanceModel" "dRule" "[I" ∈ TB := tb_in5 (i := 61) rfl rfl
theorem t_5_62 : Jvm.Cond.fieldLink "DropsDanceModel" (23 : Nat) "DropsDanceModel" "isTold" "[Z" ∈ TB := tb_in5 (i := 62) rfl rfl
theorem t_5_63 : Jvm.Cond.fieldLink "DropsDanceModel" (60 : Nat) "DropsDanceModel" "dRows" "I" ∈ TB := tb_in5 (i := 63) rfl rfl
theorem t_5_64 : Jvm.Cond.fieldLink "DropsDanceModel" (26 : Nat) "DropsDanceModel" "dPlate" "[I" ∈ TB := tb_in5 (i := 64) rfl rfl
theorem t_5_65 : Jvm.Cond.fieldLink "DropsDanceModel" (29 : Nat) "DropsDanceModel" "tape" "[I" ∈ TB := tb_in5 (i := 65) rfl rfl
theorem t_5_66 : Jvm.Cond.fieldLink "DropsDanceModel" (67 : Nat) "DropsDanceModel" "taped" "I" ∈ TB := tb_in5 (i := 66) rfl rfl
theorem t_5_67 : Jvm.Cond.fieldLink "DropsDanceModel" (85 : Nat) "DropsDanceModel" "pos" "I" ∈ TB := tb_in5 (i := 67) rfl rfl
theorem t_5_68 : Jvm.Cond.fieldLink "DropsDanceModel" (79 : Nat) "DropsDanceModel" "from" "I" ∈ TB := tb_in5 (i := 68) rfl rfl
theorem t_5_69 : Jvm.Cond.fieldLink "DropsDanceModel" (96 : Nat) "DropsDanceModel" "sort" "I" ∈ TB := tb_in5 (i := 69) rfl rfl
theorem t_5_70 : Jvm.Cond.fieldLink "DropsDanceModel" (107 : Nat) "DropsDanceModel" "value" "I" ∈ TB := tb_in5 (i := 70) rfl rfl
theorem t_5_71 : Jvm.Cond.fieldLink "DropsDanceModel" (76 : Nat) "DropsDanceModel" "fault" "I" ∈ TB := tb_in5 (i := 71) rfl rfl
theorem t_5_72 : Jvm.Cond.fieldLink "DropsDanceModel" (82 : Nat) "DropsDanceModel" "wrongAt" "I" ∈ TB := tb_in5 (i := 72) rfl rfl
theorem t_5_73 : Jvm.Cond.fieldLink "DropsDanceModel" (223 : Nat) "DropsDanceModel" "oneAt" "I" ∈ TB := tb_in5 (i := 73) rfl rfl
theorem t_5_74 : Jvm.Cond.fieldLink "DropsDanceModel" (226 : Nat) "DropsDanceModel" "oneBig" "I" ∈ TB := tb_in5 (i := 74) rfl rfl
theorem t_5_75 : Jvm.Cond.fieldLink "DropsDanceModel" (229 : Nat) "DropsDanceModel" "oneWay" "I" ∈ TB := tb_in5 (i := 75) rfl rfl
theorem t_5_76 : Jvm.Cond.fieldLink "DropsDanceModel" (232 : Nat) "DropsDanceModel" "oneGone" "I" ∈ TB := tb_in5 (i := 76) rfl rfl
theorem t_5_77 : Jvm.Cond.fieldLink "DropsDanceModel" (235 : Nat) "DropsDanceModel" "oneWhen" "I" ∈ TB := tb_in5 (i := 77) rfl rfl
theorem t_5_78 : Jvm.Cond.fieldLink "DropsDanceModel" (32 : Nat) "DropsDanceModel" "seen" "[I" ∈ TB := tb_in5 (i := 78) rfl rfl
theorem t_5_79 : Jvm.Cond.fieldLink "DropsDanceModel" (35 : Nat) "DropsDanceModel" "waysTo" "[J" ∈ TB := tb_in5 (i := 79) rfl rfl
theorem t_5_80 : Jvm.Cond.fieldLink "DropsDanceModel" (39 : Nat) "DropsDanceModel" "waysThen" "[J" ∈ TB := tb_in5 (i := 80) rfl rfl
theorem t_5_81 : Jvm.Cond.fieldLink "DropsDanceModel" (64 : Nat) "DropsDanceModel" "saws" "I" ∈ TB := tb_in5 (i := 81) rfl rfl
theorem t_5_82 : Jvm.Cond.fieldLink "DropsDanceModel" (42 : Nat) "DropsDanceModel" "saw" "[I" ∈ TB := tb_in5 (i := 82) rfl rfl
theorem t_5_83 : Jvm.Cond.fieldLink "DropsDanceModel" (45 : Nat) "DropsDanceModel" "lanes" "[I" ∈ TB := tb_in5 (i := 83) rfl rfl
theorem t_5_84 : Jvm.Cond.fieldLink "DropsDanceModel" (48 : Nat) "DropsDanceModel" "sizes" "[I" ∈ TB := tb_in5 (i := 84) rfl rfl
theorem t_5_85 : Jvm.Cond.fieldLink "DropsDanceModel" (51 : Nat) "DropsDanceModel" "cells" "[I" ∈ TB := tb_in5 (i := 85) rfl rfl
theorem t_5_86 : Jvm.Cond.fieldLink "DropsDanceModel" (319 : Nat) "DropsDanceModel" "torn" "I" ∈ TB := tb_in5 (i := 86) rfl rfl
theorem t_5_87 : Jvm.Cond.laysFinal "DropsDanceModel" "DropsDanceModel" "st" "[I" ∈ TB := tb_in5 (i := 87) rfl rfl
theorem t_5_89 : Jvm.Cond.laysFinal "DropsDanceModel" "DropsDanceModel" "isKept" "[Z" ∈ TB := tb_in5 (i := 89) rfl rfl
theorem t_5_91 : Jvm.Cond.laysFinal "DropsDanceModel" "DropsDanceModel" "rule" "[I" ∈ TB := tb_in5 (i := 91) rfl rfl
theorem t_5_93 : Jvm.Cond.laysFinal "DropsDanceModel" "DropsDanceModel" "dRule" "[I" ∈ TB := tb_in5 (i := 93) rfl rfl
theorem t_5_95 : Jvm.Cond.laysFinal "DropsDanceModel" "DropsDanceModel" "isTold" "[Z" ∈ TB := tb_in5 (i := 95) rfl rfl
theorem t_5_97 : Jvm.Cond.lays "DropsDanceModel" "DropsDanceModel" "dRows" "I" ∈ TB := tb_in5 (i := 97) rfl rfl
theorem t_5_99 : Jvm.Cond.laysFinal "DropsDanceModel" "DropsDanceModel" "dPlate" "[I" ∈ TB := tb_in5 (i := 99) rfl rfl
theorem t_5_101 : Jvm.Cond.laysFinal "DropsDanceModel" "DropsDanceModel" "tape" "[I" ∈ TB := tb_in5 (i := 101) rfl rfl
theorem t_5_103 : Jvm.Cond.lays "DropsDanceModel" "DropsDanceModel" "taped" "I" ∈ TB := tb_in5 (i := 103) rfl rfl
theorem t_5_105 : Jvm.Cond.lays "DropsDanceModel" "DropsDanceModel" "pos" "I" ∈ TB := tb_in5 (i := 105) rfl rfl
theorem t_5_107 : Jvm.Cond.lays "DropsDanceModel" "DropsDanceModel" "from" "I" ∈ TB := tb_in5 (i := 107) rfl rfl
theorem t_5_109 : Jvm.Cond.lays "DropsDanceModel" "DropsDanceModel" "sort" "I" ∈ TB := tb_in5 (i := 109) rfl rfl
theorem t_5_111 : Jvm.Cond.lays "DropsDanceModel" "DropsDanceModel" "value" "I" ∈ TB := tb_in5 (i := 111) rfl rfl
theorem t_5_113 : Jvm.Cond.lays "DropsDanceModel" "DropsDanceModel" "fault" "I" ∈ TB := tb_in5 (i := 113) rfl rfl
theorem t_5_115 : Jvm.Cond.lays "DropsDanceModel" "DropsDanceModel" "wrongAt" "I" ∈ TB := tb_in5 (i := 115) rfl rfl
theorem t_5_117 : Jvm.Cond.lays "DropsDanceModel" "DropsDanceModel" "oneAt" "I" ∈ TB := tb_in5 (i := 117) rfl rfl
theorem t_5_119 : Jvm.Cond.lays "DropsDanceModel" "DropsDanceModel" "oneBig" "I" ∈ TB := tb_in5 (i := 119) rfl rfl
theorem t_5_121 : Jvm.Cond.lays "DropsDanceModel" "DropsDanceModel" "oneWay" "I" ∈ TB := tb_in5 (i := 121) rfl rfl
theorem t_5_123 : Jvm.Cond.lays "DropsDanceModel" "DropsDanceModel" "oneGone" "I" ∈ TB := tb_in5 (i := 123) rfl rfl
theorem t_5_125 : Jvm.Cond.lays "DropsDanceModel" "DropsDanceModel" "oneWhen" "I" ∈ TB := tb_in5 (i := 125) rfl rfl
theorem t_5_127 : Jvm.Cond.laysFinal "DropsDanceModel" "DropsDanceModel" "seen" "[I" ∈ TB := tb_in5 (i := 127) rfl rfl
theorem t_5_129 : Jvm.Cond.laysFinal "DropsDanceModel" "DropsDanceModel" "waysTo" "[J" ∈ TB := tb_in5 (i := 129) rfl rfl
theorem t_5_131 : Jvm.Cond.laysFinal "DropsDanceModel" "DropsDanceModel" "waysThen" "[J" ∈ TB := tb_in5 (i := 131) rfl rfl
theorem t_5_133 : Jvm.Cond.lays "DropsDanceModel" "DropsDanceModel" "saws" "I" ∈ TB := tb_in5 (i := 133) rfl rfl
theorem t_5_135 : Jvm.Cond.laysFinal "DropsDanceModel" "DropsDanceModel" "saw" "[I" ∈ TB := tb_in5 (i := 135) rfl rfl
theorem t_5_137 : Jvm.Cond.laysFinal "DropsDanceModel" "DropsDanceModel" "lanes" "[I" ∈ TB := tb_in5 (i := 137) rfl rfl
theorem t_5_139 : Jvm.Cond.laysFinal "DropsDanceModel" "DropsDanceModel" "sizes" "[I" ∈ TB := tb_in5 (i := 139) rfl rfl
theorem t_5_141 : Jvm.Cond.laysFinal "DropsDanceModel" "DropsDanceModel" "cells" "[I" ∈ TB := tb_in5 (i := 141) rfl rfl
theorem t_5_143 : Jvm.Cond.lays "DropsDanceModel" "DropsDanceModel" "torn" "I" ∈ TB := tb_in5 (i := 143) rfl rfl
theorem t_5_146 : Jvm.Cond.methodLink "DropsDanceLaw" (19 : Nat) ({ cls := "DropsDanceModel", name := "feed", desc := "(J)I" } : Jvm.MethodName) ∈ TB := tb_in5 (i := 146) rfl rfl
theorem t_5_147 : Jvm.Cond.instanceMethod ({ cls := "DropsDanceModel", name := "feed", desc := "(J)I" } : Jvm.MethodName) ∈ TB := tb_in5 (i := 147) rfl rfl
theorem t_5_148 : Jvm.Cond.selects "DropsDanceModel" ({ cls := "DropsDanceModel", name := "feed", desc := "(J)I" } : Jvm.MethodName) ({ cls := "DropsDanceModel", name := "feed", desc := "(J)I" } : Jvm.MethodName) ∈ TB := tb_in5 (i := 148) rfl rfl
theorem t_5_149 : Jvm.Cond.code ({ cls := "DropsDanceModel", name := "feed", desc := "(J)I" } : Jvm.MethodName) prog_13_method_8_code (4 : Nat) (Option.some Jvm.ClassFile.FieldType.int) ∈ TB := tb_in5 (i := 149) rfl rfl
theorem t_5_150 : Jvm.Cond.constantLong "DropsDanceModel" (70 : Nat) (255 : Int64) ∈ TB := tb_in5 (i := 150) rfl rfl
theorem t_5_151 : Jvm.Cond.methodLink "DropsDanceLaw" (24 : Nat) ({ cls := "DropsDanceModel", name := "end", desc := "(I)I" } : Jvm.MethodName) ∈ TB := tb_in5 (i := 151) rfl rfl
theorem t_5_152 : Jvm.Cond.instanceMethod ({ cls := "DropsDanceModel", name := "end", desc := "(I)I" } : Jvm.MethodName) ∈ TB := tb_in5 (i := 152) rfl rfl
theorem t_5_153 : Jvm.Cond.selects "DropsDanceModel" ({ cls := "DropsDanceModel", name := "end", desc := "(I)I" } : Jvm.MethodName) ({ cls := "DropsDanceModel", name := "end", desc := "(I)I" } : Jvm.MethodName) ∈ TB := tb_in5 (i := 153) rfl rfl
theorem t_5_154 : Jvm.Cond.code ({ cls := "DropsDanceModel", name := "end", desc := "(I)I" } : Jvm.MethodName) prog_13_method_9_code (3 : Nat) (Option.some Jvm.ClassFile.FieldType.int) ∈ TB := tb_in5 (i := 154) rfl rfl
theorem t_5_155 : Jvm.Cond.methodLink "DropsDanceModel" (72 : Nat) ({ cls := "DropsDanceModel", name := "in", desc := "(JJJ)Z" } : Jvm.MethodName) ∈ TB := tb_in5 (i := 155) rfl rfl
theorem t_5_156 : Jvm.Cond.static ({ cls := "DropsDanceModel", name := "in", desc := "(JJJ)Z" } : Jvm.MethodName) ∈ TB := tb_in5 (i := 156) rfl rfl
theorem t_5_157 : Jvm.Cond.code ({ cls := "DropsDanceModel", name := "in", desc := "(JJJ)Z" } : Jvm.MethodName) prog_13_method_3_code (6 : Nat) (Option.some Jvm.ClassFile.FieldType.boolean) ∈ TB := tb_in5 (i := 157) rfl rfl
theorem t_5_158 : Jvm.Cond.methodLink "DropsDanceLaw" (29 : Nat) ({ cls := "DropsDanceModel", name := "text", desc := "()I" } : Jvm.MethodName) ∈ TB := tb_in5 (i := 158) rfl rfl
theorem t_5_159 : Jvm.Cond.instanceMethod ({ cls := "DropsDanceModel", name := "text", desc := "()I" } : Jvm.MethodName) ∈ TB := tb_in5 (i := 159) rfl rfl
theorem t_5_160 : Jvm.Cond.selects "DropsDanceModel" ({ cls := "DropsDanceModel", name := "text", desc := "()I" } : Jvm.MethodName) ({ cls := "DropsDanceModel", name := "text", desc := "()I" } : Jvm.MethodName) ∈ TB := tb_in5 (i := 160) rfl rfl
theorem t_5_161 : Jvm.Cond.code ({ cls := "DropsDanceModel", name := "text", desc := "()I" } : Jvm.MethodName) prog_13_method_21_code (2 : Nat) (Option.some Jvm.ClassFile.FieldType.int) ∈ TB := tb_in5 (i := 161) rfl rfl
theorem t_5_162 : Jvm.Cond.methodLink "DropsDanceModel" (114 : Nat) ({ cls := "DropsDanceModel", name := "next", desc := "()V" } : Jvm.MethodName) ∈ TB := tb_in5 (i := 162) rfl rfl
theorem t_5_164 : Jvm.Cond.instanceMethod ({ cls := "DropsDanceModel", name := "next", desc := "()V" } : Jvm.MethodName) ∈ TB := tb_in5 (i := 164) rfl rfl
theorem t_5_165 : Jvm.Cond.code ({ cls := "DropsDanceModel", name := "next", desc := "()V" } : Jvm.MethodName) prog_13_method_14_code (2 : Nat) (Option.none : Option Jvm.ClassFile.FieldType) ∈ TB := tb_in5 (i := 165) rfl rfl
theorem t_5_166 : Jvm.Cond.methodLink "DropsDanceModel" (88 : Nat) ({ cls := "DropsDanceModel", name := "look", desc := "(I)I" } : Jvm.MethodName) ∈ TB := tb_in5 (i := 166) rfl rfl
theorem t_5_168 : Jvm.Cond.instanceMethod ({ cls := "DropsDanceModel", name := "look", desc := "(I)I" } : Jvm.MethodName) ∈ TB := tb_in5 (i := 168) rfl rfl
theorem t_5_169 : Jvm.Cond.code ({ cls := "DropsDanceModel", name := "look", desc := "(I)I" } : Jvm.MethodName) prog_13_method_11_code (2 : Nat) (Option.some Jvm.ClassFile.FieldType.int) ∈ TB := tb_in5 (i := 169) rfl rfl
theorem t_5_170 : Jvm.Cond.constantLong "DropsDanceModel" (99 : Nat) (97 : Int64) ∈ TB := tb_in5 (i := 170) rfl rfl
theorem t_5_171 : Jvm.Cond.constantLong "DropsDanceModel" (101 : Nat) (122 : Int64) ∈ TB := tb_in5 (i := 171) rfl rfl
theorem t_5_172 : Jvm.Cond.constantLong "DropsDanceModel" (103 : Nat) (48 : Int64) ∈ TB := tb_in5 (i := 172) rfl rfl
theorem t_5_173 : Jvm.Cond.constantLong "DropsDanceModel" (105 : Nat) (57 : Int64) ∈ TB := tb_in5 (i := 173) rfl rfl
theorem t_5_174 : Jvm.Cond.methodLink "DropsDanceModel" (110 : Nat) ({ cls := "DropsDanceModel", name := "needs", desc := "(ZI)V" } : Jvm.MethodName) ∈ TB := tb_in5 (i := 174) rfl rfl
theorem t_5_176 : Jvm.Cond.instanceMethod ({ cls := "DropsDanceModel", name := "needs", desc := "(ZI)V" } : Jvm.MethodName) ∈ TB := tb_in5 (i := 176) rfl rfl
theorem t_5_177 : Jvm.Cond.code ({ cls := "DropsDanceModel", name := "needs", desc := "(ZI)V" } : Jvm.MethodName) prog_13_method_10_code (3 : Nat) (Option.none : Option Jvm.ClassFile.FieldType) ∈ TB := tb_in5 (i := 177) rfl rfl
theorem t_5_178 : Jvm.Cond.methodLink "DropsDanceModel" (141 : Nat) ({ cls := "DropsDanceModel", name := "readLine", desc := "()V" } : Jvm.MethodName) ∈ TB := tb_in5 (i := 178) rfl rfl
theorem t_5_180 : Jvm.Cond.instanceMethod ({ cls := "DropsDanceModel", name := "readLine", desc := "()V" } : Jvm.MethodName) ∈ TB := tb_in5 (i := 180) rfl rfl
theorem t_5_181 : Jvm.Cond.code ({ cls := "DropsDanceModel", name := "readLine", desc := "()V" } : Jvm.MethodName) prog_13_method_20_code (2 : Nat) (Option.none : Option Jvm.ClassFile.FieldType) ∈ TB := tb_in5 (i := 181) rfl rfl
theorem t_5_182 : Jvm.Cond.methodLink "DropsDanceModel" (124 : Nat) ({ cls := "DropsDanceModel", name := "nameNow", desc := "()I" } : Jvm.MethodName) ∈ TB := tb_in5 (i := 182) rfl rfl
theorem t_5_184 : Jvm.Cond.instanceMethod ({ cls := "DropsDanceModel", name := "nameNow", desc := "()I" } : Jvm.MethodName) ∈ TB := tb_in5 (i := 184) rfl rfl
theorem t_5_185 : Jvm.Cond.code ({ cls := "DropsDanceModel", name := "nameNow", desc := "()I" } : Jvm.MethodName) prog_13_method_13_code (1 : Nat) (Option.some Jvm.ClassFile.FieldType.int) ∈ TB := tb_in5 (i := 185) rfl rfl
theorem t_5_186 : Jvm.Cond.methodLink "DropsDanceModel" (92 : Nat) ({ cls := "DropsDanceModel", name := "starts", desc := "(IIIII)Z" } : Jvm.MethodName) ∈ TB := tb_in5 (i := 186) rfl rfl
theorem t_5_188 : Jvm.Cond.instanceMethod ({ cls := "DropsDanceModel", name := "starts", desc := "(IIIII)Z" } : Jvm.MethodName) ∈ TB := tb_in5 (i := 188) rfl rfl
theorem t_5_189 : Jvm.Cond.code ({ cls := "DropsDanceModel", name := "starts", desc := "(IIIII)Z" } : Jvm.MethodName) prog_13_method_12_code (6 : Nat) (Option.some Jvm.ClassFile.FieldType.boolean) ∈ TB := tb_in5 (i := 189) rfl rfl
theorem t_5_190 : Jvm.Cond.methodLink "DropsDanceModel" (128 : Nat) ({ cls := "DropsDanceModel", name := "readRow", desc := "()V" } : Jvm.MethodName) ∈ TB := tb_in5 (i := 190) rfl rfl
theorem t_5_192 : Jvm.Cond.instanceMethod ({ cls := "DropsDanceModel", name := "readRow", desc := "()V" } : Jvm.MethodName) ∈ TB := tb_in5 (i := 192) rfl rfl
theorem t_5_193 : Jvm.Cond.code ({ cls := "DropsDanceModel", name := "readRow", desc := "()V" } : Jvm.MethodName) prog_13_method_17_code (3 : Nat) (Option.none : Option Jvm.ClassFile.FieldType) ∈ TB := tb_in5 (i := 193) rfl rfl
theorem t_5_194 : Jvm.Cond.methodLink "DropsDanceModel" (117 : Nat) ({ cls := "DropsDanceModel", name := "kindOf", desc := "(I)I" } : Jvm.MethodName) ∈ TB := tb_in5 (i := 194) rfl rfl
theorem t_5_195 : Jvm.Cond.static ({ cls := "DropsDanceModel", name := "kindOf", desc := "(I)I" } : Jvm.MethodName) ∈ TB := tb_in5 (i := 195) rfl rfl
theorem t_5_196 : Jvm.Cond.code ({ cls := "DropsDanceModel", name := "kindOf", desc := "(I)I" } : Jvm.MethodName) prog_13_method_16_code (1 : Nat) (Option.some Jvm.ClassFile.FieldType.int) ∈ TB := tb_in5 (i := 196) rfl rfl
theorem t_5_197 : Jvm.Cond.methodLink "DropsDanceModel" (120 : Nat) ({ cls := "DropsDanceModel", name := "flag", desc := "(Z)I" } : Jvm.MethodName) ∈ TB := tb_in5 (i := 197) rfl rfl
theorem t_5_198 : Jvm.Cond.static ({ cls := "DropsDanceModel", name := "flag", desc := "(Z)I" } : Jvm.MethodName) ∈ TB := tb_in5 (i := 198) rfl rfl
theorem t_5_199 : Jvm.Cond.code ({ cls := "DropsDanceModel", name := "flag", desc := "(Z)I" } : Jvm.MethodName) prog_13_method_4_code (1 : Nat) (Option.some Jvm.ClassFile.FieldType.int) ∈ TB := tb_in5 (i := 199) rfl rfl
theorem t_5_200 : Jvm.Cond.methodLink "DropsDanceModel" (131 : Nat) ({ cls := "DropsDanceModel", name := "lowest", desc := "(I)I" } : Jvm.MethodName) ∈ TB := tb_in5 (i := 200) rfl rfl
theorem t_5_202 : Jvm.Cond.instanceMethod ({ cls := "DropsDanceModel", name := "lowest", desc := "(I)I" } : Jvm.MethodName) ∈ TB := tb_in5 (i := 202) rfl rfl
theorem t_5_203 : Jvm.Cond.code ({ cls := "DropsDanceModel", name := "lowest", desc := "(I)I" } : Jvm.MethodName) prog_13_method_18_code (2 : Nat) (Option.some Jvm.ClassFile.FieldType.int) ∈ TB := tb_in5 (i := 203) rfl rfl
theorem t_5_204 : Jvm.Cond.methodLink "DropsDanceModel" (134 : Nat) ({ cls := "DropsDanceModel", name := "highest", desc := "(I)I" } : Jvm.MethodName) ∈ TB := tb_in5 (i := 204) rfl rfl
theorem t_5_206 : Jvm.Cond.instanceMethod ({ cls := "DropsDanceModel", name := "highest", desc := "(I)I" } : Jvm.MethodName) ∈ TB := tb_in5 (i := 206) rfl rfl
theorem t_5_207 : Jvm.Cond.code ({ cls := "DropsDanceModel", name := "highest", desc := "(I)I" } : Jvm.MethodName) prog_13_method_19_code (2 : Nat) (Option.some Jvm.ClassFile.FieldType.int) ∈ TB := tb_in5 (i := 207) rfl rfl
theorem t_5_208 : Jvm.Cond.methodLink "DropsDanceModel" (137 : Nat) ({ cls := "DropsDanceModel", name := "readNumber", desc := "(II)I" } : Jvm.MethodName) ∈ TB := tb_in5 (i := 208) rfl rfl
theorem t_5_210 : Jvm.Cond.instanceMethod ({ cls := "DropsDanceModel", name := "readNumber", desc := "(II)I" } : Jvm.MethodName) ∈ TB := tb_in5 (i := 210) rfl rfl
theorem t_5_211 : Jvm.Cond.code ({ cls := "DropsDanceModel", name := "readNumber", desc := "(II)I" } : Jvm.MethodName) prog_13_method_15_code (4 : Nat) (Option.some Jvm.ClassFile.FieldType.int) ∈ TB := tb_in5 (i := 211) rfl rfl
theorem t_5_212 : Jvm.Cond.methodLink "DropsDanceLaw" (33 : Nat) ({ cls := "DropsDanceModel", name := "fault", desc := "()I" } : Jvm.MethodName) ∈ TB := tb_in5 (i := 212) rfl rfl
theorem t_5_213 : Jvm.Cond.instanceMethod ({ cls := "DropsDanceModel", name := "fault", desc := "()I" } : Jvm.MethodName) ∈ TB := tb_in5 (i := 213) rfl rfl
theorem t_5_214 : Jvm.Cond.selects "DropsDanceModel" ({ cls := "DropsDanceModel", name := "fault", desc := "()I" } : Jvm.MethodName) ({ cls := "DropsDanceModel", name := "fault", desc := "()I" } : Jvm.MethodName) ∈ TB := tb_in5 (i := 214) rfl rfl
theorem t_5_215 : Jvm.Cond.code ({ cls := "DropsDanceModel", name := "fault", desc := "()I" } : Jvm.MethodName) prog_13_method_22_code (1 : Nat) (Option.some Jvm.ClassFile.FieldType.int) ∈ TB := tb_in5 (i := 215) rfl rfl
theorem t_5_216 : Jvm.Cond.methodLink "DropsDanceLaw" (37 : Nat) ({ cls := "DropsDanceModel", name := "rule", desc := "(I)I" } : Jvm.MethodName) ∈ TB := tb_in5 (i := 216) rfl rfl
theorem t_5_217 : Jvm.Cond.instanceMethod ({ cls := "DropsDanceModel", name := "rule", desc := "(I)I" } : Jvm.MethodName) ∈ TB := tb_in5 (i := 217) rfl rfl
theorem t_5_218 : Jvm.Cond.selects "DropsDanceModel" ({ cls := "DropsDanceModel", name := "rule", desc := "(I)I" } : Jvm.MethodName) ({ cls := "DropsDanceModel", name := "rule", desc := "(I)I" } : Jvm.MethodName) ∈ TB := tb_in5 (i := 218) rfl rfl
theorem t_5_219 : Jvm.Cond.code ({ cls := "DropsDanceModel", name := "rule", desc := "(I)I" } : Jvm.MethodName) prog_13_method_23_code (2 : Nat) (Option.some Jvm.ClassFile.FieldType.int) ∈ TB := tb_in5 (i := 219) rfl rfl
theorem t_5_220 : Jvm.Cond.constantLong "DropsDanceModel" (144 : Nat) (8 : Int64) ∈ TB := tb_in5 (i := 220) rfl rfl
theorem t_5_221 : Jvm.Cond.methodLink "DropsDanceLaw" (41 : Nat) ({ cls := "DropsDanceModel", name := "cell", desc := "(I)I" } : Jvm.MethodName) ∈ TB := tb_in5 (i := 221) rfl rfl
theorem t_5_222 : Jvm.Cond.instanceMethod ({ cls := "DropsDanceModel", name := "cell", desc := "(I)I" } : Jvm.MethodName) ∈ TB := tb_in5 (i := 222) rfl rfl
theorem t_5_223 : Jvm.Cond.selects "DropsDanceModel" ({ cls := "DropsDanceModel", name := "cell", desc := "(I)I" } : Jvm.MethodName) ({ cls := "DropsDanceModel", name := "cell", desc := "(I)I" } : Jvm.MethodName) ∈ TB := tb_in5 (i := 223) rfl rfl
theorem t_5_224 : Jvm.Cond.code ({ cls := "DropsDanceModel", name := "cell", desc := "(I)I" } : Jvm.MethodName) prog_13_method_25_code (2 : Nat) (Option.some Jvm.ClassFile.FieldType.int) ∈ TB := tb_in5 (i := 224) rfl rfl
theorem t_5_225 : Jvm.Cond.methodLink "DropsDanceModel" (148 : Nat) ({ cls := "DropsDanceModel", name := "isCell", desc := "(I)Z" } : Jvm.MethodName) ∈ TB := tb_in5 (i := 225) rfl rfl
theorem t_5_226 : Jvm.Cond.static ({ cls := "DropsDanceModel", name := "isCell", desc := "(I)Z" } : Jvm.MethodName) ∈ TB := tb_in5 (i := 226) rfl rfl
theorem t_5_227 : Jvm.Cond.code ({ cls := "DropsDanceModel", name := "isCell", desc := "(I)Z" } : Jvm.MethodName) prog_13_method_24_code (1 : Nat) (Option.some Jvm.ClassFile.FieldType.boolean) ∈ TB := tb_in5 (i := 227) rfl rfl
theorem t_5_228 : Jvm.Cond.constantLong "DropsDanceModel" (146 : Nat) (95 : Int64) ∈ TB := tb_in5 (i := 228) rfl rfl
theorem t_5_229 : Jvm.Cond.methodLink "DropsDanceLaw" (46 : Nat) ({ cls := "DropsDanceModel", name := "put", desc := "(II)I" } : Jvm.MethodName) ∈ TB := tb_in5 (i := 229) rfl rfl
theorem t_5_230 : Jvm.Cond.instanceMethod ({ cls := "DropsDanceModel", name := "put", desc := "(II)I" } : Jvm.MethodName) ∈ TB := tb_in5 (i := 230) rfl rfl
theorem t_5_231 : Jvm.Cond.selects "DropsDanceModel" ({ cls := "DropsDanceModel", name := "put", desc := "(II)I" } : Jvm.MethodName) ({ cls := "DropsDanceModel", name := "put", desc := "(II)I" } : Jvm.MethodName) ∈ TB := tb_in5 (i := 231) rfl rfl
theorem t_5_232 : Jvm.Cond.code ({ cls := "DropsDanceModel", name := "put", desc := "(II)I" } : Jvm.MethodName) prog_13_method_29_code (4 : Nat) (Option.some Jvm.ClassFile.FieldType.int) ∈ TB := tb_in5 (i := 232) rfl rfl
theorem t_5_233 : Jvm.Cond.constantLong "DropsDanceModel" (155 : Nat) (7 : Int64) ∈ TB := tb_in5 (i := 233) rfl rfl
theorem t_5_234 : Jvm.Cond.methodLink "DropsDanceModel" (157 : Nat) ({ cls := "DropsDanceModel", name := "isShut", desc := "(I)Z" } : Jvm.MethodName) ∈ TB := tb_in5 (i := 234) rfl rfl
theorem t_5_235 : Jvm.Cond.static ({ cls := "DropsDanceModel", name := "isShut", desc := "(I)Z" } : Jvm.MethodName) ∈ TB := tb_in5 (i := 235) rfl rfl
theorem t_5_236 : Jvm.Cond.code ({ cls := "DropsDanceModel", name := "isShut", desc := "(I)Z" } : Jvm.MethodName) prog_13_method_28_code (1 : Nat) (Option.some Jvm.ClassFile.FieldType.boolean) ∈ TB := tb_in5 (i := 236) rfl rfl
theorem t_5_237 : Jvm.Cond.methodLink "DropsDanceModel" (160 : Nat) ({ cls := "DropsDanceModel", name := "inCell", desc := "(II)I" } : Jvm.MethodName) ∈ TB := tb_in5 (i := 237) rfl rfl
theorem t_5_239 : Jvm.Cond.instanceMethod ({ cls := "DropsDanceModel", name := "inCell", desc := "(II)I" } : Jvm.MethodName) ∈ TB := tb_in5 (i := 239) rfl rfl
theorem t_6_0 : Jvm.Cond.code ({ cls := "DropsDanceModel", name := "inCell", desc := "(II)I" } : Jvm.MethodName) prog_13_method_27_code (4 : Nat) (Option.some Jvm.ClassFile.FieldType.int) ∈ TB := tb_in6 (i := 0) rfl rfl
theorem t_6_1 : Jvm.Cond.methodLink "DropsDanceModel" (152 : Nat) ({ cls := "DropsDanceModel", name := "isThere", desc := "(I)Z" } : Jvm.MethodName) ∈ TB := tb_in6 (i := 1) rfl rfl
theorem t_6_3 : Jvm.Cond.instanceMethod ({ cls := "DropsDanceModel", name := "isThere", desc := "(I)Z" } : Jvm.MethodName) ∈ TB := tb_in6 (i := 3) rfl rfl
theorem t_6_4 : Jvm.Cond.code ({ cls := "DropsDanceModel", name := "isThere", desc := "(I)Z" } : Jvm.MethodName) prog_13_method_26_code (2 : Nat) (Option.some Jvm.ClassFile.FieldType.boolean) ∈ TB := tb_in6 (i := 4) rfl rfl
theorem t_6_5 : Jvm.Cond.methodLink "DropsDanceLaw" (50 : Nat) ({ cls := "DropsDanceModel", name := "heat", desc := "(I)I" } : Jvm.MethodName) ∈ TB := tb_in6 (i := 5) rfl rfl
theorem t_6_6 : Jvm.Cond.instanceMethod ({ cls := "DropsDanceModel", name := "heat", desc := "(I)I" } : Jvm.MethodName) ∈ TB := tb_in6 (i := 6) rfl rfl
theorem t_6_7 : Jvm.Cond.selects "DropsDanceModel" ({ cls := "DropsDanceModel", name := "heat", desc := "(I)I" } : Jvm.MethodName) ({ cls := "DropsDanceModel", name := "heat", desc := "(I)I" } : Jvm.MethodName) ∈ TB := tb_in6 (i := 7) rfl rfl
theorem t_6_8 : Jvm.Cond.code ({ cls := "DropsDanceModel", name := "heat", desc := "(I)I" } : Jvm.MethodName) prog_13_method_30_code (2 : Nat) (Option.some Jvm.ClassFile.FieldType.int) ∈ TB := tb_in6 (i := 8) rfl rfl
theorem t_6_9 : Jvm.Cond.constantLong "DropsDanceModel" (163 : Nat) (99 : Int64) ∈ TB := tb_in6 (i := 9) rfl rfl
theorem t_6_10 : Jvm.Cond.methodLink "DropsDanceLaw" (55 : Nat) ({ cls := "DropsDanceModel", name := "drop", desc := "(III)I" } : Jvm.MethodName) ∈ TB := tb_in6 (i := 10) rfl rfl
theorem t_6_11 : Jvm.Cond.instanceMethod ({ cls := "DropsDanceModel", name := "drop", desc := "(III)I" } : Jvm.MethodName) ∈ TB := tb_in6 (i := 11) rfl rfl
theorem t_6_12 : Jvm.Cond.selects "DropsDanceModel" ({ cls := "DropsDanceModel", name := "drop", desc := "(III)I" } : Jvm.MethodName) ({ cls := "DropsDanceModel", name := "drop", desc := "(III)I" } : Jvm.MethodName) ∈ TB := tb_in6 (i := 12) rfl rfl
theorem t_6_13 : Jvm.Cond.code ({ cls := "DropsDanceModel", name := "drop", desc := "(III)I" } : Jvm.MethodName) prog_13_method_32_code (5 : Nat) (Option.some Jvm.ClassFile.FieldType.int) ∈ TB := tb_in6 (i := 13) rfl rfl
theorem t_6_14 : Jvm.Cond.methodLink "DropsDanceModel" (169 : Nat) ({ cls := "DropsDanceModel", name := "isDrop", desc := "(III)Z" } : Jvm.MethodName) ∈ TB := tb_in6 (i := 14) rfl rfl
theorem t_6_15 : Jvm.Cond.static ({ cls := "DropsDanceModel", name := "isDrop", desc := "(III)Z" } : Jvm.MethodName) ∈ TB := tb_in6 (i := 15) rfl rfl
theorem t_6_16 : Jvm.Cond.code ({ cls := "DropsDanceModel", name := "isDrop", desc := "(III)Z" } : Jvm.MethodName) prog_13_method_31_code (3 : Nat) (Option.some Jvm.ClassFile.FieldType.boolean) ∈ TB := tb_in6 (i := 16) rfl rfl
theorem t_6_17 : Jvm.Cond.constantLong "DropsDanceModel" (165 : Nat) (60 : Int64) ∈ TB := tb_in6 (i := 17) rfl rfl
theorem t_6_18 : Jvm.Cond.constantLong "DropsDanceModel" (167 : Nat) (3 : Int64) ∈ TB := tb_in6 (i := 18) rfl rfl
theorem t_6_19 : Jvm.Cond.methodLink "DropsDanceLaw" (59 : Nat) ({ cls := "DropsDanceModel", name := "go", desc := "(I)I" } : Jvm.MethodName) ∈ TB := tb_in6 (i := 19) rfl rfl
theorem t_6_20 : Jvm.Cond.instanceMethod ({ cls := "DropsDanceModel", name := "go", desc := "(I)I" } : Jvm.MethodName) ∈ TB := tb_in6 (i := 20) rfl rfl
theorem t_6_21 : Jvm.Cond.selects "DropsDanceModel" ({ cls := "DropsDanceModel", name := "go", desc := "(I)I" } : Jvm.MethodName) ({ cls := "DropsDanceModel", name := "go", desc := "(I)I" } : Jvm.MethodName) ∈ TB := tb_in6 (i := 21) rfl rfl
theorem t_6_22 : Jvm.Cond.code ({ cls := "DropsDanceModel", name := "go", desc := "(I)I" } : Jvm.MethodName) prog_13_method_45_code (4 : Nat) (Option.some Jvm.ClassFile.FieldType.int) ∈ TB := tb_in6 (i := 22) rfl rfl
theorem t_6_23 : Jvm.Cond.constantLong "DropsDanceModel" (212 : Nat) (200 : Int64) ∈ TB := tb_in6 (i := 23) rfl rfl
theorem t_6_24 : Jvm.Cond.methodLink "DropsDanceModel" (214 : Nat) ({ cls := "DropsDanceModel", name := "acts", desc := "(I)V" } : Jvm.MethodName) ∈ TB := tb_in6 (i := 24) rfl rfl
theorem t_6_26 : Jvm.Cond.instanceMethod ({ cls := "DropsDanceModel", name := "acts", desc := "(I)V" } : Jvm.MethodName) ∈ TB := tb_in6 (i := 26) rfl rfl
theorem t_6_27 : Jvm.Cond.code ({ cls := "DropsDanceModel", name := "acts", desc := "(I)V" } : Jvm.MethodName) prog_13_method_43_code (2 : Nat) (Option.none : Option Jvm.ClassFile.FieldType) ∈ TB := tb_in6 (i := 27) rfl rfl
theorem t_6_28 : Jvm.Cond.methodLink "DropsDanceModel" (196 : Nat) ({ cls := "DropsDanceModel", name := "touches", desc := "(I)Z" } : Jvm.MethodName) ∈ TB := tb_in6 (i := 28) rfl rfl
theorem t_6_30 : Jvm.Cond.instanceMethod ({ cls := "DropsDanceModel", name := "touches", desc := "(I)Z" } : Jvm.MethodName) ∈ TB := tb_in6 (i := 30) rfl rfl
theorem t_6_31 : Jvm.Cond.code ({ cls := "DropsDanceModel", name := "touches", desc := "(I)Z" } : Jvm.MethodName) prog_13_method_42_code (2 : Nat) (Option.some Jvm.ClassFile.FieldType.boolean) ∈ TB := tb_in6 (i := 31) rfl rfl
theorem t_6_32 : Jvm.Cond.methodLink "DropsDanceModel" (199 : Nat) ({ cls := "DropsDanceModel", name := "hisses", desc := "(II)I" } : Jvm.MethodName) ∈ TB := tb_in6 (i := 32) rfl rfl
theorem t_6_34 : Jvm.Cond.instanceMethod ({ cls := "DropsDanceModel", name := "hisses", desc := "(II)I" } : Jvm.MethodName) ∈ TB := tb_in6 (i := 34) rfl rfl
theorem t_6_35 : Jvm.Cond.code ({ cls := "DropsDanceModel", name := "hisses", desc := "(II)I" } : Jvm.MethodName) prog_13_method_37_code (3 : Nat) (Option.some Jvm.ClassFile.FieldType.int) ∈ TB := tb_in6 (i := 35) rfl rfl
theorem t_6_36 : Jvm.Cond.methodLink "DropsDanceModel" (176 : Nat) ({ cls := "DropsDanceModel", name := "less", desc := "(II)I" } : Jvm.MethodName) ∈ TB := tb_in6 (i := 36) rfl rfl
theorem t_6_37 : Jvm.Cond.static ({ cls := "DropsDanceModel", name := "less", desc := "(II)I" } : Jvm.MethodName) ∈ TB := tb_in6 (i := 37) rfl rfl
theorem t_6_38 : Jvm.Cond.code ({ cls := "DropsDanceModel", name := "less", desc := "(II)I" } : Jvm.MethodName) prog_13_method_5_code (2 : Nat) (Option.some Jvm.ClassFile.FieldType.int) ∈ TB := tb_in6 (i := 38) rfl rfl
theorem t_6_39 : Jvm.Cond.methodLink "DropsDanceModel" (202 : Nat) ({ cls := "DropsDanceModel", name := "loses", desc := "(II)V" } : Jvm.MethodName) ∈ TB := tb_in6 (i := 39) rfl rfl
theorem t_6_41 : Jvm.Cond.instanceMethod ({ cls := "DropsDanceModel", name := "loses", desc := "(II)V" } : Jvm.MethodName) ∈ TB := tb_in6 (i := 41) rfl rfl
theorem t_6_42 : Jvm.Cond.code ({ cls := "DropsDanceModel", name := "loses", desc := "(II)V" } : Jvm.MethodName) prog_13_method_39_code (3 : Nat) (Option.none : Option Jvm.ClassFile.FieldType) ∈ TB := tb_in6 (i := 42) rfl rfl
theorem t_6_43 : Jvm.Cond.methodLink "DropsDanceModel" (179 : Nat) ({ cls := "DropsDanceModel", name := "ends", desc := "(II)V" } : Jvm.MethodName) ∈ TB := tb_in6 (i := 43) rfl rfl
theorem t_6_45 : Jvm.Cond.instanceMethod ({ cls := "DropsDanceModel", name := "ends", desc := "(II)V" } : Jvm.MethodName) ∈ TB := tb_in6 (i := 45) rfl rfl
theorem t_6_46 : Jvm.Cond.code ({ cls := "DropsDanceModel", name := "ends", desc := "(II)V" } : Jvm.MethodName) prog_13_method_38_code (3 : Nat) (Option.none : Option Jvm.ClassFile.FieldType) ∈ TB := tb_in6 (i := 46) rfl rfl
theorem t_6_47 : Jvm.Cond.methodLink "DropsDanceModel" (205 : Nat) ({ cls := "DropsDanceModel", name := "thins", desc := "(II)I" } : Jvm.MethodName) ∈ TB := tb_in6 (i := 47) rfl rfl
theorem t_6_49 : Jvm.Cond.instanceMethod ({ cls := "DropsDanceModel", name := "thins", desc := "(II)I" } : Jvm.MethodName) ∈ TB := tb_in6 (i := 49) rfl rfl
theorem t_6_50 : Jvm.Cond.code ({ cls := "DropsDanceModel", name := "thins", desc := "(II)I" } : Jvm.MethodName) prog_13_method_36_code (3 : Nat) (Option.some Jvm.ClassFile.FieldType.int) ∈ TB := tb_in6 (i := 50) rfl rfl
theorem t_6_51 : Jvm.Cond.methodLink "DropsDanceModel" (208 : Nat) ({ cls := "DropsDanceModel", name := "goesOn", desc := "(I)V" } : Jvm.MethodName) ∈ TB := tb_in6 (i := 51) rfl rfl
theorem t_6_53 : Jvm.Cond.instanceMethod ({ cls := "DropsDanceModel", name := "goesOn", desc := "(I)V" } : Jvm.MethodName) ∈ TB := tb_in6 (i := 53) rfl rfl
theorem t_6_54 : Jvm.Cond.code ({ cls := "DropsDanceModel", name := "goesOn", desc := "(I)V" } : Jvm.MethodName) prog_13_method_41_code (7 : Nat) (Option.none : Option Jvm.ClassFile.FieldType) ∈ TB := tb_in6 (i := 54) rfl rfl
theorem t_6_55 : Jvm.Cond.methodLink "DropsDanceModel" (183 : Nat) ({ cls := "DropsDanceModel", name := "isTooth", desc := "(II)Z" } : Jvm.MethodName) ∈ TB := tb_in6 (i := 55) rfl rfl
theorem t_6_57 : Jvm.Cond.instanceMethod ({ cls := "DropsDanceModel", name := "isTooth", desc := "(II)Z" } : Jvm.MethodName) ∈ TB := tb_in6 (i := 57) rfl rfl
theorem t_6_58 : Jvm.Cond.code ({ cls := "DropsDanceModel", name := "isTooth", desc := "(II)Z" } : Jvm.MethodName) prog_13_method_40_code (3 : Nat) (Option.some Jvm.ClassFile.FieldType.boolean) ∈ TB := tb_in6 (i := 58) rfl rfl
theorem t_6_59 : Jvm.Cond.methodLink "DropsDanceModel" (187 : Nat) ({ cls := "DropsDanceModel", name := "draws", desc := "()I" } : Jvm.MethodName) ∈ TB := tb_in6 (i := 59) rfl rfl
theorem t_6_61 : Jvm.Cond.instanceMethod ({ cls := "DropsDanceModel", name := "draws", desc := "()I" } : Jvm.MethodName) ∈ TB := tb_in6 (i := 61) rfl rfl
theorem t_6_62 : Jvm.Cond.code ({ cls := "DropsDanceModel", name := "draws", desc := "()I" } : Jvm.MethodName) prog_13_method_35_code (1 : Nat) (Option.some Jvm.ClassFile.FieldType.int) ∈ TB := tb_in6 (i := 62) rfl rfl
theorem t_6_63 : Jvm.Cond.constant "DropsDanceModel" (175 : Nat) (1103515245 : Int32) ∈ TB := tb_in6 (i := 63) rfl rfl
theorem t_6_64 : Jvm.Cond.methodLink "DropsDanceModel" (190 : Nat) ({ cls := "DropsDanceModel", name := "nextTo", desc := "(II)I" } : Jvm.MethodName) ∈ TB := tb_in6 (i := 64) rfl rfl
theorem t_6_65 : Jvm.Cond.static ({ cls := "DropsDanceModel", name := "nextTo", desc := "(II)I" } : Jvm.MethodName) ∈ TB := tb_in6 (i := 65) rfl rfl
theorem t_6_66 : Jvm.Cond.code ({ cls := "DropsDanceModel", name := "nextTo", desc := "(II)I" } : Jvm.MethodName) prog_13_method_33_code (4 : Nat) (Option.some Jvm.ClassFile.FieldType.int) ∈ TB := tb_in6 (i := 66) rfl rfl
theorem t_6_67 : Jvm.Cond.constantLong "DropsDanceModel" (173 : Nat) (11 : Int64) ∈ TB := tb_in6 (i := 67) rfl rfl
theorem t_6_68 : Jvm.Cond.methodLink "DropsDanceModel" (193 : Nat) ({ cls := "DropsDanceModel", name := "isWall", desc := "(I)Z" } : Jvm.MethodName) ∈ TB := tb_in6 (i := 68) rfl rfl
theorem t_6_70 : Jvm.Cond.instanceMethod ({ cls := "DropsDanceModel", name := "isWall", desc := "(I)Z" } : Jvm.MethodName) ∈ TB := tb_in6 (i := 70) rfl rfl
theorem t_6_71 : Jvm.Cond.code ({ cls := "DropsDanceModel", name := "isWall", desc := "(I)Z" } : Jvm.MethodName) prog_13_method_34_code (2 : Nat) (Option.some Jvm.ClassFile.FieldType.boolean) ∈ TB := tb_in6 (i := 71) rfl rfl
theorem t_6_72 : Jvm.Cond.methodLink "DropsDanceModel" (217 : Nat) ({ cls := "DropsDanceModel", name := "thereMany", desc := "()I" } : Jvm.MethodName) ∈ TB := tb_in6 (i := 72) rfl rfl
theorem t_6_74 : Jvm.Cond.instanceMethod ({ cls := "DropsDanceModel", name := "thereMany", desc := "()I" } : Jvm.MethodName) ∈ TB := tb_in6 (i := 74) rfl rfl
theorem t_6_75 : Jvm.Cond.code ({ cls := "DropsDanceModel", name := "thereMany", desc := "()I" } : Jvm.MethodName) prog_13_method_44_code (3 : Nat) (Option.some Jvm.ClassFile.FieldType.int) ∈ TB := tb_in6 (i := 75) rfl rfl
theorem t_6_76 : Jvm.Cond.methodLink "DropsDanceLaw" (63 : Nat) ({ cls := "DropsDanceModel", name := "seed", desc := "(I)I" } : Jvm.MethodName) ∈ TB := tb_in6 (i := 76) rfl rfl
theorem t_6_77 : Jvm.Cond.instanceMethod ({ cls := "DropsDanceModel", name := "seed", desc := "(I)I" } : Jvm.MethodName) ∈ TB := tb_in6 (i := 77) rfl rfl
theorem t_6_78 : Jvm.Cond.selects "DropsDanceModel" ({ cls := "DropsDanceModel", name := "seed", desc := "(I)I" } : Jvm.MethodName) ({ cls := "DropsDanceModel", name := "seed", desc := "(I)I" } : Jvm.MethodName) ∈ TB := tb_in6 (i := 78) rfl rfl
theorem t_6_79 : Jvm.Cond.code ({ cls := "DropsDanceModel", name := "seed", desc := "(I)I" } : Jvm.MethodName) prog_13_method_46_code (3 : Nat) (Option.some Jvm.ClassFile.FieldType.int) ∈ TB := tb_in6 (i := 79) rfl rfl
theorem t_6_80 : Jvm.Cond.methodLink "DropsDanceLaw" (67 : Nat) ({ cls := "DropsDanceModel", name := "of", desc := "(II)I" } : Jvm.MethodName) ∈ TB := tb_in6 (i := 80) rfl rfl
theorem t_6_81 : Jvm.Cond.instanceMethod ({ cls := "DropsDanceModel", name := "of", desc := "(II)I" } : Jvm.MethodName) ∈ TB := tb_in6 (i := 81) rfl rfl
theorem t_6_82 : Jvm.Cond.selects "DropsDanceModel" ({ cls := "DropsDanceModel", name := "of", desc := "(II)I" } : Jvm.MethodName) ({ cls := "DropsDanceModel", name := "of", desc := "(II)I" } : Jvm.MethodName) ∈ TB := tb_in6 (i := 82) rfl rfl
theorem t_6_83 : Jvm.Cond.code ({ cls := "DropsDanceModel", name := "of", desc := "(II)I" } : Jvm.MethodName) prog_13_method_47_code (3 : Nat) (Option.some Jvm.ClassFile.FieldType.int) ∈ TB := tb_in6 (i := 83) rfl rfl
theorem t_6_84 : Jvm.Cond.methodLink "DropsDanceLaw" (71 : Nat) ({ cls := "DropsDanceModel", name := "at", desc := "(I)I" } : Jvm.MethodName) ∈ TB := tb_in6 (i := 84) rfl rfl
theorem t_6_85 : Jvm.Cond.instanceMethod ({ cls := "DropsDanceModel", name := "at", desc := "(I)I" } : Jvm.MethodName) ∈ TB := tb_in6 (i := 85) rfl rfl
theorem t_6_86 : Jvm.Cond.selects "DropsDanceModel" ({ cls := "DropsDanceModel", name := "at", desc := "(I)I" } : Jvm.MethodName) ({ cls := "DropsDanceModel", name := "at", desc := "(I)I" } : Jvm.MethodName) ∈ TB := tb_in6 (i := 86) rfl rfl
theorem t_6_87 : Jvm.Cond.code ({ cls := "DropsDanceModel", name := "at", desc := "(I)I" } : Jvm.MethodName) prog_13_method_48_code (2 : Nat) (Option.some Jvm.ClassFile.FieldType.int) ∈ TB := tb_in6 (i := 87) rfl rfl
theorem t_6_88 : Jvm.Cond.methodLink "DropsDanceLaw" (75 : Nat) ({ cls := "DropsDanceModel", name := "now", desc := "(I)I" } : Jvm.MethodName) ∈ TB := tb_in6 (i := 88) rfl rfl
theorem t_6_89 : Jvm.Cond.instanceMethod ({ cls := "DropsDanceModel", name := "now", desc := "(I)I" } : Jvm.MethodName) ∈ TB := tb_in6 (i := 89) rfl rfl
theorem t_6_90 : Jvm.Cond.selects "DropsDanceModel" ({ cls := "DropsDanceModel", name := "now", desc := "(I)I" } : Jvm.MethodName) ({ cls := "DropsDanceModel", name := "now", desc := "(I)I" } : Jvm.MethodName) ∈ TB := tb_in6 (i := 90) rfl rfl
theorem t_6_91 : Jvm.Cond.code ({ cls := "DropsDanceModel", name := "now", desc := "(I)I" } : Jvm.MethodName) prog_13_method_49_code (4 : Nat) (Option.some Jvm.ClassFile.FieldType.int) ∈ TB := tb_in6 (i := 91) rfl rfl
theorem t_6_92 : Jvm.Cond.methodLink "DropsDanceLaw" (79 : Nat) ({ cls := "DropsDanceModel", name := "points", desc := "(I)I" } : Jvm.MethodName) ∈ TB := tb_in6 (i := 92) rfl rfl
theorem t_6_93 : Jvm.Cond.instanceMethod ({ cls := "DropsDanceModel", name := "points", desc := "(I)I" } : Jvm.MethodName) ∈ TB := tb_in6 (i := 93) rfl rfl
theorem t_6_94 : Jvm.Cond.selects "DropsDanceModel" ({ cls := "DropsDanceModel", name := "points", desc := "(I)I" } : Jvm.MethodName) ({ cls := "DropsDanceModel", name := "points", desc := "(I)I" } : Jvm.MethodName) ∈ TB := tb_in6 (i := 94) rfl rfl
theorem t_6_95 : Jvm.Cond.code ({ cls := "DropsDanceModel", name := "points", desc := "(I)I" } : Jvm.MethodName) prog_13_method_50_code (2 : Nat) (Option.some Jvm.ClassFile.FieldType.int) ∈ TB := tb_in6 (i := 95) rfl rfl
theorem t_6_96 : Jvm.Cond.methodLink "DropsDanceLaw" (83 : Nat) ({ cls := "DropsDanceModel", name := "keep", desc := "(I)I" } : Jvm.MethodName) ∈ TB := tb_in6 (i := 96) rfl rfl
theorem t_6_97 : Jvm.Cond.instanceMethod ({ cls := "DropsDanceModel", name := "keep", desc := "(I)I" } : Jvm.MethodName) ∈ TB := tb_in6 (i := 97) rfl rfl
theorem t_6_98 : Jvm.Cond.selects "DropsDanceModel" ({ cls := "DropsDanceModel", name := "keep", desc := "(I)I" } : Jvm.MethodName) ({ cls := "DropsDanceModel", name := "keep", desc := "(I)I" } : Jvm.MethodName) ∈ TB := tb_in6 (i := 98) rfl rfl
theorem t_6_99 : Jvm.Cond.code ({ cls := "DropsDanceModel", name := "keep", desc := "(I)I" } : Jvm.MethodName) prog_13_method_52_code (3 : Nat) (Option.some Jvm.ClassFile.FieldType.int) ∈ TB := tb_in6 (i := 99) rfl rfl
theorem t_6_100 : Jvm.Cond.methodLink "DropsDanceModel" (220 : Nat) ({ cls := "DropsDanceModel", name := "copies", desc := "(II)V" } : Jvm.MethodName) ∈ TB := tb_in6 (i := 100) rfl rfl
theorem t_6_102 : Jvm.Cond.instanceMethod ({ cls := "DropsDanceModel", name := "copies", desc := "(II)V" } : Jvm.MethodName) ∈ TB := tb_in6 (i := 102) rfl rfl
theorem t_6_103 : Jvm.Cond.code ({ cls := "DropsDanceModel", name := "copies", desc := "(II)V" } : Jvm.MethodName) prog_13_method_51_code (4 : Nat) (Option.none : Option Jvm.ClassFile.FieldType) ∈ TB := tb_in6 (i := 103) rfl rfl
theorem t_6_104 : Jvm.Cond.methodLink "DropsDanceLaw" (87 : Nat) ({ cls := "DropsDanceModel", name := "back", desc := "(I)I" } : Jvm.MethodName) ∈ TB := tb_in6 (i := 104) rfl rfl
theorem t_6_105 : Jvm.Cond.instanceMethod ({ cls := "DropsDanceModel", name := "back", desc := "(I)I" } : Jvm.MethodName) ∈ TB := tb_in6 (i := 105) rfl rfl
theorem t_6_106 : Jvm.Cond.selects "DropsDanceModel" ({ cls := "DropsDanceModel", name := "back", desc := "(I)I" } : Jvm.MethodName) ({ cls := "DropsDanceModel", name := "back", desc := "(I)I" } : Jvm.MethodName) ∈ TB := tb_in6 (i := 106) rfl rfl
theorem t_6_107 : Jvm.Cond.code ({ cls := "DropsDanceModel", name := "back", desc := "(I)I" } : Jvm.MethodName) prog_13_method_53_code (2 : Nat) (Option.some Jvm.ClassFile.FieldType.int) ∈ TB := tb_in6 (i := 107) rfl rfl
theorem t_6_108 : Jvm.Cond.methodLink "DropsDanceLaw" (92 : Nat) ({ cls := "DropsDanceModel", name := "alone", desc := "(IIIII)I" } : Jvm.MethodName) ∈ TB := tb_in6 (i := 108) rfl rfl
theorem t_6_109 : Jvm.Cond.instanceMethod ({ cls := "DropsDanceModel", name := "alone", desc := "(IIIII)I" } : Jvm.MethodName) ∈ TB := tb_in6 (i := 109) rfl rfl
theorem t_6_110 : Jvm.Cond.selects "DropsDanceModel" ({ cls := "DropsDanceModel", name := "alone", desc := "(IIIII)I" } : Jvm.MethodName) ({ cls := "DropsDanceModel", name := "alone", desc := "(IIIII)I" } : Jvm.MethodName) ∈ TB := tb_in6 (i := 110) rfl rfl
theorem t_6_111 : Jvm.Cond.code ({ cls := "DropsDanceModel", name := "alone", desc := "(IIIII)I" } : Jvm.MethodName) prog_13_method_58_code (7 : Nat) (Option.some Jvm.ClassFile.FieldType.int) ∈ TB := tb_in6 (i := 111) rfl rfl
theorem t_6_112 : Jvm.Cond.constantLong "DropsDanceModel" (244 : Nat) (400 : Int64) ∈ TB := tb_in6 (i := 112) rfl rfl
theorem t_6_113 : Jvm.Cond.methodLink "DropsDanceModel" (246 : Nat) ({ cls := "DropsDanceModel", name := "sets", desc := "(III)V" } : Jvm.MethodName) ∈ TB := tb_in6 (i := 113) rfl rfl
theorem t_6_115 : Jvm.Cond.instanceMethod ({ cls := "DropsDanceModel", name := "sets", desc := "(III)V" } : Jvm.MethodName) ∈ TB := tb_in6 (i := 115) rfl rfl
theorem t_6_116 : Jvm.Cond.code ({ cls := "DropsDanceModel", name := "sets", desc := "(III)V" } : Jvm.MethodName) prog_13_method_54_code (4 : Nat) (Option.none : Option Jvm.ClassFile.FieldType) ∈ TB := tb_in6 (i := 116) rfl rfl
theorem t_6_117 : Jvm.Cond.methodLink "DropsDanceModel" (250 : Nat) ({ cls := "DropsDanceModel", name := "oneActs", desc := "(I)V" } : Jvm.MethodName) ∈ TB := tb_in6 (i := 117) rfl rfl
theorem t_6_119 : Jvm.Cond.instanceMethod ({ cls := "DropsDanceModel", name := "oneActs", desc := "(I)V" } : Jvm.MethodName) ∈ TB := tb_in6 (i := 119) rfl rfl
theorem t_6_120 : Jvm.Cond.code ({ cls := "DropsDanceModel", name := "oneActs", desc := "(I)V" } : Jvm.MethodName) prog_13_method_57_code (2 : Nat) (Option.none : Option Jvm.ClassFile.FieldType) ∈ TB := tb_in6 (i := 120) rfl rfl
theorem t_6_121 : Jvm.Cond.methodLink "DropsDanceModel" (238 : Nat) ({ cls := "DropsDanceModel", name := "oneEnds", desc := "(II)V" } : Jvm.MethodName) ∈ TB := tb_in6 (i := 121) rfl rfl
theorem t_6_123 : Jvm.Cond.instanceMethod ({ cls := "DropsDanceModel", name := "oneEnds", desc := "(II)V" } : Jvm.MethodName) ∈ TB := tb_in6 (i := 123) rfl rfl
theorem t_6_124 : Jvm.Cond.code ({ cls := "DropsDanceModel", name := "oneEnds", desc := "(II)V" } : Jvm.MethodName) prog_13_method_55_code (3 : Nat) (Option.none : Option Jvm.ClassFile.FieldType) ∈ TB := tb_in6 (i := 124) rfl rfl
theorem t_6_125 : Jvm.Cond.methodLink "DropsDanceModel" (241 : Nat) ({ cls := "DropsDanceModel", name := "oneGoes", desc := "(I)V" } : Jvm.MethodName) ∈ TB := tb_in6 (i := 125) rfl rfl
theorem t_6_127 : Jvm.Cond.instanceMethod ({ cls := "DropsDanceModel", name := "oneGoes", desc := "(I)V" } : Jvm.MethodName) ∈ TB := tb_in6 (i := 127) rfl rfl
theorem t_6_128 : Jvm.Cond.code ({ cls := "DropsDanceModel", name := "oneGoes", desc := "(I)V" } : Jvm.MethodName) prog_13_method_56_code (4 : Nat) (Option.none : Option Jvm.ClassFile.FieldType) ∈ TB := tb_in6 (i := 128) rfl rfl
theorem t_6_129 : Jvm.Cond.methodLink "DropsDanceLaw" (97 : Nat) ({ cls := "DropsDanceModel", name := "reach", desc := "(IIII)I" } : Jvm.MethodName) ∈ TB := tb_in6 (i := 129) rfl rfl
theorem t_6_130 : Jvm.Cond.instanceMethod ({ cls := "DropsDanceModel", name := "reach", desc := "(IIII)I" } : Jvm.MethodName) ∈ TB := tb_in6 (i := 130) rfl rfl
theorem t_6_131 : Jvm.Cond.selects "DropsDanceModel" ({ cls := "DropsDanceModel", name := "reach", desc := "(IIII)I" } : Jvm.MethodName) ({ cls := "DropsDanceModel", name := "reach", desc := "(IIII)I" } : Jvm.MethodName) ∈ TB := tb_in6 (i := 131) rfl rfl
theorem t_6_132 : Jvm.Cond.code ({ cls := "DropsDanceModel", name := "reach", desc := "(IIII)I" } : Jvm.MethodName) prog_13_method_60_code (5 : Nat) (Option.some Jvm.ClassFile.FieldType.int) ∈ TB := tb_in6 (i := 132) rfl rfl
theorem t_6_133 : Jvm.Cond.methodLink "DropsDanceModel" (253 : Nat) ({ cls := "DropsDanceModel", name := "reachOf", desc := "(IIII)I" } : Jvm.MethodName) ∈ TB := tb_in6 (i := 133) rfl rfl
theorem t_6_135 : Jvm.Cond.instanceMethod ({ cls := "DropsDanceModel", name := "reachOf", desc := "(IIII)I" } : Jvm.MethodName) ∈ TB := tb_in6 (i := 135) rfl rfl
theorem t_6_136 : Jvm.Cond.code ({ cls := "DropsDanceModel", name := "reachOf", desc := "(IIII)I" } : Jvm.MethodName) prog_13_method_59_code (6 : Nat) (Option.some Jvm.ClassFile.FieldType.int) ∈ TB := tb_in6 (i := 136) rfl rfl
theorem t_6_137 : Jvm.Cond.methodLink "DropsDanceLaw" (101 : Nat) ({ cls := "DropsDanceModel", name := "ring", desc := "(IIII)I" } : Jvm.MethodName) ∈ TB := tb_in6 (i := 137) rfl rfl
theorem t_6_138 : Jvm.Cond.instanceMethod ({ cls := "DropsDanceModel", name := "ring", desc := "(IIII)I" } : Jvm.MethodName) ∈ TB := tb_in6 (i := 138) rfl rfl
theorem t_6_139 : Jvm.Cond.selects "DropsDanceModel" ({ cls := "DropsDanceModel", name := "ring", desc := "(IIII)I" } : Jvm.MethodName) ({ cls := "DropsDanceModel", name := "ring", desc := "(IIII)I" } : Jvm.MethodName) ∈ TB := tb_in6 (i := 139) rfl rfl
theorem t_6_140 : Jvm.Cond.code ({ cls := "DropsDanceModel", name := "ring", desc := "(IIII)I" } : Jvm.MethodName) prog_13_method_62_code (11 : Nat) (Option.some Jvm.ClassFile.FieldType.int) ∈ TB := tb_in6 (i := 140) rfl rfl
theorem t_6_141 : Jvm.Cond.constantLong "DropsDanceModel" (257 : Nat) (2 : Int64) ∈ TB := tb_in6 (i := 141) rfl rfl
theorem t_6_142 : Jvm.Cond.methodLink "DropsDanceModel" (259 : Nat) ({ cls := "DropsDanceModel", name := "along", desc := "(III)I" } : Jvm.MethodName) ∈ TB := tb_in6 (i := 142) rfl rfl
theorem t_6_144 : Jvm.Cond.instanceMethod ({ cls := "DropsDanceModel", name := "along", desc := "(III)I" } : Jvm.MethodName) ∈ TB := tb_in6 (i := 144) rfl rfl
theorem t_6_145 : Jvm.Cond.code ({ cls := "DropsDanceModel", name := "along", desc := "(III)I" } : Jvm.MethodName) prog_13_method_61_code (5 : Nat) (Option.some Jvm.ClassFile.FieldType.int) ∈ TB := tb_in6 (i := 145) rfl rfl
theorem t_6_146 : Jvm.Cond.methodLink "DropsDanceLaw" (106 : Nat) ({ cls := "DropsDanceModel", name := "falls", desc := "(III)J" } : Jvm.MethodName) ∈ TB := tb_in6 (i := 146) rfl rfl
theorem t_6_147 : Jvm.Cond.instanceMethod ({ cls := "DropsDanceModel", name := "falls", desc := "(III)J" } : Jvm.MethodName) ∈ TB := tb_in6 (i := 147) rfl rfl
theorem t_6_148 : Jvm.Cond.selects "DropsDanceModel" ({ cls := "DropsDanceModel", name := "falls", desc := "(III)J" } : Jvm.MethodName) ({ cls := "DropsDanceModel", name := "falls", desc := "(III)J" } : Jvm.MethodName) ∈ TB := tb_in6 (i := 148) rfl rfl
theorem t_6_149 : Jvm.Cond.code ({ cls := "DropsDanceModel", name := "falls", desc := "(III)J" } : Jvm.MethodName) prog_13_method_63_code (7 : Nat) (Option.some Jvm.ClassFile.FieldType.long) ∈ TB := tb_in6 (i := 149) rfl rfl
theorem t_6_150 : Jvm.Cond.constantLong "DropsDanceModel" (263 : Nat) (-1 : Int64) ∈ TB := tb_in6 (i := 150) rfl rfl
theorem t_6_151 : Jvm.Cond.constantLong "DropsDanceModel" (265 : Nat) (-2 : Int64) ∈ TB := tb_in6 (i := 151) rfl rfl
theorem t_6_152 : Jvm.Cond.methodLink "DropsDanceLaw" (110 : Nat) ({ cls := "DropsDanceModel", name := "mend", desc := "(IIIII)I" } : Jvm.MethodName) ∈ TB := tb_in6 (i := 152) rfl rfl
theorem t_6_153 : Jvm.Cond.instanceMethod ({ cls := "DropsDanceModel", name := "mend", desc := "(IIIII)I" } : Jvm.MethodName) ∈ TB := tb_in6 (i := 153) rfl rfl
theorem t_6_154 : Jvm.Cond.selects "DropsDanceModel" ({ cls := "DropsDanceModel", name := "mend", desc := "(IIIII)I" } : Jvm.MethodName) ({ cls := "DropsDanceModel", name := "mend", desc := "(IIIII)I" } : Jvm.MethodName) ∈ TB := tb_in6 (i := 154) rfl rfl
theorem t_6_155 : Jvm.Cond.code ({ cls := "DropsDanceModel", name := "mend", desc := "(IIIII)I" } : Jvm.MethodName) prog_13_method_64_code (12 : Nat) (Option.some Jvm.ClassFile.FieldType.int) ∈ TB := tb_in6 (i := 155) rfl rfl
theorem t_6_156 : Jvm.Cond.methodLink "DropsDanceLaw" (115 : Nat) ({ cls := "DropsDanceModel", name := "life", desc := "(IIZ)I" } : Jvm.MethodName) ∈ TB := tb_in6 (i := 156) rfl rfl
theorem t_6_157 : Jvm.Cond.instanceMethod ({ cls := "DropsDanceModel", name := "life", desc := "(IIZ)I" } : Jvm.MethodName) ∈ TB := tb_in6 (i := 157) rfl rfl
theorem t_6_158 : Jvm.Cond.selects "DropsDanceModel" ({ cls := "DropsDanceModel", name := "life", desc := "(IIZ)I" } : Jvm.MethodName) ({ cls := "DropsDanceModel", name := "life", desc := "(IIZ)I" } : Jvm.MethodName) ∈ TB := tb_in6 (i := 158) rfl rfl
theorem t_6_159 : Jvm.Cond.code ({ cls := "DropsDanceModel", name := "life", desc := "(IIZ)I" } : Jvm.MethodName) prog_13_method_70_code (4 : Nat) (Option.some Jvm.ClassFile.FieldType.int) ∈ TB := tb_in6 (i := 159) rfl rfl
theorem t_6_160 : Jvm.Cond.methodLink "DropsDanceModel" (275 : Nat) ({ cls := "DropsDanceModel", name := "isSize", desc := "(I)Z" } : Jvm.MethodName) ∈ TB := tb_in6 (i := 160) rfl rfl
theorem t_6_161 : Jvm.Cond.static ({ cls := "DropsDanceModel", name := "isSize", desc := "(I)Z" } : Jvm.MethodName) ∈ TB := tb_in6 (i := 161) rfl rfl
theorem t_6_162 : Jvm.Cond.code ({ cls := "DropsDanceModel", name := "isSize", desc := "(I)Z" } : Jvm.MethodName) prog_13_method_68_code (1 : Nat) (Option.some Jvm.ClassFile.FieldType.boolean) ∈ TB := tb_in6 (i := 162) rfl rfl
theorem t_6_163 : Jvm.Cond.methodLink "DropsDanceModel" (278 : Nat) ({ cls := "DropsDanceModel", name := "isHeat", desc := "(I)Z" } : Jvm.MethodName) ∈ TB := tb_in6 (i := 163) rfl rfl
theorem t_6_164 : Jvm.Cond.static ({ cls := "DropsDanceModel", name := "isHeat", desc := "(I)Z" } : Jvm.MethodName) ∈ TB := tb_in6 (i := 164) rfl rfl
theorem t_6_165 : Jvm.Cond.code ({ cls := "DropsDanceModel", name := "isHeat", desc := "(I)Z" } : Jvm.MethodName) prog_13_method_69_code (1 : Nat) (Option.some Jvm.ClassFile.FieldType.boolean) ∈ TB := tb_in6 (i := 165) rfl rfl
theorem t_6_166 : Jvm.Cond.methodLink "DropsDanceModel" (281 : Nat) ({ cls := "DropsDanceModel", name := "lifeAt", desc := "(IIZ)I" } : Jvm.MethodName) ∈ TB := tb_in6 (i := 166) rfl rfl
theorem t_6_168 : Jvm.Cond.instanceMethod ({ cls := "DropsDanceModel", name := "lifeAt", desc := "(IIZ)I" } : Jvm.MethodName) ∈ TB := tb_in6 (i := 168) rfl rfl
theorem t_6_169 : Jvm.Cond.code ({ cls := "DropsDanceModel", name := "lifeAt", desc := "(IIZ)I" } : Jvm.MethodName) prog_13_method_67_code (4 : Nat) (Option.some Jvm.ClassFile.FieldType.int) ∈ TB := tb_in6 (i := 169) rfl rfl
theorem t_6_170 : Jvm.Cond.methodLink "DropsDanceModel" (267 : Nat) ({ cls := "DropsDanceModel", name := "floatsAt", desc := "(IZ)Z" } : Jvm.MethodName) ∈ TB := tb_in6 (i := 170) rfl rfl
theorem t_6_172 : Jvm.Cond.instanceMethod ({ cls := "DropsDanceModel", name := "floatsAt", desc := "(IZ)Z" } : Jvm.MethodName) ∈ TB := tb_in6 (i := 172) rfl rfl
theorem t_6_173 : Jvm.Cond.code ({ cls := "DropsDanceModel", name := "floatsAt", desc := "(IZ)Z" } : Jvm.MethodName) prog_13_method_66_code (3 : Nat) (Option.some Jvm.ClassFile.FieldType.boolean) ∈ TB := tb_in6 (i := 173) rfl rfl
theorem t_6_174 : Jvm.Cond.methodLink "DropsDanceModel" (271 : Nat) ({ cls := "DropsDanceModel", name := "lifeOf", desc := "(IIZ)I" } : Jvm.MethodName) ∈ TB := tb_in6 (i := 174) rfl rfl
theorem t_6_176 : Jvm.Cond.instanceMethod ({ cls := "DropsDanceModel", name := "lifeOf", desc := "(IIZ)I" } : Jvm.MethodName) ∈ TB := tb_in6 (i := 176) rfl rfl
theorem t_6_177 : Jvm.Cond.code ({ cls := "DropsDanceModel", name := "lifeOf", desc := "(IIZ)I" } : Jvm.MethodName) prog_13_method_65_code (7 : Nat) (Option.some Jvm.ClassFile.FieldType.int) ∈ TB := tb_in6 (i := 177) rfl rfl
theorem t_6_178 : Jvm.Cond.methodLink "DropsDanceLaw" (120 : Nat) ({ cls := "DropsDanceModel", name := "hump", desc := "(IZI)I" } : Jvm.MethodName) ∈ TB := tb_in6 (i := 178) rfl rfl
theorem t_6_179 : Jvm.Cond.instanceMethod ({ cls := "DropsDanceModel", name := "hump", desc := "(IZI)I" } : Jvm.MethodName) ∈ TB := tb_in6 (i := 179) rfl rfl
theorem t_6_180 : Jvm.Cond.selects "DropsDanceModel" ({ cls := "DropsDanceModel", name := "hump", desc := "(IZI)I" } : Jvm.MethodName) ({ cls := "DropsDanceModel", name := "hump", desc := "(IZI)I" } : Jvm.MethodName) ∈ TB := tb_in6 (i := 180) rfl rfl
theorem t_6_181 : Jvm.Cond.code ({ cls := "DropsDanceModel", name := "hump", desc := "(IZI)I" } : Jvm.MethodName) prog_13_method_71_code (11 : Nat) (Option.some Jvm.ClassFile.FieldType.int) ∈ TB := tb_in6 (i := 181) rfl rfl
theorem t_6_182 : Jvm.Cond.constant "DropsDanceModel" (284 : Nat) (100000 : Int32) ∈ TB := tb_in6 (i := 182) rfl rfl
theorem t_6_183 : Jvm.Cond.methodLink "DropsDanceLaw" (125 : Nat) ({ cls := "DropsDanceModel", name := "hot", desc := "(IIZI)I" } : Jvm.MethodName) ∈ TB := tb_in6 (i := 183) rfl rfl
theorem t_6_184 : Jvm.Cond.instanceMethod ({ cls := "DropsDanceModel", name := "hot", desc := "(IIZI)I" } : Jvm.MethodName) ∈ TB := tb_in6 (i := 184) rfl rfl
theorem t_6_185 : Jvm.Cond.selects "DropsDanceModel" ({ cls := "DropsDanceModel", name := "hot", desc := "(IIZI)I" } : Jvm.MethodName) ({ cls := "DropsDanceModel", name := "hot", desc := "(IIZI)I" } : Jvm.MethodName) ∈ TB := tb_in6 (i := 185) rfl rfl
theorem t_6_186 : Jvm.Cond.code ({ cls := "DropsDanceModel", name := "hot", desc := "(IIZI)I" } : Jvm.MethodName) prog_13_method_73_code (9 : Nat) (Option.some Jvm.ClassFile.FieldType.int) ∈ TB := tb_in6 (i := 186) rfl rfl
theorem t_6_187 : Jvm.Cond.methodLink "DropsDanceModel" (287 : Nat) ({ cls := "DropsDanceModel", name := "isLife", desc := "(I)Z" } : Jvm.MethodName) ∈ TB := tb_in6 (i := 187) rfl rfl
theorem t_6_188 : Jvm.Cond.static ({ cls := "DropsDanceModel", name := "isLife", desc := "(I)Z" } : Jvm.MethodName) ∈ TB := tb_in6 (i := 188) rfl rfl
theorem t_6_189 : Jvm.Cond.code ({ cls := "DropsDanceModel", name := "isLife", desc := "(I)Z" } : Jvm.MethodName) prog_13_method_72_code (1 : Nat) (Option.some Jvm.ClassFile.FieldType.boolean) ∈ TB := tb_in6 (i := 189) rfl rfl
theorem t_6_190 : Jvm.Cond.constantLong "DropsDanceModel" (285 : Nat) (999 : Int64) ∈ TB := tb_in6 (i := 190) rfl rfl
theorem t_6_191 : Jvm.Cond.methodLink "DropsDanceLaw" (130 : Nat) ({ cls := "DropsDanceModel", name := "odds", desc := "(IIII)J" } : Jvm.MethodName) ∈ TB := tb_in6 (i := 191) rfl rfl
theorem t_6_192 : Jvm.Cond.instanceMethod ({ cls := "DropsDanceModel", name := "odds", desc := "(IIII)J" } : Jvm.MethodName) ∈ TB := tb_in6 (i := 192) rfl rfl
theorem t_6_193 : Jvm.Cond.selects "DropsDanceModel" ({ cls := "DropsDanceModel", name := "odds", desc := "(IIII)J" } : Jvm.MethodName) ({ cls := "DropsDanceModel", name := "odds", desc := "(IIII)J" } : Jvm.MethodName) ∈ TB := tb_in6 (i := 193) rfl rfl
theorem t_6_194 : Jvm.Cond.code ({ cls := "DropsDanceModel", name := "odds", desc := "(IIII)J" } : Jvm.MethodName) prog_13_method_76_code (10 : Nat) (Option.some Jvm.ClassFile.FieldType.long) ∈ TB := tb_in6 (i := 194) rfl rfl
theorem t_6_195 : Jvm.Cond.constantLong "DropsDanceModel" (290 : Nat) (10 : Int64) ∈ TB := tb_in6 (i := 195) rfl rfl
theorem t_6_196 : Jvm.Cond.constantLong "DropsDanceModel" (292 : Nat) (4 : Int64) ∈ TB := tb_in6 (i := 196) rfl rfl
theorem t_6_197 : Jvm.Cond.methodLink "DropsDanceModel" (294 : Nat) ({ cls := "DropsDanceModel", name := "spreads", desc := "(I)J" } : Jvm.MethodName) ∈ TB := tb_in6 (i := 197) rfl rfl
theorem t_6_199 : Jvm.Cond.instanceMethod ({ cls := "DropsDanceModel", name := "spreads", desc := "(I)J" } : Jvm.MethodName) ∈ TB := tb_in6 (i := 199) rfl rfl
theorem t_6_200 : Jvm.Cond.code ({ cls := "DropsDanceModel", name := "spreads", desc := "(I)J" } : Jvm.MethodName) prog_13_method_74_code (8 : Nat) (Option.some Jvm.ClassFile.FieldType.long) ∈ TB := tb_in6 (i := 200) rfl rfl
theorem t_6_201 : Jvm.Cond.methodLink "DropsDanceModel" (298 : Nat) ({ cls := "DropsDanceModel", name := "told", desc := "(JJI)J" } : Jvm.MethodName) ∈ TB := tb_in6 (i := 201) rfl rfl
theorem t_6_202 : Jvm.Cond.static ({ cls := "DropsDanceModel", name := "told", desc := "(JJI)J" } : Jvm.MethodName) ∈ TB := tb_in6 (i := 202) rfl rfl
theorem t_6_203 : Jvm.Cond.code ({ cls := "DropsDanceModel", name := "told", desc := "(JJI)J" } : Jvm.MethodName) prog_13_method_75_code (11 : Nat) (Option.some Jvm.ClassFile.FieldType.long) ∈ TB := tb_in6 (i := 203) rfl rfl
theorem t_6_204 : Jvm.Cond.methodLink "DropsDanceLaw" (134 : Nat) ({ cls := "DropsDanceModel", name := "cools", desc := "(III)I" } : Jvm.MethodName) ∈ TB := tb_in6 (i := 204) rfl rfl
theorem t_6_205 : Jvm.Cond.instanceMethod ({ cls := "DropsDanceModel", name := "cools", desc := "(III)I" } : Jvm.MethodName) ∈ TB := tb_in6 (i := 205) rfl rfl
theorem t_6_206 : Jvm.Cond.selects "DropsDanceModel" ({ cls := "DropsDanceModel", name := "cools", desc := "(III)I" } : Jvm.MethodName) ({ cls := "DropsDanceModel", name := "cools", desc := "(III)I" } : Jvm.MethodName) ∈ TB := tb_in6 (i := 206) rfl rfl
theorem t_6_207 : Jvm.Cond.code ({ cls := "DropsDanceModel", name := "cools", desc := "(III)I" } : Jvm.MethodName) prog_13_method_77_code (8 : Nat) (Option.some Jvm.ClassFile.FieldType.int) ∈ TB := tb_in6 (i := 207) rfl rfl
theorem t_6_208 : Jvm.Cond.methodLink "DropsDanceLaw" (138 : Nat) ({ cls := "DropsDanceModel", name := "saw", desc := "(IIZI)I" } : Jvm.MethodName) ∈ TB := tb_in6 (i := 208) rfl rfl
theorem t_6_209 : Jvm.Cond.instanceMethod ({ cls := "DropsDanceModel", name := "saw", desc := "(IIZI)I" } : Jvm.MethodName) ∈ TB := tb_in6 (i := 209) rfl rfl
theorem t_6_210 : Jvm.Cond.selects "DropsDanceModel" ({ cls := "DropsDanceModel", name := "saw", desc := "(IIZI)I" } : Jvm.MethodName) ({ cls := "DropsDanceModel", name := "saw", desc := "(IIZI)I" } : Jvm.MethodName) ∈ TB := tb_in6 (i := 210) rfl rfl
theorem t_6_211 : Jvm.Cond.code ({ cls := "DropsDanceModel", name := "saw", desc := "(IIZI)I" } : Jvm.MethodName) prog_13_method_78_code (5 : Nat) (Option.some Jvm.ClassFile.FieldType.int) ∈ TB := tb_in6 (i := 211) rfl rfl
theorem t_6_212 : Jvm.Cond.methodLink "DropsDanceLaw" (142 : Nat) ({ cls := "DropsDanceModel", name := "forget", desc := "()I" } : Jvm.MethodName) ∈ TB := tb_in6 (i := 212) rfl rfl
theorem t_6_213 : Jvm.Cond.instanceMethod ({ cls := "DropsDanceModel", name := "forget", desc := "()I" } : Jvm.MethodName) ∈ TB := tb_in6 (i := 213) rfl rfl
theorem t_6_214 : Jvm.Cond.selects "DropsDanceModel" ({ cls := "DropsDanceModel", name := "forget", desc := "()I" } : Jvm.MethodName) ({ cls := "DropsDanceModel", name := "forget", desc := "()I" } : Jvm.MethodName) ∈ TB := tb_in6 (i := 214) rfl rfl
theorem t_6_215 : Jvm.Cond.code ({ cls := "DropsDanceModel", name := "forget", desc := "()I" } : Jvm.MethodName) prog_13_method_79_code (2 : Nat) (Option.some Jvm.ClassFile.FieldType.int) ∈ TB := tb_in6 (i := 215) rfl rfl
theorem t_6_216 : Jvm.Cond.methodLink "DropsDanceLaw" (150 : Nat) ({ cls := "DropsDanceModel", name := "right", desc := "()I" } : Jvm.MethodName) ∈ TB := tb_in6 (i := 216) rfl rfl
theorem t_6_217 : Jvm.Cond.instanceMethod ({ cls := "DropsDanceModel", name := "right", desc := "()I" } : Jvm.MethodName) ∈ TB := tb_in6 (i := 217) rfl rfl
theorem t_6_218 : Jvm.Cond.selects "DropsDanceModel" ({ cls := "DropsDanceModel", name := "right", desc := "()I" } : Jvm.MethodName) ({ cls := "DropsDanceModel", name := "right", desc := "()I" } : Jvm.MethodName) ∈ TB := tb_in6 (i := 218) rfl rfl
theorem t_6_219 : Jvm.Cond.code ({ cls := "DropsDanceModel", name := "right", desc := "()I" } : Jvm.MethodName) prog_13_method_81_code (3 : Nat) (Option.some Jvm.ClassFile.FieldType.int) ∈ TB := tb_in6 (i := 219) rfl rfl
theorem t_6_220 : Jvm.Cond.methodLink "DropsDanceModel" (302 : Nat) ({ cls := "DropsDanceModel", name := "isRight", desc := "(I)Z" } : Jvm.MethodName) ∈ TB := tb_in6 (i := 220) rfl rfl
theorem t_6_222 : Jvm.Cond.instanceMethod ({ cls := "DropsDanceModel", name := "isRight", desc := "(I)Z" } : Jvm.MethodName) ∈ TB := tb_in6 (i := 222) rfl rfl
theorem t_6_223 : Jvm.Cond.code ({ cls := "DropsDanceModel", name := "isRight", desc := "(I)Z" } : Jvm.MethodName) prog_13_method_80_code (2 : Nat) (Option.some Jvm.ClassFile.FieldType.boolean) ∈ TB := tb_in6 (i := 223) rfl rfl
theorem t_6_224 : Jvm.Cond.methodLink "DropsDanceLaw" (146 : Nat) ({ cls := "DropsDanceModel", name := "fits", desc := "(I)I" } : Jvm.MethodName) ∈ TB := tb_in6 (i := 224) rfl rfl
theorem t_6_225 : Jvm.Cond.instanceMethod ({ cls := "DropsDanceModel", name := "fits", desc := "(I)I" } : Jvm.MethodName) ∈ TB := tb_in6 (i := 225) rfl rfl
theorem t_6_226 : Jvm.Cond.selects "DropsDanceModel" ({ cls := "DropsDanceModel", name := "fits", desc := "(I)I" } : Jvm.MethodName) ({ cls := "DropsDanceModel", name := "fits", desc := "(I)I" } : Jvm.MethodName) ∈ TB := tb_in6 (i := 226) rfl rfl
theorem t_6_227 : Jvm.Cond.code ({ cls := "DropsDanceModel", name := "fits", desc := "(I)I" } : Jvm.MethodName) prog_13_method_82_code (7 : Nat) (Option.some Jvm.ClassFile.FieldType.int) ∈ TB := tb_in6 (i := 227) rfl rfl
theorem t_6_228 : Jvm.Cond.methodLink "DropsDanceModel" (305 : Nat) ({ cls := "DropsDanceModel", name := "right", desc := "()I" } : Jvm.MethodName) ∈ TB := tb_in6 (i := 228) rfl rfl
theorem t_6_229 : Jvm.Cond.methodLink "DropsDanceLaw" (154 : Nat) ({ cls := "DropsDanceModel", name := "sheet", desc := "(III)I" } : Jvm.MethodName) ∈ TB := tb_in6 (i := 229) rfl rfl
theorem t_6_230 : Jvm.Cond.instanceMethod ({ cls := "DropsDanceModel", name := "sheet", desc := "(III)I" } : Jvm.MethodName) ∈ TB := tb_in6 (i := 230) rfl rfl
theorem t_6_231 : Jvm.Cond.selects "DropsDanceModel" ({ cls := "DropsDanceModel", name := "sheet", desc := "(III)I" } : Jvm.MethodName) ({ cls := "DropsDanceModel", name := "sheet", desc := "(III)I" } : Jvm.MethodName) ∈ TB := tb_in6 (i := 231) rfl rfl
theorem t_6_232 : Jvm.Cond.code ({ cls := "DropsDanceModel", name := "sheet", desc := "(III)I" } : Jvm.MethodName) prog_13_method_84_code (5 : Nat) (Option.some Jvm.ClassFile.FieldType.int) ∈ TB := tb_in6 (i := 232) rfl rfl
theorem t_6_233 : Jvm.Cond.methodLink "DropsDanceModel" (308 : Nat) ({ cls := "DropsDanceModel", name := "isSheet", desc := "(II)Z" } : Jvm.MethodName) ∈ TB := tb_in6 (i := 233) rfl rfl
theorem t_6_234 : Jvm.Cond.static ({ cls := "DropsDanceModel", name := "isSheet", desc := "(II)Z" } : Jvm.MethodName) ∈ TB := tb_in6 (i := 234) rfl rfl
theorem t_6_235 : Jvm.Cond.code ({ cls := "DropsDanceModel", name := "isSheet", desc := "(II)Z" } : Jvm.MethodName) prog_13_method_83_code (2 : Nat) (Option.some Jvm.ClassFile.FieldType.boolean) ∈ TB := tb_in6 (i := 235) rfl rfl
theorem t_6_236 : Jvm.Cond.methodLink "DropsDanceLaw" (158 : Nat) ({ cls := "DropsDanceModel", name := "lay", desc := "(III)I" } : Jvm.MethodName) ∈ TB := tb_in6 (i := 236) rfl rfl
theorem t_6_237 : Jvm.Cond.instanceMethod ({ cls := "DropsDanceModel", name := "lay", desc := "(III)I" } : Jvm.MethodName) ∈ TB := tb_in6 (i := 237) rfl rfl
theorem t_6_238 : Jvm.Cond.selects "DropsDanceModel" ({ cls := "DropsDanceModel", name := "lay", desc := "(III)I" } : Jvm.MethodName) ({ cls := "DropsDanceModel", name := "lay", desc := "(III)I" } : Jvm.MethodName) ∈ TB := tb_in6 (i := 238) rfl rfl
theorem t_6_239 : Jvm.Cond.code ({ cls := "DropsDanceModel", name := "lay", desc := "(III)I" } : Jvm.MethodName) prog_13_method_85_code (4 : Nat) (Option.some Jvm.ClassFile.FieldType.int) ∈ TB := tb_in6 (i := 239) rfl rfl
theorem t_7_0 : Jvm.Cond.methodLink "DropsDanceLaw" (162 : Nat) ({ cls := "DropsDanceModel", name := "read", desc := "(IIII)I" } : Jvm.MethodName) ∈ TB := tb_in7 (i := 0) rfl rfl
theorem t_7_1 : Jvm.Cond.instanceMethod ({ cls := "DropsDanceModel", name := "read", desc := "(IIII)I" } : Jvm.MethodName) ∈ TB := tb_in7 (i := 1) rfl rfl
theorem t_7_2 : Jvm.Cond.selects "DropsDanceModel" ({ cls := "DropsDanceModel", name := "read", desc := "(IIII)I" } : Jvm.MethodName) ({ cls := "DropsDanceModel", name := "read", desc := "(IIII)I" } : Jvm.MethodName) ∈ TB := tb_in7 (i := 2) rfl rfl
theorem t_7_3 : Jvm.Cond.code ({ cls := "DropsDanceModel", name := "read", desc := "(IIII)I" } : Jvm.MethodName) prog_13_method_87_code (13 : Nat) (Option.some Jvm.ClassFile.FieldType.int) ∈ TB := tb_in7 (i := 3) rfl rfl
theorem t_7_4 : Jvm.Cond.constantLong "DropsDanceModel" (311 : Nat) (12 : Int64) ∈ TB := tb_in7 (i := 4) rfl rfl
theorem t_7_5 : Jvm.Cond.methodLink "DropsDanceModel" (313 : Nat) ({ cls := "DropsDanceModel", name := "drop", desc := "(III)I" } : Jvm.MethodName) ∈ TB := tb_in7 (i := 5) rfl rfl
theorem t_7_6 : Jvm.Cond.methodLink "DropsDanceModel" (316 : Nat) ({ cls := "DropsDanceModel", name := "takesBack", desc := "(II)V" } : Jvm.MethodName) ∈ TB := tb_in7 (i := 6) rfl rfl
theorem t_7_8 : Jvm.Cond.instanceMethod ({ cls := "DropsDanceModel", name := "takesBack", desc := "(II)V" } : Jvm.MethodName) ∈ TB := tb_in7 (i := 8) rfl rfl
theorem t_7_9 : Jvm.Cond.code ({ cls := "DropsDanceModel", name := "takesBack", desc := "(II)V" } : Jvm.MethodName) prog_13_method_86_code (3 : Nat) (Option.none : Option Jvm.ClassFile.FieldType) ∈ TB := tb_in7 (i := 9) rfl rfl
theorem t_7_10 : Jvm.Cond.methodLink "DropsDanceLaw" (166 : Nat) ({ cls := "DropsDanceModel", name := "torn", desc := "()I" } : Jvm.MethodName) ∈ TB := tb_in7 (i := 10) rfl rfl
theorem t_7_11 : Jvm.Cond.instanceMethod ({ cls := "DropsDanceModel", name := "torn", desc := "()I" } : Jvm.MethodName) ∈ TB := tb_in7 (i := 11) rfl rfl
theorem t_7_12 : Jvm.Cond.selects "DropsDanceModel" ({ cls := "DropsDanceModel", name := "torn", desc := "()I" } : Jvm.MethodName) ({ cls := "DropsDanceModel", name := "torn", desc := "()I" } : Jvm.MethodName) ∈ TB := tb_in7 (i := 12) rfl rfl
theorem t_7_13 : Jvm.Cond.code ({ cls := "DropsDanceModel", name := "torn", desc := "()I" } : Jvm.MethodName) prog_13_method_88_code (1 : Nat) (Option.some Jvm.ClassFile.FieldType.int) ∈ TB := tb_in7 (i := 13) rfl rfl
theorem t_7_14 : Jvm.Cond.methodLink "DropsDanceLaw" (170 : Nat) ({ cls := "DropsDanceModel", name := "count", desc := "(I)I" } : Jvm.MethodName) ∈ TB := tb_in7 (i := 14) rfl rfl
theorem t_7_15 : Jvm.Cond.instanceMethod ({ cls := "DropsDanceModel", name := "count", desc := "(I)I" } : Jvm.MethodName) ∈ TB := tb_in7 (i := 15) rfl rfl
theorem t_7_16 : Jvm.Cond.selects "DropsDanceModel" ({ cls := "DropsDanceModel", name := "count", desc := "(I)I" } : Jvm.MethodName) ({ cls := "DropsDanceModel", name := "count", desc := "(I)I" } : Jvm.MethodName) ∈ TB := tb_in7 (i := 16) rfl rfl
theorem t_7_17 : Jvm.Cond.code ({ cls := "DropsDanceModel", name := "count", desc := "(I)I" } : Jvm.MethodName) prog_13_method_89_code (4 : Nat) (Option.some Jvm.ClassFile.FieldType.int) ∈ TB := tb_in7 (i := 17) rfl rfl
theorem t_7_18 : Jvm.Cond.constantLong "DropsDanceLaw" (13 : Nat) (4294967295 : Int64) ∈ TB := tb_in7 (i := 18) rfl rfl
theorem t_7_19 : Jvm.Cond.fieldLink "java/lang/String" (9 : Nat) "java/lang/String" "value" "[B" ∈ TB := tb_in7 (i := 19) rfl rfl
theorem t_7_20 : Jvm.Cond.fieldLink "java/lang/String" (15 : Nat) "java/lang/String" "coder" "B" ∈ TB := tb_in7 (i := 20) rfl rfl
theorem t_s_0 : Cond.selects "DropsDance$TextReader" (⟨"DropsDance$TextReader", "beginAnew", "(I)V"⟩ : MethodName) (⟨"DropsDance$TextReader", "beginAnew", "(I)V"⟩ : MethodName) ∈ TB := tb_sel (y := (⟨"DropsDance$TextReader", "beginAnew", "(I)V"⟩ : MethodName)) (n := 12) (List.mem_of_getElem? (i := 0) rfl) rfl
theorem t_s_1 : Cond.selects "DropsDance$TextReader" (⟨"DropsDance$TextReader", "readToken", "()V"⟩ : MethodName) (⟨"DropsDance$TextReader", "readToken", "()V"⟩ : MethodName) ∈ TB := tb_sel (y := (⟨"DropsDance$TextReader", "readToken", "()V"⟩ : MethodName)) (n := 12) (List.mem_of_getElem? (i := 1) rfl) rfl
theorem t_s_2 : Cond.selects "DropsDance$TextReader" (⟨"DropsDance$TextReader", "byteAt", "(I)I"⟩ : MethodName) (⟨"DropsDance$TextReader", "byteAt", "(I)I"⟩ : MethodName) ∈ TB := tb_sel (y := (⟨"DropsDance$TextReader", "byteAt", "(I)I"⟩ : MethodName)) (n := 12) (List.mem_of_getElem? (i := 2) rfl) rfl
theorem t_s_3 : Cond.selects "DropsDance$TextReader" (⟨"DropsDance$TextReader", "refuse", "(II)V"⟩ : MethodName) (⟨"DropsDance$TextReader", "refuse", "(II)V"⟩ : MethodName) ∈ TB := tb_sel (y := (⟨"DropsDance$TextReader", "refuse", "(II)V"⟩ : MethodName)) (n := 12) (List.mem_of_getElem? (i := 3) rfl) rfl
theorem t_s_4 : Cond.selects "DropsDance$TextReader" (⟨"DropsDance$TextReader", "isName", "(Ljava/lang/String;)Z"⟩ : MethodName) (⟨"DropsDance$TextReader", "isName", "(Ljava/lang/String;)Z"⟩ : MethodName) ∈ TB := tb_sel (y := (⟨"DropsDance$TextReader", "isName", "(Ljava/lang/String;)Z"⟩ : MethodName)) (n := 12) (List.mem_of_getElem? (i := 4) rfl) rfl
theorem t_s_5 : Cond.selects "DropsDance$TextReader" (⟨"DropsDance$TextReader", "readRow", "()V"⟩ : MethodName) (⟨"DropsDance$TextReader", "readRow", "()V"⟩ : MethodName) ∈ TB := tb_sel (y := (⟨"DropsDance$TextReader", "readRow", "()V"⟩ : MethodName)) (n := 12) (List.mem_of_getElem? (i := 5) rfl) rfl
theorem t_s_6 : Cond.selects "DropsDance$TextReader" (⟨"DropsDance$TextReader", "take", "(I)V"⟩ : MethodName) (⟨"DropsDance$TextReader", "take", "(I)V"⟩ : MethodName) ∈ TB := tb_sel (y := (⟨"DropsDance$TextReader", "take", "(I)V"⟩ : MethodName)) (n := 12) (List.mem_of_getElem? (i := 6) rfl) rfl
theorem t_s_7 : Cond.selects "DropsDance$TextReader" (⟨"DropsDance$TextReader", "ruleNamed", "()I"⟩ : MethodName) (⟨"DropsDance$TextReader", "ruleNamed", "()I"⟩ : MethodName) ∈ TB := tb_sel (y := (⟨"DropsDance$TextReader", "ruleNamed", "()I"⟩ : MethodName)) (n := 12) (List.mem_of_getElem? (i := 7) rfl) rfl
theorem t_s_8 : Cond.selects "DropsDance$TextReader" (⟨"DropsDance$TextReader", "readRule", "(I)V"⟩ : MethodName) (⟨"DropsDance$TextReader", "readRule", "(I)V"⟩ : MethodName) ∈ TB := tb_sel (y := (⟨"DropsDance$TextReader", "readRule", "(I)V"⟩ : MethodName)) (n := 12) (List.mem_of_getElem? (i := 8) rfl) rfl
theorem t_s_9 : Cond.selects "DropsDance$TextReader" (⟨"DropsDance$TextReader", "readValue", "(II)V"⟩ : MethodName) (⟨"DropsDance$TextReader", "readValue", "(II)V"⟩ : MethodName) ∈ TB := tb_sel (y := (⟨"DropsDance$TextReader", "readValue", "(II)V"⟩ : MethodName)) (n := 12) (List.mem_of_getElem? (i := 9) rfl) rfl
theorem t_s_10 : Cond.selects "DropsDance" (⟨"DropsDance", "setDown", "(III)I"⟩ : MethodName) (⟨"DropsDance", "setDown", "(III)I"⟩ : MethodName) ∈ TB := tb_sel (y := (⟨"DropsDance", "setDown", "(III)I"⟩ : MethodName)) (n := 13) (List.mem_of_getElem? (i := 10) rfl) rfl
theorem t_s_11 : Cond.selects "DropsDance$Scene" (⟨"DropsDance$Scene", "loseSteam", "(LDropsDance$Drop;I)V"⟩ : MethodName) (⟨"DropsDance$Scene", "loseSteam", "(LDropsDance$Drop;I)V"⟩ : MethodName) ∈ TB := tb_sel (y := (⟨"DropsDance$Scene", "loseSteam", "(LDropsDance$Drop;I)V"⟩ : MethodName)) (n := 11) (List.mem_of_getElem? (i := 11) rfl) rfl
theorem t_s_12 : Cond.selects "DropsDance$Scene" (⟨"DropsDance$Scene", "leave", "(LDropsDance$Drop;I)V"⟩ : MethodName) (⟨"DropsDance$Scene", "leave", "(LDropsDance$Drop;I)V"⟩ : MethodName) ∈ TB := tb_sel (y := (⟨"DropsDance$Scene", "leave", "(LDropsDance$Drop;I)V"⟩ : MethodName)) (n := 11) (List.mem_of_getElem? (i := 12) rfl) rfl
theorem t_s_13 : Cond.selects "DropsDance$Scene" (⟨"DropsDance$Scene", "floatOn", "(LDropsDance$Drop;LDropsDance$Rules;I)V"⟩ : MethodName) (⟨"DropsDance$Scene", "floatOn", "(LDropsDance$Drop;LDropsDance$Rules;I)V"⟩ : MethodName) ∈ TB := tb_sel (y := (⟨"DropsDance$Scene", "floatOn", "(LDropsDance$Drop;LDropsDance$Rules;I)V"⟩ : MethodName)) (n := 11) (List.mem_of_getElem? (i := 13) rfl) rfl
theorem t_s_14 : Cond.selects "DropsDance$Scene" (⟨"DropsDance$Scene", "drawWay", "()I"⟩ : MethodName) (⟨"DropsDance$Scene", "drawWay", "()I"⟩ : MethodName) ∈ TB := tb_sel (y := (⟨"DropsDance$Scene", "drawWay", "()I"⟩ : MethodName)) (n := 11) (List.mem_of_getElem? (i := 14) rfl) rfl
theorem t_s_15 : Cond.selects "DropsDance$Scene" (⟨"DropsDance$Scene", "joinWhoIsThere", "(LDropsDance$Drop;)V"⟩ : MethodName) (⟨"DropsDance$Scene", "joinWhoIsThere", "(LDropsDance$Drop;)V"⟩ : MethodName) ∈ TB := tb_sel (y := (⟨"DropsDance$Scene", "joinWhoIsThere", "(LDropsDance$Drop;)V"⟩ : MethodName)) (n := 11) (List.mem_of_getElem? (i := 15) rfl) rfl
theorem t_s_16 : Cond.selects "DropsDance$Rules" (⟨"DropsDance$Rules", "lifeFloating", "(I)I"⟩ : MethodName) (⟨"DropsDance$Rules", "lifeFloating", "(I)I"⟩ : MethodName) ∈ TB := tb_sel (y := (⟨"DropsDance$Rules", "lifeFloating", "(I)I"⟩ : MethodName)) (n := 1) (List.mem_of_getElem? (i := 16) rfl) rfl
theorem t_s_17 : Cond.selects "DropsDance$Rules" (⟨"DropsDance$Rules", "lifeTouching", "(II)I"⟩ : MethodName) (⟨"DropsDance$Rules", "lifeTouching", "(II)I"⟩ : MethodName) ∈ TB := tb_sel (y := (⟨"DropsDance$Rules", "lifeTouching", "(II)I"⟩ : MethodName)) (n := 1) (List.mem_of_getElem? (i := 17) rfl) rfl
theorem t_s_18 : Cond.selects "DropsDance$Roller" (⟨"DropsDance$Roller", "takeOut", "(I)J"⟩ : MethodName) (⟨"DropsDance$Roller", "takeOut", "(I)J"⟩ : MethodName) ∈ TB := tb_sel (y := (⟨"DropsDance$Roller", "takeOut", "(I)J"⟩ : MethodName)) (n := 2) (List.mem_of_getElem? (i := 18) rfl) rfl
theorem t_s_19 : Cond.selects "DropsDance$Roller" (⟨"DropsDance$Roller", "rollAll", "(LDropsDance$Scene;)V"⟩ : MethodName) (⟨"DropsDance$Roller", "rollAll", "(LDropsDance$Scene;)V"⟩ : MethodName) ∈ TB := tb_sel (y := (⟨"DropsDance$Roller", "rollAll", "(LDropsDance$Scene;)V"⟩ : MethodName)) (n := 2) (List.mem_of_getElem? (i := 19) rfl) rfl
theorem t_s_20 : Cond.selects "DropsDance" (⟨"DropsDance", "howManyImages", "()I"⟩ : MethodName) (⟨"DropsDance", "howManyImages", "()I"⟩ : MethodName) ∈ TB := tb_sel (y := (⟨"DropsDance", "howManyImages", "()I"⟩ : MethodName)) (n := 13) (List.mem_of_getElem? (i := 20) rfl) rfl
theorem t_s_21 : Cond.selects "DropsDanceModel" (⟨"DropsDanceModel", "firstDraft", "()V"⟩ : MethodName) (⟨"DropsDanceModel", "firstDraft", "()V"⟩ : MethodName) ∈ TB := tb_sel (y := (⟨"DropsDanceModel", "firstDraft", "()V"⟩ : MethodName)) (n := 29) (List.mem_of_getElem? (i := 21) rfl) rfl
theorem t_s_22 : Cond.selects "DropsDanceModel" (⟨"DropsDanceModel", "keepDraft", "()V"⟩ : MethodName) (⟨"DropsDanceModel", "keepDraft", "()V"⟩ : MethodName) ∈ TB := tb_sel (y := (⟨"DropsDanceModel", "keepDraft", "()V"⟩ : MethodName)) (n := 29) (List.mem_of_getElem? (i := 22) rfl) rfl
theorem t_s_23 : Cond.selects "DropsDanceModel" (⟨"DropsDanceModel", "next", "()V"⟩ : MethodName) (⟨"DropsDanceModel", "next", "()V"⟩ : MethodName) ∈ TB := tb_sel (y := (⟨"DropsDanceModel", "next", "()V"⟩ : MethodName)) (n := 29) (List.mem_of_getElem? (i := 23) rfl) rfl
theorem t_s_24 : Cond.selects "DropsDanceModel" (⟨"DropsDanceModel", "look", "(I)I"⟩ : MethodName) (⟨"DropsDanceModel", "look", "(I)I"⟩ : MethodName) ∈ TB := tb_sel (y := (⟨"DropsDanceModel", "look", "(I)I"⟩ : MethodName)) (n := 29) (List.mem_of_getElem? (i := 24) rfl) rfl
theorem t_s_25 : Cond.selects "DropsDanceModel" (⟨"DropsDanceModel", "needs", "(ZI)V"⟩ : MethodName) (⟨"DropsDanceModel", "needs", "(ZI)V"⟩ : MethodName) ∈ TB := tb_sel (y := (⟨"DropsDanceModel", "needs", "(ZI)V"⟩ : MethodName)) (n := 29) (List.mem_of_getElem? (i := 25) rfl) rfl
theorem t_s_26 : Cond.selects "DropsDanceModel" (⟨"DropsDanceModel", "readLine", "()V"⟩ : MethodName) (⟨"DropsDanceModel", "readLine", "()V"⟩ : MethodName) ∈ TB := tb_sel (y := (⟨"DropsDanceModel", "readLine", "()V"⟩ : MethodName)) (n := 29) (List.mem_of_getElem? (i := 26) rfl) rfl
theorem t_s_27 : Cond.selects "DropsDanceModel" (⟨"DropsDanceModel", "nameNow", "()I"⟩ : MethodName) (⟨"DropsDanceModel", "nameNow", "()I"⟩ : MethodName) ∈ TB := tb_sel (y := (⟨"DropsDanceModel", "nameNow", "()I"⟩ : MethodName)) (n := 29) (List.mem_of_getElem? (i := 27) rfl) rfl
theorem t_s_28 : Cond.selects "DropsDanceModel" (⟨"DropsDanceModel", "starts", "(IIIII)Z"⟩ : MethodName) (⟨"DropsDanceModel", "starts", "(IIIII)Z"⟩ : MethodName) ∈ TB := tb_sel (y := (⟨"DropsDanceModel", "starts", "(IIIII)Z"⟩ : MethodName)) (n := 29) (List.mem_of_getElem? (i := 28) rfl) rfl
theorem t_s_29 : Cond.selects "DropsDanceModel" (⟨"DropsDanceModel", "readRow", "()V"⟩ : MethodName) (⟨"DropsDanceModel", "readRow", "()V"⟩ : MethodName) ∈ TB := tb_sel (y := (⟨"DropsDanceModel", "readRow", "()V"⟩ : MethodName)) (n := 29) (List.mem_of_getElem? (i := 29) rfl) rfl
theorem t_s_30 : Cond.selects "DropsDanceModel" (⟨"DropsDanceModel", "lowest", "(I)I"⟩ : MethodName) (⟨"DropsDanceModel", "lowest", "(I)I"⟩ : MethodName) ∈ TB := tb_sel (y := (⟨"DropsDanceModel", "lowest", "(I)I"⟩ : MethodName)) (n := 29) (List.mem_of_getElem? (i := 30) rfl) rfl
theorem t_s_31 : Cond.selects "DropsDanceModel" (⟨"DropsDanceModel", "highest", "(I)I"⟩ : MethodName) (⟨"DropsDanceModel", "highest", "(I)I"⟩ : MethodName) ∈ TB := tb_sel (y := (⟨"DropsDanceModel", "highest", "(I)I"⟩ : MethodName)) (n := 29) (List.mem_of_getElem? (i := 31) rfl) rfl
theorem t_s_32 : Cond.selects "DropsDanceModel" (⟨"DropsDanceModel", "readNumber", "(II)I"⟩ : MethodName) (⟨"DropsDanceModel", "readNumber", "(II)I"⟩ : MethodName) ∈ TB := tb_sel (y := (⟨"DropsDanceModel", "readNumber", "(II)I"⟩ : MethodName)) (n := 29) (List.mem_of_getElem? (i := 32) rfl) rfl
theorem t_s_33 : Cond.selects "DropsDanceModel" (⟨"DropsDanceModel", "inCell", "(II)I"⟩ : MethodName) (⟨"DropsDanceModel", "inCell", "(II)I"⟩ : MethodName) ∈ TB := tb_sel (y := (⟨"DropsDanceModel", "inCell", "(II)I"⟩ : MethodName)) (n := 29) (List.mem_of_getElem? (i := 33) rfl) rfl
theorem t_s_34 : Cond.selects "DropsDanceModel" (⟨"DropsDanceModel", "isThere", "(I)Z"⟩ : MethodName) (⟨"DropsDanceModel", "isThere", "(I)Z"⟩ : MethodName) ∈ TB := tb_sel (y := (⟨"DropsDanceModel", "isThere", "(I)Z"⟩ : MethodName)) (n := 29) (List.mem_of_getElem? (i := 34) rfl) rfl
theorem t_s_35 : Cond.selects "DropsDanceModel" (⟨"DropsDanceModel", "acts", "(I)V"⟩ : MethodName) (⟨"DropsDanceModel", "acts", "(I)V"⟩ : MethodName) ∈ TB := tb_sel (y := (⟨"DropsDanceModel", "acts", "(I)V"⟩ : MethodName)) (n := 29) (List.mem_of_getElem? (i := 35) rfl) rfl
theorem t_s_36 : Cond.selects "DropsDanceModel" (⟨"DropsDanceModel", "touches", "(I)Z"⟩ : MethodName) (⟨"DropsDanceModel", "touches", "(I)Z"⟩ : MethodName) ∈ TB := tb_sel (y := (⟨"DropsDanceModel", "touches", "(I)Z"⟩ : MethodName)) (n := 29) (List.mem_of_getElem? (i := 36) rfl) rfl
theorem t_s_37 : Cond.selects "DropsDanceModel" (⟨"DropsDanceModel", "hisses", "(II)I"⟩ : MethodName) (⟨"DropsDanceModel", "hisses", "(II)I"⟩ : MethodName) ∈ TB := tb_sel (y := (⟨"DropsDanceModel", "hisses", "(II)I"⟩ : MethodName)) (n := 29) (List.mem_of_getElem? (i := 37) rfl) rfl
theorem t_s_38 : Cond.selects "DropsDanceModel" (⟨"DropsDanceModel", "loses", "(II)V"⟩ : MethodName) (⟨"DropsDanceModel", "loses", "(II)V"⟩ : MethodName) ∈ TB := tb_sel (y := (⟨"DropsDanceModel", "loses", "(II)V"⟩ : MethodName)) (n := 29) (List.mem_of_getElem? (i := 38) rfl) rfl
theorem t_s_39 : Cond.selects "DropsDanceModel" (⟨"DropsDanceModel", "ends", "(II)V"⟩ : MethodName) (⟨"DropsDanceModel", "ends", "(II)V"⟩ : MethodName) ∈ TB := tb_sel (y := (⟨"DropsDanceModel", "ends", "(II)V"⟩ : MethodName)) (n := 29) (List.mem_of_getElem? (i := 39) rfl) rfl
theorem t_s_40 : Cond.selects "DropsDanceModel" (⟨"DropsDanceModel", "thins", "(II)I"⟩ : MethodName) (⟨"DropsDanceModel", "thins", "(II)I"⟩ : MethodName) ∈ TB := tb_sel (y := (⟨"DropsDanceModel", "thins", "(II)I"⟩ : MethodName)) (n := 29) (List.mem_of_getElem? (i := 40) rfl) rfl
theorem t_s_41 : Cond.selects "DropsDanceModel" (⟨"DropsDanceModel", "goesOn", "(I)V"⟩ : MethodName) (⟨"DropsDanceModel", "goesOn", "(I)V"⟩ : MethodName) ∈ TB := tb_sel (y := (⟨"DropsDanceModel", "goesOn", "(I)V"⟩ : MethodName)) (n := 29) (List.mem_of_getElem? (i := 41) rfl) rfl
theorem t_s_42 : Cond.selects "DropsDanceModel" (⟨"DropsDanceModel", "isTooth", "(II)Z"⟩ : MethodName) (⟨"DropsDanceModel", "isTooth", "(II)Z"⟩ : MethodName) ∈ TB := tb_sel (y := (⟨"DropsDanceModel", "isTooth", "(II)Z"⟩ : MethodName)) (n := 29) (List.mem_of_getElem? (i := 42) rfl) rfl
theorem t_s_43 : Cond.selects "DropsDanceModel" (⟨"DropsDanceModel", "draws", "()I"⟩ : MethodName) (⟨"DropsDanceModel", "draws", "()I"⟩ : MethodName) ∈ TB := tb_sel (y := (⟨"DropsDanceModel", "draws", "()I"⟩ : MethodName)) (n := 29) (List.mem_of_getElem? (i := 43) rfl) rfl
theorem t_s_44 : Cond.selects "DropsDanceModel" (⟨"DropsDanceModel", "isWall", "(I)Z"⟩ : MethodName) (⟨"DropsDanceModel", "isWall", "(I)Z"⟩ : MethodName) ∈ TB := tb_sel (y := (⟨"DropsDanceModel", "isWall", "(I)Z"⟩ : MethodName)) (n := 29) (List.mem_of_getElem? (i := 44) rfl) rfl
theorem t_s_45 : Cond.selects "DropsDanceModel" (⟨"DropsDanceModel", "thereMany", "()I"⟩ : MethodName) (⟨"DropsDanceModel", "thereMany", "()I"⟩ : MethodName) ∈ TB := tb_sel (y := (⟨"DropsDanceModel", "thereMany", "()I"⟩ : MethodName)) (n := 29) (List.mem_of_getElem? (i := 45) rfl) rfl
theorem t_s_46 : Cond.selects "DropsDanceModel" (⟨"DropsDanceModel", "copies", "(II)V"⟩ : MethodName) (⟨"DropsDanceModel", "copies", "(II)V"⟩ : MethodName) ∈ TB := tb_sel (y := (⟨"DropsDanceModel", "copies", "(II)V"⟩ : MethodName)) (n := 29) (List.mem_of_getElem? (i := 46) rfl) rfl
theorem t_s_47 : Cond.selects "DropsDanceModel" (⟨"DropsDanceModel", "sets", "(III)V"⟩ : MethodName) (⟨"DropsDanceModel", "sets", "(III)V"⟩ : MethodName) ∈ TB := tb_sel (y := (⟨"DropsDanceModel", "sets", "(III)V"⟩ : MethodName)) (n := 29) (List.mem_of_getElem? (i := 47) rfl) rfl
theorem t_s_48 : Cond.selects "DropsDanceModel" (⟨"DropsDanceModel", "oneActs", "(I)V"⟩ : MethodName) (⟨"DropsDanceModel", "oneActs", "(I)V"⟩ : MethodName) ∈ TB := tb_sel (y := (⟨"DropsDanceModel", "oneActs", "(I)V"⟩ : MethodName)) (n := 29) (List.mem_of_getElem? (i := 48) rfl) rfl
theorem t_s_49 : Cond.selects "DropsDanceModel" (⟨"DropsDanceModel", "oneEnds", "(II)V"⟩ : MethodName) (⟨"DropsDanceModel", "oneEnds", "(II)V"⟩ : MethodName) ∈ TB := tb_sel (y := (⟨"DropsDanceModel", "oneEnds", "(II)V"⟩ : MethodName)) (n := 29) (List.mem_of_getElem? (i := 49) rfl) rfl
theorem t_s_50 : Cond.selects "DropsDanceModel" (⟨"DropsDanceModel", "oneGoes", "(I)V"⟩ : MethodName) (⟨"DropsDanceModel", "oneGoes", "(I)V"⟩ : MethodName) ∈ TB := tb_sel (y := (⟨"DropsDanceModel", "oneGoes", "(I)V"⟩ : MethodName)) (n := 29) (List.mem_of_getElem? (i := 50) rfl) rfl
theorem t_s_51 : Cond.selects "DropsDanceModel" (⟨"DropsDanceModel", "reachOf", "(IIII)I"⟩ : MethodName) (⟨"DropsDanceModel", "reachOf", "(IIII)I"⟩ : MethodName) ∈ TB := tb_sel (y := (⟨"DropsDanceModel", "reachOf", "(IIII)I"⟩ : MethodName)) (n := 29) (List.mem_of_getElem? (i := 51) rfl) rfl
theorem t_s_52 : Cond.selects "DropsDanceModel" (⟨"DropsDanceModel", "along", "(III)I"⟩ : MethodName) (⟨"DropsDanceModel", "along", "(III)I"⟩ : MethodName) ∈ TB := tb_sel (y := (⟨"DropsDanceModel", "along", "(III)I"⟩ : MethodName)) (n := 29) (List.mem_of_getElem? (i := 52) rfl) rfl
theorem t_s_53 : Cond.selects "DropsDanceModel" (⟨"DropsDanceModel", "lifeAt", "(IIZ)I"⟩ : MethodName) (⟨"DropsDanceModel", "lifeAt", "(IIZ)I"⟩ : MethodName) ∈ TB := tb_sel (y := (⟨"DropsDanceModel", "lifeAt", "(IIZ)I"⟩ : MethodName)) (n := 29) (List.mem_of_getElem? (i := 53) rfl) rfl
theorem t_s_54 : Cond.selects "DropsDanceModel" (⟨"DropsDanceModel", "floatsAt", "(IZ)Z"⟩ : MethodName) (⟨"DropsDanceModel", "floatsAt", "(IZ)Z"⟩ : MethodName) ∈ TB := tb_sel (y := (⟨"DropsDanceModel", "floatsAt", "(IZ)Z"⟩ : MethodName)) (n := 29) (List.mem_of_getElem? (i := 54) rfl) rfl
theorem t_s_55 : Cond.selects "DropsDanceModel" (⟨"DropsDanceModel", "lifeOf", "(IIZ)I"⟩ : MethodName) (⟨"DropsDanceModel", "lifeOf", "(IIZ)I"⟩ : MethodName) ∈ TB := tb_sel (y := (⟨"DropsDanceModel", "lifeOf", "(IIZ)I"⟩ : MethodName)) (n := 29) (List.mem_of_getElem? (i := 55) rfl) rfl
theorem t_s_56 : Cond.selects "DropsDanceModel" (⟨"DropsDanceModel", "spreads", "(I)J"⟩ : MethodName) (⟨"DropsDanceModel", "spreads", "(I)J"⟩ : MethodName) ∈ TB := tb_sel (y := (⟨"DropsDanceModel", "spreads", "(I)J"⟩ : MethodName)) (n := 29) (List.mem_of_getElem? (i := 56) rfl) rfl
theorem t_s_57 : Cond.selects "DropsDanceModel" (⟨"DropsDanceModel", "isRight", "(I)Z"⟩ : MethodName) (⟨"DropsDanceModel", "isRight", "(I)Z"⟩ : MethodName) ∈ TB := tb_sel (y := (⟨"DropsDanceModel", "isRight", "(I)Z"⟩ : MethodName)) (n := 29) (List.mem_of_getElem? (i := 57) rfl) rfl
theorem t_s_58 : Cond.selects "DropsDanceModel" (⟨"DropsDanceModel", "takesBack", "(II)V"⟩ : MethodName) (⟨"DropsDanceModel", "takesBack", "(II)V"⟩ : MethodName) ∈ TB := tb_sel (y := (⟨"DropsDanceModel", "takesBack", "(II)V"⟩ : MethodName)) (n := 29) (List.mem_of_getElem? (i := 58) rfl) rfl
theorem f_X0 : ∀ w ∈ u_ws RX0 TX0 6, w ∈ TB := by
  show ∀ w ∈ [Cond.lays "DropsDance$Drop" "DropsDance$Drop" "cell" "I", Cond.lays "DropsDance$Drop" "DropsDance$Drop" "size" "I", Cond.lays "DropsDance$Drop" "DropsDance$Drop" "way" "I", Cond.lays "DropsDance$Drop" "DropsDance$Drop" "gone" "I", Cond.lays "DropsDance$Drop" "DropsDance$Drop" "goneTick" "I", Cond.lays "DropsDance$Drop" "DropsDance$Drop" "joinedTo" "I"], w ∈ TB
  exact (List.forall_mem_cons.mpr ⟨t_1_139, (List.forall_mem_cons.mpr ⟨t_1_141, (List.forall_mem_cons.mpr ⟨t_1_143, (List.forall_mem_cons.mpr ⟨t_1_145, (List.forall_mem_cons.mpr ⟨t_1_147, (List.forall_mem_cons.mpr ⟨t_1_149, (fun _ h => absurd h List.not_mem_nil)⟩)⟩)⟩)⟩)⟩)⟩)
theorem f_X1 : ∀ w ∈ u_ws RX1 TX1 2, w ∈ TB := by
  show ∀ w ∈ [Cond.laysFinal "DropsDance$Image" "DropsDance$Image" "scene" "LDropsDance$Scene;", Cond.lays "DropsDance$Image" "DropsDance$Image" "there" "Z"], w ∈ TB
  exact (List.forall_mem_cons.mpr ⟨t_2_73, (List.forall_mem_cons.mpr ⟨t_2_75, (fun _ h => absurd h List.not_mem_nil)⟩)⟩)
theorem f_X2 : ∀ w ∈ u_ws RX2 TX2 9, w ∈ TB := by
  show ∀ w ∈ [Cond.laysFinal "DropsDance$Loner" "DropsDance$Loner" "own" "LDropsDance$Scene;", Cond.laysFinal "DropsDance$Loner" "DropsDance$Loner" "been" "[I", Cond.laysFinal "DropsDance$Loner" "DropsDance$Loner" "worthTrying" "[I", Cond.lays "DropsDance$Loner" "DropsDance$Loner" "firstCell" "I", Cond.lays "DropsDance$Loner" "DropsDance$Loner" "firstSize" "I", Cond.lays "DropsDance$Loner" "DropsDance$Loner" "firstWay" "I", Cond.lays "DropsDance$Loner" "DropsDance$Loner" "bestTicks" "I", Cond.lays "DropsDance$Loner" "DropsDance$Loner" "bestCell" "I", Cond.lays "DropsDance$Loner" "DropsDance$Loner" "bestKind" "I"], w ∈ TB
  exact (List.forall_mem_cons.mpr ⟨t_1_221, (List.forall_mem_cons.mpr ⟨t_1_223, (List.forall_mem_cons.mpr ⟨t_1_225, (List.forall_mem_cons.mpr ⟨t_1_227, (List.forall_mem_cons.mpr ⟨t_1_229, (List.forall_mem_cons.mpr ⟨t_1_231, (List.forall_mem_cons.mpr ⟨t_1_233, (List.forall_mem_cons.mpr ⟨t_1_235, (List.forall_mem_cons.mpr ⟨t_1_237, (fun _ h => absurd h List.not_mem_nil)⟩)⟩)⟩)⟩)⟩)⟩)⟩)⟩)⟩)
theorem f_X3 : ∀ w ∈ u_ws RX3 TX3 4, w ∈ TB := by
  show ∀ w ∈ [Cond.laysFinal "DropsDance$Path" "DropsDance$Path" "walker" "LDropsDance$Drop;", Cond.laysFinal "DropsDance$Path" "DropsDance$Path" "seenAt" "[I", Cond.lays "DropsDance$Path" "DropsDance$Path" "ticksBefore" "I", Cond.lays "DropsDance$Path" "DropsDance$Path" "ticksRound" "I"], w ∈ TB
  exact (List.forall_mem_cons.mpr ⟨t_2_14, (List.forall_mem_cons.mpr ⟨t_2_16, (List.forall_mem_cons.mpr ⟨t_2_18, (List.forall_mem_cons.mpr ⟨t_2_20, (fun _ h => absurd h List.not_mem_nil)⟩)⟩)⟩)⟩)
theorem f_X4 : ∀ w ∈ u_ws RX4 TX4 2, w ∈ TB := by
  show ∀ w ∈ [Cond.laysFinal "DropsDance$Roller" "DropsDance$Roller" "courses" "[J", Cond.laysFinal "DropsDance$Roller" "DropsDance$Roller" "coursesNext" "[J"], w ∈ TB
  exact (List.forall_mem_cons.mpr ⟨t_2_31, (List.forall_mem_cons.mpr ⟨t_2_33, (fun _ h => absurd h List.not_mem_nil)⟩)⟩)
theorem f_X5 : ∀ w ∈ u_ws RX5 TX5 1, w ∈ TB := by
  show ∀ w ∈ [Cond.laysFinal "DropsDance$Rules" "DropsDance$Rules" "values" "[I"], w ∈ TB
  exact (List.forall_mem_cons.mpr ⟨t_1_51, (fun _ h => absurd h List.not_mem_nil)⟩)
theorem f_X6 : ∀ w ∈ u_ws RX6 TX6 11, w ∈ TB := by
  show ∀ w ∈ [Cond.laysFinal "DropsDance$Scene" "DropsDance$Scene" "cells" "[I", Cond.laysFinal "DropsDance$Scene" "DropsDance$Scene" "drops" "[LDropsDance$Drop;", Cond.lays "DropsDance$Scene" "DropsDance$Scene" "many" "I", Cond.lays "DropsDance$Scene" "DropsDance$Scene" "heat" "I", Cond.lays "DropsDance$Scene" "DropsDance$Scene" "tick" "I", Cond.lays "DropsDance$Scene" "DropsDance$Scene" "seed" "I", Cond.lays "DropsDance$Scene" "DropsDance$Scene" "floating" "Z", Cond.lays "DropsDance$Scene" "DropsDance$Scene" "steam" "I", Cond.lays "DropsDance$Scene" "DropsDance$Scene" "fallen" "I", Cond.lays "DropsDance$Scene" "DropsDance$Scene" "leapt" "I", Cond.lays "DropsDance$Scene" "DropsDance$Scene" "poured" "I"], w ∈ TB
  exact (List.forall_mem_cons.mpr ⟨t_1_176, (List.forall_mem_cons.mpr ⟨t_1_178, (List.forall_mem_cons.mpr ⟨t_1_180, (List.forall_mem_cons.mpr ⟨t_1_182, (List.forall_mem_cons.mpr ⟨t_1_184, (List.forall_mem_cons.mpr ⟨t_1_186, (List.forall_mem_cons.mpr ⟨t_1_188, (List.forall_mem_cons.mpr ⟨t_1_190, (List.forall_mem_cons.mpr ⟨t_1_192, (List.forall_mem_cons.mpr ⟨t_1_194, (List.forall_mem_cons.mpr ⟨t_1_196, (fun _ h => absurd h List.not_mem_nil)⟩)⟩)⟩)⟩)⟩)⟩)⟩)⟩)⟩)⟩)⟩)
theorem f_X7 : ∀ w ∈ u_ws RX7 TX7 3, w ∈ TB := by
  show ∀ w ∈ [Cond.laysFinal "DropsDance$Sheet" "DropsDance$Sheet" "row" "[I", Cond.lays "DropsDance$Sheet" "DropsDance$Sheet" "lane" "I", Cond.lays "DropsDance$Sheet" "DropsDance$Sheet" "length" "I"], w ∈ TB
  exact (List.forall_mem_cons.mpr ⟨t_2_88, (List.forall_mem_cons.mpr ⟨t_2_90, (List.forall_mem_cons.mpr ⟨t_2_92, (fun _ h => absurd h List.not_mem_nil)⟩)⟩)⟩)
theorem f_X8 : ∀ w ∈ u_ws RX8 TX8 12, w ∈ TB := by
  show ∀ w ∈ [Cond.laysFinal "DropsDance$TextReader" "DropsDance$TextReader" "rules" "LDropsDance$Rules;", Cond.laysFinal "DropsDance$TextReader" "DropsDance$TextReader" "cells" "[I", Cond.laysFinal "DropsDance$TextReader" "DropsDance$TextReader" "ruleTold" "[Z", Cond.laysFinal "DropsDance$TextReader" "DropsDance$TextReader" "bytes" "[B", Cond.lays "DropsDance$TextReader" "DropsDance$TextReader" "length" "I", Cond.lays "DropsDance$TextReader" "DropsDance$TextReader" "next" "I", Cond.lays "DropsDance$TextReader" "DropsDance$TextReader" "rows" "I", Cond.lays "DropsDance$TextReader" "DropsDance$TextReader" "kind" "I", Cond.lays "DropsDance$TextReader" "DropsDance$TextReader" "start" "I", Cond.lays "DropsDance$TextReader" "DropsDance$TextReader" "lines" "I", Cond.lays "DropsDance$TextReader" "DropsDance$TextReader" "fault" "I", Cond.lays "DropsDance$TextReader" "DropsDance$TextReader" "place" "I"], w ∈ TB
  exact (List.forall_mem_cons.mpr ⟨t_1_73, (List.forall_mem_cons.mpr ⟨t_1_75, (List.forall_mem_cons.mpr ⟨t_1_77, (List.forall_mem_cons.mpr ⟨t_1_79, (List.forall_mem_cons.mpr ⟨t_1_81, (List.forall_mem_cons.mpr ⟨t_1_83, (List.forall_mem_cons.mpr ⟨t_1_85, (List.forall_mem_cons.mpr ⟨t_1_87, (List.forall_mem_cons.mpr ⟨t_1_89, (List.forall_mem_cons.mpr ⟨t_1_91, (List.forall_mem_cons.mpr ⟨t_1_93, (List.forall_mem_cons.mpr ⟨t_1_95, (fun _ h => absurd h List.not_mem_nil)⟩)⟩)⟩)⟩)⟩)⟩)⟩)⟩)⟩)⟩)⟩)⟩)
theorem f_X9 : ∀ w ∈ u_ws RX9 TX9 5, w ∈ TB := by
  show ∀ w ∈ [Cond.laysFinal "DropsDance$ToldLives" "DropsDance$ToldLives" "sizes" "[I", Cond.laysFinal "DropsDance$ToldLives" "DropsDance$ToldLives" "heats" "[I", Cond.laysFinal "DropsDance$ToldLives" "DropsDance$ToldLives" "lives" "[I", Cond.laysFinal "DropsDance$ToldLives" "DropsDance$ToldLives" "fromBelow" "[Z", Cond.lays "DropsDance$ToldLives" "DropsDance$ToldLives" "many" "I"], w ∈ TB
  exact (List.forall_mem_cons.mpr ⟨t_2_49, (List.forall_mem_cons.mpr ⟨t_2_51, (List.forall_mem_cons.mpr ⟨t_2_53, (List.forall_mem_cons.mpr ⟨t_2_55, (List.forall_mem_cons.mpr ⟨t_2_57, (fun _ h => absurd h List.not_mem_nil)⟩)⟩)⟩)⟩)⟩)
theorem f_X10 : ∀ w ∈ u_ws RX10 TX10 13, w ∈ TB := by
  show ∀ w ∈ [Cond.laysFinal "DropsDance" "DropsDance" "tape" "[B", Cond.lays "DropsDance" "DropsDance" "tapeLength" "I", Cond.laysFinal "DropsDance" "DropsDance" "reader" "LDropsDance$TextReader;", Cond.lays "DropsDance" "DropsDance" "textFault" "I", Cond.laysFinal "DropsDance" "DropsDance" "rules" "LDropsDance$Rules;", Cond.laysFinal "DropsDance" "DropsDance" "scene" "LDropsDance$Scene;", Cond.laysFinal "DropsDance" "DropsDance" "images" "[LDropsDance$Image;", Cond.laysFinal "DropsDance" "DropsDance" "loner" "LDropsDance$Loner;", Cond.laysFinal "DropsDance" "DropsDance" "path" "LDropsDance$Path;", Cond.laysFinal "DropsDance" "DropsDance" "roller" "LDropsDance$Roller;", Cond.laysFinal "DropsDance" "DropsDance" "told" "LDropsDance$ToldLives;", Cond.laysFinal "DropsDance" "DropsDance" "sheets" "[LDropsDance$Sheet;", Cond.lays "DropsDance" "DropsDance" "readFault" "I"], w ∈ TB
  exact (List.forall_mem_cons.mpr ⟨t_2_108, (List.forall_mem_cons.mpr ⟨t_2_110, (List.forall_mem_cons.mpr ⟨t_2_112, (List.forall_mem_cons.mpr ⟨t_2_114, (List.forall_mem_cons.mpr ⟨t_2_116, (List.forall_mem_cons.mpr ⟨t_2_118, (List.forall_mem_cons.mpr ⟨t_2_120, (List.forall_mem_cons.mpr ⟨t_2_122, (List.forall_mem_cons.mpr ⟨t_2_124, (List.forall_mem_cons.mpr ⟨t_2_126, (List.forall_mem_cons.mpr ⟨t_2_128, (List.forall_mem_cons.mpr ⟨t_2_130, (List.forall_mem_cons.mpr ⟨t_2_132, (fun _ h => absurd h List.not_mem_nil)⟩)⟩)⟩)⟩)⟩)⟩)⟩)⟩)⟩)⟩)⟩)⟩)⟩)
theorem f_X11 : ∀ w ∈ u_ws RX11 TX11 29, w ∈ TB := by
  show ∀ w ∈ [Cond.laysFinal "DropsDanceModel" "DropsDanceModel" "st" "[I", Cond.laysFinal "DropsDanceModel" "DropsDanceModel" "isKept" "[Z", Cond.laysFinal "DropsDanceModel" "DropsDanceModel" "rule" "[I", Cond.laysFinal "DropsDanceModel" "DropsDanceModel" "dRule" "[I", Cond.laysFinal "DropsDanceModel" "DropsDanceModel" "isTold" "[Z", Cond.lays "DropsDanceModel" "DropsDanceModel" "dRows" "I", Cond.laysFinal "DropsDanceModel" "DropsDanceModel" "dPlate" "[I", Cond.laysFinal "DropsDanceModel" "DropsDanceModel" "tape" "[I", Cond.lays "DropsDanceModel" "DropsDanceModel" "taped" "I", Cond.lays "DropsDanceModel" "DropsDanceModel" "pos" "I", Cond.lays "DropsDanceModel" "DropsDanceModel" "from" "I", Cond.lays "DropsDanceModel" "DropsDanceModel" "sort" "I", Cond.lays "DropsDanceModel" "DropsDanceModel" "value" "I", Cond.lays "DropsDanceModel" "DropsDanceModel" "fault" "I", Cond.lays "DropsDanceModel" "DropsDanceModel" "wrongAt" "I", Cond.lays "DropsDanceModel" "DropsDanceModel" "oneAt" "I", Cond.lays "DropsDanceModel" "DropsDanceModel" "oneBig" "I", Cond.lays "DropsDanceModel" "DropsDanceModel" "oneWay" "I", Cond.lays "DropsDanceModel" "DropsDanceModel" "oneGone" "I", Cond.lays "DropsDanceModel" "DropsDanceModel" "oneWhen" "I", Cond.laysFinal "DropsDanceModel" "DropsDanceModel" "seen" "[I", Cond.laysFinal "DropsDanceModel" "DropsDanceModel" "waysTo" "[J", Cond.laysFinal "DropsDanceModel" "DropsDanceModel" "waysThen" "[J", Cond.lays "DropsDanceModel" "DropsDanceModel" "saws" "I", Cond.laysFinal "DropsDanceModel" "DropsDanceModel" "saw" "[I", Cond.laysFinal "DropsDanceModel" "DropsDanceModel" "lanes" "[I", Cond.laysFinal "DropsDanceModel" "DropsDanceModel" "sizes" "[I", Cond.laysFinal "DropsDanceModel" "DropsDanceModel" "cells" "[I", Cond.lays "DropsDanceModel" "DropsDanceModel" "torn" "I"], w ∈ TB
  exact (List.forall_mem_cons.mpr ⟨t_5_87, (List.forall_mem_cons.mpr ⟨t_5_89, (List.forall_mem_cons.mpr ⟨t_5_91, (List.forall_mem_cons.mpr ⟨t_5_93, (List.forall_mem_cons.mpr ⟨t_5_95, (List.forall_mem_cons.mpr ⟨t_5_97, (List.forall_mem_cons.mpr ⟨t_5_99, (List.forall_mem_cons.mpr ⟨t_5_101, (List.forall_mem_cons.mpr ⟨t_5_103, (List.forall_mem_cons.mpr ⟨t_5_105, (List.forall_mem_cons.mpr ⟨t_5_107, (List.forall_mem_cons.mpr ⟨t_5_109, (List.forall_mem_cons.mpr ⟨t_5_111, (List.forall_mem_cons.mpr ⟨t_5_113, (List.forall_mem_cons.mpr ⟨t_5_115, (List.forall_mem_cons.mpr ⟨t_5_117, (List.forall_mem_cons.mpr ⟨t_5_119, (List.forall_mem_cons.mpr ⟨t_5_121, (List.forall_mem_cons.mpr ⟨t_5_123, (List.forall_mem_cons.mpr ⟨t_5_125, (List.forall_mem_cons.mpr ⟨t_5_127, (List.forall_mem_cons.mpr ⟨t_5_129, (List.forall_mem_cons.mpr ⟨t_5_131, (List.forall_mem_cons.mpr ⟨t_5_133, (List.forall_mem_cons.mpr ⟨t_5_135, (List.forall_mem_cons.mpr ⟨t_5_137, (List.forall_mem_cons.mpr ⟨t_5_139, (List.forall_mem_cons.mpr ⟨t_5_141, (List.forall_mem_cons.mpr ⟨t_5_143, (fun _ h => absurd h List.not_mem_nil)⟩)⟩)⟩)⟩)⟩)⟩)⟩)⟩)⟩)⟩)⟩)⟩)⟩)⟩)⟩)⟩)⟩)⟩)⟩)⟩)⟩)⟩)⟩)⟩)⟩)⟩)⟩)⟩)⟩)
end
section
/-! ids, values, stores: the objects stand still once they are made, each has an id (tag, q, i); a store says what their numbers are -/
abbrev Id3 : Type := Nat × Nat × Nat
abbrev VV : Type := Int32 ⊕ (Int64 ⊕ (Id3 ⊕ Value))
abbrev St : Type := (Id3 → Nat → Int32) × (Id3 → Nat → Int64)
abbrev vI (x : Int32) : VV := Sum.inl x
abbrev vL (x : Int64) : VV := Sum.inr (Sum.inl x)
abbrev vR (d : Id3) : VV := Sum.inr (Sum.inr (Sum.inl d))
/-- a value that is only carried -/
abbrev vO (v : Value) : VV := Sum.inr (Sum.inr (Sum.inr v))
def tv (ad : Id3 → Nat) : VV → Value
  | .inl x => .int x
  | .inr (.inl y) => .long y
  | .inr (.inr (.inl d)) => .ref (ad d)
  | .inr (.inr (.inr v)) => v
def tp (ad : Id3 → Nat) (q : Nat × VV) : Nat × Value := (q.1, tv ad q.2)
def c2 : VV → Bool
  | .inr (.inl _) => true
  | .inr (.inr (.inr v)) => v.category == 2
  | _ => false
theorem c2_tv (ad : Id3 → Nat) (v : VV) : ((tv ad v).category == 2) = c2 v := by rcases v with x | y | d | v <;> rfl
def ds1 (i : Nat) (v : VV) (ls : List (Nat × VV)) : List (Nat × VV) := (i, v) :: ls.filter (fun q => !(q.1 == i) && !(q.1 + 1 == i && c2 q.2))
def ds2 (i : Nat) (v : VV) (ls : List (Nat × VV)) : List (Nat × VV) := (i, v) :: ls.filter (fun q => !(q.1 == i) && (!(q.1 == i + 1) && !(q.1 + 1 == i && c2 q.2)))
theorem ds1_map (ad : Id3 → Nat) (i : Nat) (v : VV) (ls : List (Nat × VV)) : (i, tv ad v) :: (ls.map (tp ad)).filter (fun q => !(q.1 == i) && !(q.1 + 1 == i && q.2.category == 2)) = (ds1 i v ls).map (tp ad) := by
  rw [ds1, List.map_cons, List.filter_map]
  congr 2
  apply List.filter_congr
  intro q _
  simp only [Function.comp, tp, c2_tv]
theorem ds2_map (ad : Id3 → Nat) (i : Nat) (v : VV) (ls : List (Nat × VV)) : (i, tv ad v) :: (ls.map (tp ad)).filter (fun q => !(q.1 == i) && (!(q.1 == i + 1) && !(q.1 + 1 == i && q.2.category == 2))) = (ds2 i v ls).map (tp ad) := by
  rw [ds2, List.map_cons, List.filter_map]
  congr 2
  apply List.filter_congr
  intro q _
  simp only [Function.comp, tp, c2_tv]
/-- by tag: (0, number of the class, its fields); (1, length, place of the array's type) int; 2 byte; 3 boolean; 4 long; 5 references -/
def dk (t : Nat) : Nat × Nat × Nat := match t with
  | 0 => (0, 10, 13)
  | 1 => (2, 320, 1)
  | 2 => (0, 8, 12)
  | 3 => (0, 5, 1)
  | 4 => (1, 9, 0)
  | 5 => (1, 96, 0)
  | 6 => (3, 9, 2)
  | 7 => (0, 6, 11)
  | 8 => (1, 96, 0)
  | 9 => (5, 12, 4)
  | 10 => (0, 0, 6)
  | 11 => (5, 2, 5)
  | 12 => (0, 1, 2)
  | 13 => (0, 2, 9)
  | 14 => (1, 96, 0)
  | 15 => (1, 96, 0)
  | 16 => (0, 3, 4)
  | 17 => (1, 384, 0)
  | 18 => (0, 4, 2)
  | 19 => (4, 96, 3)
  | 20 => (0, 9, 5)
  | 21 => (1, 12, 0)
  | 22 => (1, 12, 0)
  | 23 => (1, 12, 0)
  | 24 => (3, 12, 2)
  | 25 => (5, 4, 6)
  | 26 => (0, 7, 3)
  | 27 => (1, 40, 0)
  | 40 => (0, 11, 29)
  | 41 => (1, 576, 0)
  | 42 => (3, 2, 2)
  | 43 => (1, 9, 0)
  | 44 => (1, 9, 0)
  | 45 => (3, 9, 2)
  | 46 => (1, 96, 0)
  | 47 => (1, 320, 0)
  | 48 => (1, 384, 0)
  | 49 => (4, 96, 3)
  | 50 => (4, 96, 3)
  | 51 => (1, 48, 0)
  | 52 => (1, 4, 0)
  | 53 => (1, 4, 0)
  | 54 => (1, 160, 0)
  | _ => (9, 0, 0)
/-- whether field k of a tag is a reference -/
def rk (t k : Nat) : Bool := match t with
  | 0 => k == 0 || k == 2 || k == 4 || k == 5 || k == 6 || k == 7 || k == 8 || k == 9 || k == 10 || k == 11
  | 2 => k == 0 || k == 1 || k == 2 || k == 3
  | 3 => k == 0
  | 7 => k == 0 || k == 1
  | 12 => k == 0
  | 13 => k == 0 || k == 1 || k == 2
  | 16 => k == 0 || k == 1
  | 18 => k == 0 || k == 1
  | 20 => k == 0 || k == 1 || k == 2 || k == 3
  | 26 => k == 0
  | 40 => k == 0 || k == 1 || k == 2 || k == 3 || k == 4 || k == 6 || k == 7 || k == 20 || k == 21 || k == 22 || k == 24 || k == 25 || k == 26 || k == 27
  | _ => false
/-- whom a reference field holds -/
def rf (d : Id3) (k : Nat) : Id3 := match d.1 with
  | 0 => (match k with
    | 0 => (1, 0, 0)
    | 2 => (2, 0, 0)
    | 4 => (3, 0, 0)
    | 5 => (7, 0, 0)
    | 6 => (11, 0, 0)
    | 7 => (13, 0, 0)
    | 8 => (16, 0, 0)
    | 9 => (18, 0, 0)
    | 10 => (20, 0, 0)
    | _ => (25, 0, 0))
  | 2 => (match k with
    | 0 => (3, 1, 0)
    | 1 => (5, 0, 0)
    | 2 => (6, 0, 0)
    | _ => (1, 0, 0))
  | 3 => (match k with
    | _ => (4, d.2.1, 0))
  | 7 => (match k with
    | 0 => (8, d.2.1, 0)
    | _ => (9, d.2.1, 0))
  | 12 => (match k with
    | _ => (7, d.2.1 + 1, 0))
  | 13 => (match k with
    | 0 => (7, 3, 0)
    | 1 => (14, 0, 0)
    | _ => (15, 0, 0))
  | 16 => (match k with
    | 0 => (10, 4, 0)
    | _ => (17, 0, 0))
  | 18 => (match k with
    | 0 => (19, 0, 0)
    | _ => (19, 1, 0))
  | 20 => (match k with
    | 0 => (21, 0, 0)
    | 1 => (22, 0, 0)
    | 2 => (23, 0, 0)
    | _ => (24, 0, 0))
  | 26 => (match k with
    | _ => (27, d.2.1, 0))
  | 40 => (match k with
    | 0 => (41, 0, 0)
    | 1 => (42, 0, 0)
    | 2 => (43, 0, 0)
    | 3 => (44, 0, 0)
    | 4 => (45, 0, 0)
    | 6 => (46, 0, 0)
    | 7 => (47, 0, 0)
    | 20 => (48, 0, 0)
    | 21 => (49, 0, 0)
    | 22 => (50, 0, 0)
    | 24 => (51, 0, 0)
    | 25 => (52, 0, 0)
    | 26 => (53, 0, 0)
    | _ => (54, 0, 0))
  | _ => d
/-- whom a row of references holds -/
def el (d : Id3) (j : Nat) : Id3 := match d.1 with
  | 9 => (10, d.2.1, j)
  | 11 => (12, j, 0)
  | 25 => (26, j, 0)
  | _ => d
def ids : List Id3 := [(0, 0, 0), (1, 0, 0), (2, 0, 0), (3, 0, 0), (3, 1, 0), (4, 0, 0), (4, 1, 0), (5, 0, 0), (6, 0, 0), (7, 0, 0), (8, 0, 0), (9, 0, 0), (10, 0, 0), (10, 0, 1), (10, 0, 2), (10, 0, 3), (10, 0, 4), (10, 0, 5), (10, 0, 6), (10, 0, 7), (10, 0, 8), (10, 0, 9), (10, 0, 10), (10, 0, 11), (7, 1, 0), (8, 1, 0), (9, 1, 0), (10, 1, 0), (10, 1, 1), (10, 1, 2), (10, 1, 3), (10, 1, 4), (10, 1, 5), (10, 1, 6), (10, 1, 7), (10, 1, 8), (10, 1, 9), (10, 1, 10), (10, 1, 11), (7, 2, 0), (8, 2, 0), (9, 2, 0), (10, 2, 0), (10, 2, 1), (10, 2, 2), (10, 2, 3), (10, 2, 4), (10, 2, 5), (10, 2, 6), (10, 2, 7), (10, 2, 8), (10, 2, 9), (10, 2, 10), (10, 2, 11), (7, 3, 0), (8, 3, 0), (9, 3, 0), (10, 3, 0), (10, 3, 1), (10, 3, 2), (10, 3, 3), (10, 3, 4), (10, 3, 5), (10, 3, 6), (10, 3, 7), (10, 3, 8), (10, 3, 9), (10, 3, 10), (10, 3, 11), (10, 4, 0), (11, 0, 0), (12, 0, 0), (12, 1, 0), (13, 0, 0), (14, 0, 0), (15, 0, 0), (16, 0, 0), (17, 0, 0), (18, 0, 0), (19, 0, 0), (19, 1, 0), (20, 0, 0), (21, 0, 0), (22, 0, 0), (23, 0, 0), (24, 0, 0), (25, 0, 0), (26, 0, 0), (27, 0, 0), (26, 1, 0), (27, 1, 0), (26, 2, 0), (27, 2, 0), (26, 3, 0), (27, 3, 0), (40, 0, 0), (41, 0, 0), (42, 0, 0), (43, 0, 0), (44, 0, 0), (45, 0, 0), (46, 0, 0), (47, 0, 0), (48, 0, 0), (49, 0, 0), (50, 0, 0), (51, 0, 0), (52, 0, 0), (53, 0, 0), (54, 0, 0)]
theorem ids_nd : ids.Nodup := by decide +kernel
theorem ids_rf0 : ∀ d ∈ ids, (dk d.1).1 = 0 → ∀ k, k < (dk d.1).2.2 → (rk d.1 k = false ∨ rf d k ∈ ids) := by decide +kernel
theorem ids_rf (d : Id3) (h : d ∈ ids) (k : Nat) (hk : k < (dk d.1).2.2) (h0 : (dk d.1).1 = 0) (hr : rk d.1 k = true) : rf d k ∈ ids := by
  rcases ids_rf0 d h h0 k hk with q | q
  · rw [hr] at q; cases q
  · exact q
theorem ids_el : ∀ d ∈ ids, (dk d.1).1 = 5 → ∀ j, j < (dk d.1).2.1 → el d j ∈ ids := by decide +kernel
/-- addresses, classes' numbers and slots, array classes, the script's length and ints -/
abbrev Gx : Type := (Id3 → Nat) × va_G × (Nat → ClassId) × Nat × (Nat → Int32) × Value
def tyl (G : Gx) : List (ClassId × FieldType) := [(G.2.2.1 0, .int), (G.2.2.1 1, .byte), (G.2.2.1 2, .boolean), (G.2.2.1 3, .long), (G.2.2.1 4, .object "DropsDance$Drop"), (G.2.2.1 5, .object "DropsDance$Image"), (G.2.2.1 6, .object "DropsDance$Sheet")]
def fv (ad : Id3 → Nat) (σ : St) (d : Id3) (k : Nat) : Value := if rk d.1 k = true then .ref (ad (rf d k)) else .int (σ.1 d k)
def en (G : Gx) (σ : St) (d : Id3) : va_E := match dk d.1 with
  | (0, ci, n) => .inr (ci, (List.range n).map (fv G.1 σ d))
  | (4, n, b) => .inl (G.2.2.1 b, n, .inr (.inl (σ.2 d)))
  | (5, n, b) => .inl (G.2.2.1 b, n, .inr (.inr (.inr (.inr (fun j => some (G.1 (el d j)))))))
  | (_, n, b) => .inl (G.2.2.1 b, n, .inl (σ.1 d))
def wsO (G : Gx) (σ : St) : va_W := ids.map (fun d => (G.1 d, en G σ d))
def AG (G : Gx) : Nat → Prop := fun q => ∃ d ∈ ids, q = G.1 d
def uI (σ : St) (d : Id3) (k : Nat) (v : Int32) : St := (fun d' k' => if d' = d ∧ k' = k then v else σ.1 d' k', σ.2)
def uL (σ : St) (d : Id3) (k : Nat) (v : Int64) : St := (σ.1, fun d' k' => if d' = d ∧ k' = k then v else σ.2 d' k')
/-- a whole row anew -/
def uR (σ : St) (d : Id3) (f : Nat → Int32) : St := (fun d' k' => if d' = d then f k' else σ.1 d' k', σ.2)
def uRL (σ : St) (d : Id3) (f : Nat → Int64) : St := (σ.1, fun d' k' => if d' = d then f k' else σ.2 d' k')
theorem ws_at {G : Gx} {d : Id3} (h : d ∈ ids) (σ : St) : ∃ k : Nat, ids[k]? = some d ∧ (wsO G σ)[k]? = some (G.1 d, en G σ d) := by
  obtain ⟨k, hk⟩ := List.getElem?_of_mem h
  exact ⟨k, hk, by rw [wsO, List.getElem?_map, hk]; rfl⟩
theorem ws_set {G : Gx} {d : Id3} {k : Nat} (hk : ids[k]? = some d) {σ σ' : St} (h : ∀ d', d' ≠ d → en G σ' d' = en G σ d') {e : va_E} (he : en G σ' d = e) : (wsO G σ).set k (G.1 d, e) = wsO G σ' := by
  subst he
  apply List.ext_getElem?
  intro j
  rw [wsO, wsO, List.getElem?_map]
  by_cases hj : j = k
  · subst hj
    have hl : j < ids.length := (List.getElem?_eq_some_iff.mp hk).1
    rw [List.getElem?_set_self (by rw [List.length_map]; exact hl), hk]
    rfl
  · rw [List.getElem?_set_ne (Ne.symm hj), List.getElem?_map]
    cases hd : ids[j]? with
    | none => rfl
    | some d' =>
      have hne : d' ≠ d := by
        intro q
        subst q
        have l1 := (List.getElem?_eq_some_iff.mp hd)
        have l2 := (List.getElem?_eq_some_iff.mp hk)
        exact hj ((List.getElem_inj ids_nd).mp (l1.2.trans l2.2.symm))
      rw [Option.map_some, Option.map_some, h d' hne]
theorem en_I {G : Gx} {σ : St} {d : Id3} {n b : Nat} {z : Nat} (h : dk d.1 = (z, n, b)) (h0 : z = 1 ∨ z = 2 ∨ z = 3) : en G σ d = .inl (G.2.2.1 b, n, .inl (σ.1 d)) := by
  rcases h0 with rfl | rfl | rfl <;> simp [en, h]
theorem en_J {G : Gx} {σ : St} {d : Id3} {n b : Nat} (h : dk d.1 = (4, n, b)) : en G σ d = .inl (G.2.2.1 b, n, .inr (.inl (σ.2 d))) := by simp [en, h]
theorem en_Q {G : Gx} {σ : St} {d : Id3} {n b : Nat} (h : dk d.1 = (5, n, b)) : en G σ d = .inl (G.2.2.1 b, n, .inr (.inr (.inr (.inr (fun j => some (G.1 (el d j))))))) := by simp [en, h]
theorem en_O {G : Gx} {σ : St} {d : Id3} {ci n : Nat} (h : dk d.1 = (0, ci, n)) : en G σ d = .inr (ci, (List.range n).map (fv G.1 σ d)) := by simp [en, h]
theorem en_ne {G : Gx} {σ σ' : St} {d : Id3} (h1 : σ'.1 d = σ.1 d) (h2 : σ'.2 d = σ.2 d) : en G σ' d = en G σ d := by
  have hf : fv G.1 σ' d = fv G.1 σ d := by funext k; simp [fv, h1]
  simp only [en, h1, h2, hf]
theorem uI_ne {σ : St} {d d' : Id3} {k : Nat} {v : Int32} (h : d' ≠ d) : (uI σ d k v).1 d' = σ.1 d' := by funext j; simp [uI, h]
theorem uL_ne {σ : St} {d d' : Id3} {k : Nat} {v : Int64} (h : d' ≠ d) : (uL σ d k v).2 d' = σ.2 d' := by funext j; simp [uL, h]
theorem uR_ne {σ : St} {d d' : Id3} {f : Nat → Int32} (h : d' ≠ d) : (uR σ d f).1 d' = σ.1 d' := by funext j; simp [uR, h]
theorem uRL_ne {σ : St} {d d' : Id3} {f : Nat → Int64} (h : d' ≠ d) : (uRL σ d f).2 d' = σ.2 d' := by funext j; simp [uRL, h]
theorem uI_self {σ : St} {d : Id3} {k : Nat} {v : Int32} : (uI σ d k v).1 d = upd (σ.1 d) k v := by funext j; simp [uI, upd]
theorem uL_self {σ : St} {d : Id3} {k : Nat} {v : Int64} : (uL σ d k v).2 d = vp_updL (σ.2 d) k v := by funext j; simp [uL, vp_updL]
theorem uR_self {σ : St} {d : Id3} {f : Nat → Int32} : (uR σ d f).1 d = f := by funext j; simp [uR]
theorem uRL_self {σ : St} {d : Id3} {f : Nat → Int64} : (uRL σ d f).2 d = f := by funext j; simp [uRL]
theorem fv_put {ad : Id3 → Nat} {σ : St} {d : Id3} {k n : Nat} {v : Int32} (hr : rk d.1 k = false) : ((List.range n).map (fv ad σ d)).set k (.int v) = (List.range n).map (fv ad (uI σ d k v) d) := by
  apply List.ext_getElem?
  intro j
  by_cases hj : j = k
  · subst hj
    rw [List.getElem?_set]
    simp only [if_true]
    by_cases hl : j < n
    · simp [hl, fv, hr, uI]
    · simp [hl]
  · rw [List.getElem?_set_ne (Ne.symm hj)]
    by_cases hl : j < n
    · simp [hl, hj, fv, uI]
    · simp [hl]
end
section
def stLen : List Nat := [3, 8, 2, 4, 5, 4, 7, 4, 4, 4, 0]
def stByt : List (List Int32) := [[114, 111, 119], [110, 101, 115, 119, 112, 120, 111, 99], [117, 112], [100, 111, 119, 110], [116, 101, 101, 116, 104], [108, 101, 97, 112], [99, 104, 105, 109, 110, 101, 121], [104, 105, 115, 115], [102, 105, 108, 109], [114, 111, 108, 108], []]
def stIdx : List Nat := [62, 103, 132, 134, 136, 138, 140, 142, 144, 146, 148]
def stTxt : List String := ["row", "neswpxoc", "up", "down", "teeth", "leap", "chimney", "hiss", "film", "roll", ""]
/-- the read-only int rows: RULE_LEAST 100, RULE_MOST 101, RULE_FIRST 102, the script 110 -/
def roN (G : Gx) (t : Nat) : Nat := if t = 110 then G.2.2.2.1 else 9
def roV (G : Gx) (t : Nat) (j : Nat) : Int32 := match t with
  | 100 => [1, 0, 1, 1, 0, 1, 1, 1, 0].getD j 0
  | 101 => [99, 99, 60, 60, 9, 99, 50, 9, 60].getD j 0
  | 102 => [60, 40, 1, 60, 0, 40, 10, 3, 0].getD j 0
  | _ => G.2.2.2.2.1 j
def roT : List Nat := [100, 101, 102, 110]
def zsT : List (String × Nat) := [("RULE_LEAST", 100), ("RULE_MOST", 101), ("RULE_FIRST", 102)]
def nsM : List (String × Nat × MethodName) := [("DropsDance$Loner", 61, yX10_isCell), ("DropsDance$Path", 45, yX10_within), ("DropsDance$Roller", 18, yX10_isCell), ("DropsDance$Roller", 54, yX10_isWay), ("DropsDance$Roller", 57, yX10_nextCell), ("DropsDance$Scene", 154, yX10_nextCell)]
def nsF : List (String × Nat × String) := [("DropsDance$Rules", 18, "RULE_FIRST"), ("DropsDance$TextReader", 113, "RULE_LEAST"), ("DropsDance$TextReader", 119, "RULE_MOST")]
/-- what stands beside the world and is never written -/
def Ex (G : Gx) (A : Nat → Prop) (U : State) (H : Heap) : Prop :=
  (∀ t ∈ roT, va_T .int (G.1 (t, 0, 0)) (roN G t) (fun j => .int (roV G t j)) A U H) ∧
  (∀ q ∈ zsT, va_Z "DropsDance" q.1 "[I" (.ref (G.1 (q.2, 0, 0))) A U H) ∧
  va_Z "java/lang/String" "COMPACT_STRINGS" "Z" (.int 1) A U H ∧
  va_Z "jdk/internal/util/Preconditions" "SIOOBE_FORMATTER" "Ljava/util/function/BiFunction;" G.2.2.2.2.2 A U H ∧
  vk_S 11 stLen stByt (fun i => G.1 (120, i, 0)) (fun i => G.1 (121, i, 0)) A U H ∧
  (∀ i, i < 11 → vk_R "DropsDance$TextReader" (stIdx.getD i 0) (stTxt.getD i "") (G.1 (120, i, 0)) U) ∧
  (∀ q ∈ nsM, va_Nw (.methodLinkNest q.1 q.2.1 q.2.2 "DropsDance") U) ∧
  (∀ q ∈ nsF, va_Nw (.fieldLinkNest q.1 q.2.1 "DropsDance" q.2.2 "[I" "DropsDance") U)
theorem Ex.warm {G : Gx} {A : Nat → Prop} {s U : State} {H : Heap} (hW : s.WarmedH U.vm) (h : Ex G A s H) : Ex G A U H :=
  ⟨fun t ht => (h.1 t ht).moved hW.alike, fun q hq => (h.2.1 q hq).moved hW.alike, h.2.2.1.moved hW.alike, h.2.2.2.1.moved hW.alike, h.2.2.2.2.1.moved hW.alike, fun i hi => (h.2.2.2.2.2.1 i hi).warm hW, fun q hq => (h.2.2.2.2.2.2.1 q hq).warmM hW, fun q hq => (h.2.2.2.2.2.2.2 q hq).warmF hW⟩
theorem Ex.same {G : Gx} {A : Nat → Prop} {s U : State} {H : Heap} (hv : U.vm = s.vm) (h : Ex G A s H) : Ex G A U H := by
  have ha : s.vm.Alike U.vm := by rw [hv]; exact Vm.Alike.refl _
  exact ⟨fun t ht => (h.1 t ht).moved ha, fun q hq => (h.2.1 q hq).moved ha, h.2.2.1.moved ha, h.2.2.2.1.moved ha, h.2.2.2.2.1.moved ha, fun i hi => (h.2.2.2.2.2.1 i hi).same hv, fun q hq => va_Nw.same rfl hv.symm (h.2.2.2.2.2.2.1 q hq), fun q hq => va_Nw.same rfl hv.symm (h.2.2.2.2.2.2.2 q hq)⟩
theorem Ex.kept {G : Gx} {A : Nat → Prop} {U : State} {H H1 : Heap} (h : Ex G A U H) (hq : ∀ a : Nat, a < H.size → ¬ A a → H1[a]? = H[a]?) : Ex G A U H1 :=
  ⟨fun t ht => (h.1 t ht).kept hq, fun q hz => (h.2.1 q hz).kept hq, h.2.2.1.kept hq, h.2.2.2.1.kept hq, h.2.2.2.2.1.kept hq, h.2.2.2.2.2.1, h.2.2.2.2.2.2⟩
/-- the world at a state -/
def Wd (G : Gx) (σ : St) (U : State) : Prop := va_P G.2.1 vwCl (wsO G σ) U.heap ∧ va_K G.2.1 vwCl (tyl G) U ∧ (∀ σ : St, va_D (AG G) (wsO G σ)) ∧ Ex G (AG G) U U.heap
def okv : VV → Prop
  | .inr (.inr (.inl d)) => d.1 < 100 → d ∈ ids
  | _ => True
/-- what a body knows of its method and of the start -/
def Cx (G : Gx) (p : Program) (s : State) (m : MethodId) (args : Array Value) (meth : Method) (c : Code) (ret : Option FieldType) (nL : Nat) (own : String) (cc : ByteArray) : Prop :=
  p.tables.exec = Jvm.exec ∧ c.code = cc ∧ c.maxLocals = nL ∧ s.vm.findClass own = some m.cls ∧ (∀ w ∈ TB, w.before args s = true) ∧ va_K G.2.1 vwCl (tyl G) s ∧ (∀ σ : St, va_D (AG G) (wsO G σ)) ∧ Ex G (AG G) s s.heap ∧ meth.locks = false ∧ meth.sig.returnType = ret
/-- from this place on, with these locals, this stack and this store, the machine comes to Q -/
def Rt (G : Gx) (p : Program) (l : Launch) (e : Env) (R : Room) (s : State) (m : MethodId) (args : Array Value) (below : List Frame) (meth : Method) (c : Code) (cells slots : Nat) (Q : State → Prop) (nL : Nat) (pc : Nat) (ls : List (Nat × VV)) (st : List VV) (σ : St) : Prop :=
  (∀ q ∈ ls, okv q.2) → (∀ v ∈ st, okv v) → ∀ (H : Heap) (locs : List Loc) (la : Array Slot), va_P G.2.1 vwCl (wsO G σ) H → va_S (AG G) s.heap H locs → lv_has la nL (ls.map (tp G.1)) → W p l e R s m args below meth c H locs cells slots Q (F0 m pc la (st.map (tv G.1)))
theorem ok_t {v : VV} {st : List VV} (h : ∀ w ∈ v :: st, okv w) : ∀ w ∈ st, okv w := fun w hw => h w (List.mem_cons_of_mem _ hw)
theorem ok_h {v : VV} {st : List VV} (h : ∀ w ∈ v :: st, okv w) : okv v := h v List.mem_cons_self
theorem ok_c {v : VV} {st : List VV} (hv : okv v) (h : ∀ w ∈ st, okv w) : ∀ w ∈ v :: st, okv w := fun w hw => by
  rcases List.mem_cons.mp hw with rfl | hw
  · exact hv
  · exact h w hw
theorem ok_a {a b : List VV} (h : ∀ w ∈ a ++ b, okv w) : (∀ w ∈ a, okv w) ∧ ∀ w ∈ b, okv w := ⟨fun w hw => h w (List.mem_append_left _ hw), fun w hw => h w (List.mem_append_right _ hw)⟩
theorem ok_s {i : Nat} {v : VV} {ls : List (Nat × VV)} (hv : okv v) (h : ∀ q ∈ ls, okv q.2) {f : Nat × VV → Bool} : ∀ q ∈ (i, v) :: ls.filter f, okv q.2 := fun q hq => by
  rcases List.mem_cons.mp hq with rfl | hq
  · exact hv
  · exact h q (List.mem_filter.mp hq).1
theorem lk_at {G : Gx} {la : Array Slot} {nL : Nat} {ls : List (Nat × VV)} (h : lv_has la nL (ls.map (tp G.1))) {i : Nat} {v : VV} (hk : ls.lookup i = some v) : la[i]? = some (.val (tv G.1 v)) := by
  have hm : (i, v) ∈ ls := by
    clear h
    induction ls with
    | nil => simp at hk
    | cons a t ih =>
      obtain ⟨j, w⟩ := a
      simp only [List.lookup_cons] at hk
      by_cases hj : (i == j) = true
      · rw [hj] at hk
        have e1 : i = j := by simpa using hj
        cases hk
        rw [e1]
        exact List.mem_cons_self
      · rw [Bool.not_eq_true] at hj
        rw [hj] at hk
        exact List.mem_cons_of_mem _ (ih hk)
  exact h.2.2 (i, tv G.1 v) (List.mem_map.mpr ⟨(i, v), hm, rfl⟩)
theorem lk_ok {ls : List (Nat × VV)} (h : ∀ q ∈ ls, okv q.2) {i : Nat} {v : VV} (hk : ls.lookup i = some v) : okv v := by
  induction ls with
  | nil => simp at hk
  | cons a t ih =>
    obtain ⟨j, w⟩ := a
    simp only [List.lookup_cons] at hk
    by_cases hj : (i == j) = true
    · rw [hj] at hk
      cases hk
      exact h _ List.mem_cons_self
    · rw [Bool.not_eq_true] at hj
      rw [hj] at hk
      exact ih (fun q hq => h q (List.mem_cons_of_mem _ hq)) hk
/-- the world anew, from what a body knows -/
theorem Wd_of {G : Gx} {p : Program} {s : State} {m : MethodId} {args : Array Value} {meth : Method} {c : Code} {ret : Option FieldType} {nL : Nat} {own : String} {cc : ByteArray} (C : Cx G p s m args meth c ret nL own cc) {σ : St} {H : Heap} {locs : List Loc} (hP : va_P G.2.1 vwCl (wsO G σ) H) (hS : va_S (AG G) s.heap H locs) {U : State} (hU : U.heap = H) (hW : s.WarmedH U.vm) : Wd G σ U := by
  obtain ⟨-, -, -, -, -, hK, hD, hE, -, -⟩ := C
  subst hU
  exact ⟨hP, hK.moved hW.alike, hD, (hE.kept hS.2.1).warm hW⟩
theorem Wd_call {G : Gx} {σ : St} {U : State} {g : JFrame} {mk : MethodId} {a : Array Value} (h : Wd G σ U) : Wd G σ (U.calling g mk a) :=
  ⟨h.1, va_K.moved (u := U) (U := U.calling g mk a) (Vm.Alike.refl U.vm) h.2.1, h.2.2.1, (h.2.2.2.same (U := U.calling g mk a) rfl)⟩
section RT
variable {G : Gx} {p : Program} {l : Launch} {e : Env} {R : Room} {s : State} {m : MethodId} {args : Array Value} {below : List Frame} {meth : Method} {c : Code} {cells slots : Nat} {Q : State → Prop} {nL : Nat} {ret : Option FieldType} {own : String} {cc : ByteArray}
variable {pc : Nat} {ls : List (Nat × VV)} {st : List VV} {σ : St}
theorem r_iadd (C : Cx G p s m args meth c ret nL own cc) {x y : Int32} (hd : decode cc pc = .ok (.iadd, 1))  (k : Rt G p l e R s m args below meth c cells slots Q nL (pc + 1) ls (vI (x + y) :: st) σ) : Rt G p l e R s m args below meth c cells slots Q nL pc ls (vI y :: vI x :: st) σ := by
  intro hl hs H locs la hP hS hL
  exact lv_iadd C.1 C.2.1 hd  (k hl (ok_c (v := vI _) trivial (ok_t (ok_t hs))) H locs la hP hS hL)
theorem r_isub (C : Cx G p s m args meth c ret nL own cc) {x y : Int32} (hd : decode cc pc = .ok (.isub, 1))  (k : Rt G p l e R s m args below meth c cells slots Q nL (pc + 1) ls (vI (x - y) :: st) σ) : Rt G p l e R s m args below meth c cells slots Q nL pc ls (vI y :: vI x :: st) σ := by
  intro hl hs H locs la hP hS hL
  exact lv_isub C.1 C.2.1 hd  (k hl (ok_c (v := vI _) trivial (ok_t (ok_t hs))) H locs la hP hS hL)
theorem r_imul (C : Cx G p s m args meth c ret nL own cc) {x y : Int32} (hd : decode cc pc = .ok (.imul, 1))  (k : Rt G p l e R s m args below meth c cells slots Q nL (pc + 1) ls (vI (x * y) :: st) σ) : Rt G p l e R s m args below meth c cells slots Q nL pc ls (vI y :: vI x :: st) σ := by
  intro hl hs H locs la hP hS hL
  exact lv_imul C.1 C.2.1 hd  (k hl (ok_c (v := vI _) trivial (ok_t (ok_t hs))) H locs la hP hS hL)
theorem r_iand (C : Cx G p s m args meth c ret nL own cc) {x y : Int32} (hd : decode cc pc = .ok (.iand, 1))  (k : Rt G p l e R s m args below meth c cells slots Q nL (pc + 1) ls (vI (x &&& y) :: st) σ) : Rt G p l e R s m args below meth c cells slots Q nL pc ls (vI y :: vI x :: st) σ := by
  intro hl hs H locs la hP hS hL
  exact lv_iand C.1 C.2.1 hd  (k hl (ok_c (v := vI _) trivial (ok_t (ok_t hs))) H locs la hP hS hL)
theorem r_ior (C : Cx G p s m args meth c ret nL own cc) {x y : Int32} (hd : decode cc pc = .ok (.ior, 1))  (k : Rt G p l e R s m args below meth c cells slots Q nL (pc + 1) ls (vI (x ||| y) :: st) σ) : Rt G p l e R s m args below meth c cells slots Q nL pc ls (vI y :: vI x :: st) σ := by
  intro hl hs H locs la hP hS hL
  exact lv_ior C.1 C.2.1 hd  (k hl (ok_c (v := vI _) trivial (ok_t (ok_t hs))) H locs la hP hS hL)
theorem r_ishl (C : Cx G p s m args meth c ret nL own cc) {x y : Int32} (hd : decode cc pc = .ok (.ishl, 1))  (k : Rt G p l e R s m args below meth c cells slots Q nL (pc + 1) ls (vI (x <<< (y &&& 31)) :: st) σ) : Rt G p l e R s m args below meth c cells slots Q nL pc ls (vI y :: vI x :: st) σ := by
  intro hl hs H locs la hP hS hL
  exact lv_ishl C.1 C.2.1 hd  (k hl (ok_c (v := vI _) trivial (ok_t (ok_t hs))) H locs la hP hS hL)
theorem r_ishr (C : Cx G p s m args meth c ret nL own cc) {x y : Int32} (hd : decode cc pc = .ok (.ishr, 1))  (k : Rt G p l e R s m args below meth c cells slots Q nL (pc + 1) ls (vI (x >>> (y &&& 31)) :: st) σ) : Rt G p l e R s m args below meth c cells slots Q nL pc ls (vI y :: vI x :: st) σ := by
  intro hl hs H locs la hP hS hL
  exact lv_ishr C.1 C.2.1 hd  (k hl (ok_c (v := vI _) trivial (ok_t (ok_t hs))) H locs la hP hS hL)
theorem r_iushr (C : Cx G p s m args meth c ret nL own cc) {x y : Int32} (hd : decode cc pc = .ok (.iushr, 1))  (k : Rt G p l e R s m args below meth c cells slots Q nL (pc + 1) ls (vI ((x.toUInt32 >>> (y.toUInt32 &&& Int32.toUInt32 31)).toInt32) :: st) σ) : Rt G p l e R s m args below meth c cells slots Q nL pc ls (vI y :: vI x :: st) σ := by
  intro hl hs H locs la hP hS hL
  exact lv_iushr C.1 C.2.1 hd rfl (k hl (ok_c (v := vI _) trivial (ok_t (ok_t hs))) H locs la hP hS hL)
theorem r_idiv (C : Cx G p s m args meth c ret nL own cc) {x y : Int32} (hd : decode cc pc = .ok (.idiv, 1)) (hz : ¬ y = 0) (k : Rt G p l e R s m args below meth c cells slots Q nL (pc + 1) ls (vI (x / y) :: st) σ) : Rt G p l e R s m args below meth c cells slots Q nL pc ls (vI y :: vI x :: st) σ := by
  intro hl hs H locs la hP hS hL
  exact lv_idiv C.1 C.2.1 hd hz (k hl (ok_c (v := vI _) trivial (ok_t (ok_t hs))) H locs la hP hS hL)
theorem r_irem (C : Cx G p s m args meth c ret nL own cc) {x y : Int32} (hd : decode cc pc = .ok (.irem, 1)) (hz : ¬ y = 0) (k : Rt G p l e R s m args below meth c cells slots Q nL (pc + 1) ls (vI (x - x / y * y) :: st) σ) : Rt G p l e R s m args below meth c cells slots Q nL pc ls (vI y :: vI x :: st) σ := by
  intro hl hs H locs la hP hS hL
  exact lv_irem C.1 C.2.1 hd hz (k hl (ok_c (v := vI _) trivial (ok_t (ok_t hs))) H locs la hP hS hL)
theorem r_ladd (C : Cx G p s m args meth c ret nL own cc) {x y : Int64} (hd : decode cc pc = .ok (.ladd, 1))  (k : Rt G p l e R s m args below meth c cells slots Q nL (pc + 1) ls (vL (x + y) :: st) σ) : Rt G p l e R s m args below meth c cells slots Q nL pc ls (vL y :: vL x :: st) σ := by
  intro hl hs H locs la hP hS hL
  exact lv_ladd C.1 C.2.1 hd  (k hl (ok_c (v := vL _) trivial (ok_t (ok_t hs))) H locs la hP hS hL)
theorem r_lsub (C : Cx G p s m args meth c ret nL own cc) {x y : Int64} (hd : decode cc pc = .ok (.lsub, 1))  (k : Rt G p l e R s m args below meth c cells slots Q nL (pc + 1) ls (vL (x - y) :: st) σ) : Rt G p l e R s m args below meth c cells slots Q nL pc ls (vL y :: vL x :: st) σ := by
  intro hl hs H locs la hP hS hL
  exact lv_lsub C.1 C.2.1 hd  (k hl (ok_c (v := vL _) trivial (ok_t (ok_t hs))) H locs la hP hS hL)
theorem r_lmul (C : Cx G p s m args meth c ret nL own cc) {x y : Int64} (hd : decode cc pc = .ok (.lmul, 1))  (k : Rt G p l e R s m args below meth c cells slots Q nL (pc + 1) ls (vL (x * y) :: st) σ) : Rt G p l e R s m args below meth c cells slots Q nL pc ls (vL y :: vL x :: st) σ := by
  intro hl hs H locs la hP hS hL
  exact lv_lmul C.1 C.2.1 hd  (k hl (ok_c (v := vL _) trivial (ok_t (ok_t hs))) H locs la hP hS hL)
theorem r_land (C : Cx G p s m args meth c ret nL own cc) {x y : Int64} (hd : decode cc pc = .ok (.land, 1))  (k : Rt G p l e R s m args below meth c cells slots Q nL (pc + 1) ls (vL (x &&& y) :: st) σ) : Rt G p l e R s m args below meth c cells slots Q nL pc ls (vL y :: vL x :: st) σ := by
  intro hl hs H locs la hP hS hL
  exact lv_land C.1 C.2.1 hd  (k hl (ok_c (v := vL _) trivial (ok_t (ok_t hs))) H locs la hP hS hL)
theorem r_lor (C : Cx G p s m args meth c ret nL own cc) {x y : Int64} (hd : decode cc pc = .ok (.lor, 1))  (k : Rt G p l e R s m args below meth c cells slots Q nL (pc + 1) ls (vL (x ||| y) :: st) σ) : Rt G p l e R s m args below meth c cells slots Q nL pc ls (vL y :: vL x :: st) σ := by
  intro hl hs H locs la hP hS hL
  exact lv_lor C.1 C.2.1 hd  (k hl (ok_c (v := vL _) trivial (ok_t (ok_t hs))) H locs la hP hS hL)
theorem r_ldiv (C : Cx G p s m args meth c ret nL own cc) {x y : Int64} (hd : decode cc pc = .ok (.ldiv, 1)) (hz : ¬ y = 0) (k : Rt G p l e R s m args below meth c cells slots Q nL (pc + 1) ls (vL (x / y) :: st) σ) : Rt G p l e R s m args below meth c cells slots Q nL pc ls (vL y :: vL x :: st) σ := by
  intro hl hs H locs la hP hS hL
  exact lv_ldiv C.1 C.2.1 hd hz (k hl (ok_c (v := vL _) trivial (ok_t (ok_t hs))) H locs la hP hS hL)
theorem r_lrem (C : Cx G p s m args meth c ret nL own cc) {x y : Int64} (hd : decode cc pc = .ok (.lrem, 1)) (hz : ¬ y = 0) (k : Rt G p l e R s m args below meth c cells slots Q nL (pc + 1) ls (vL (x - x / y * y) :: st) σ) : Rt G p l e R s m args below meth c cells slots Q nL pc ls (vL y :: vL x :: st) σ := by
  intro hl hs H locs la hP hS hL
  exact lv_lrem C.1 C.2.1 hd hz (k hl (ok_c (v := vL _) trivial (ok_t (ok_t hs))) H locs la hP hS hL)
theorem r_lshl (C : Cx G p s m args meth c ret nL own cc) {x : Int64} {y : Int32} (hd : decode cc pc = .ok (.lshl, 1))  (k : Rt G p l e R s m args below meth c cells slots Q nL (pc + 1) ls (vL (x <<< (y.toInt64 &&& 63)) :: st) σ) : Rt G p l e R s m args below meth c cells slots Q nL pc ls (vI y :: vL x :: st) σ := by
  intro hl hs H locs la hP hS hL
  exact lv_lshl C.1 C.2.1 hd rfl (k hl (ok_c (v := vL _) trivial (ok_t (ok_t hs))) H locs la hP hS hL)
theorem r_lshr (C : Cx G p s m args meth c ret nL own cc) {x : Int64} {y : Int32} (hd : decode cc pc = .ok (.lshr, 1))  (k : Rt G p l e R s m args below meth c cells slots Q nL (pc + 1) ls (vL (x >>> (y.toInt64 &&& 63)) :: st) σ) : Rt G p l e R s m args below meth c cells slots Q nL pc ls (vI y :: vL x :: st) σ := by
  intro hl hs H locs la hP hS hL
  exact lv_lshr C.1 C.2.1 hd rfl (k hl (ok_c (v := vL _) trivial (ok_t (ok_t hs))) H locs la hP hS hL)
theorem r_lushr (C : Cx G p s m args meth c ret nL own cc) {x : Int64} {y : Int32} (hd : decode cc pc = .ok (.lushr, 1))  (k : Rt G p l e R s m args below meth c cells slots Q nL (pc + 1) ls (vL ((x.toUInt64 >>> (y.toInt64.toUInt64 &&& Int64.toUInt64 63)).toInt64) :: st) σ) : Rt G p l e R s m args below meth c cells slots Q nL pc ls (vI y :: vL x :: st) σ := by
  intro hl hs H locs la hP hS hL
  exact lv_lushr C.1 C.2.1 hd rfl (k hl (ok_c (v := vL _) trivial (ok_t (ok_t hs))) H locs la hP hS hL)
theorem r_lcmp (C : Cx G p s m args meth c ret nL own cc) {x y : Int64} (hd : decode cc pc = .ok (.lcmp, 1))  (k : Rt G p l e R s m args below meth c cells slots Q nL (pc + 1) ls (vI (lg_cmp x y) :: st) σ) : Rt G p l e R s m args below meth c cells slots Q nL pc ls (vL y :: vL x :: st) σ := by
  intro hl hs H locs la hP hS hL
  exact W.lcmp C.1 C.2.1 hd  (k hl (ok_c (v := vI _) trivial (ok_t (ok_t hs))) H locs la hP hS hL)
theorem r_i2b (C : Cx G p s m args meth c ret nL own cc) {x : Int32} (hd : decode cc pc = .ok (.i2b, 1))  (k : Rt G p l e R s m args below meth c cells slots Q nL (pc + 1) ls (vI (x.toInt8.toInt32) :: st) σ) : Rt G p l e R s m args below meth c cells slots Q nL pc ls (vI x :: st) σ := by
  intro hl hs H locs la hP hS hL
  exact lv_i2b C.1 C.2.1 hd rfl (k hl (ok_c (v := vI _) trivial (ok_t hs)) H locs la hP hS hL)
theorem r_i2s (C : Cx G p s m args meth c ret nL own cc) {x : Int32} (hd : decode cc pc = .ok (.i2s, 1))  (k : Rt G p l e R s m args below meth c cells slots Q nL (pc + 1) ls (vI (x.toInt16.toInt32) :: st) σ) : Rt G p l e R s m args below meth c cells slots Q nL pc ls (vI x :: st) σ := by
  intro hl hs H locs la hP hS hL
  exact lv_i2s C.1 C.2.1 hd rfl (k hl (ok_c (v := vI _) trivial (ok_t hs)) H locs la hP hS hL)
theorem r_i2c (C : Cx G p s m args meth c ret nL own cc) {x : Int32} (hd : decode cc pc = .ok (.i2c, 1))  (k : Rt G p l e R s m args below meth c cells slots Q nL (pc + 1) ls (vI ((x.toUInt32 % 65536).toInt32) :: st) σ) : Rt G p l e R s m args below meth c cells slots Q nL pc ls (vI x :: st) σ := by
  intro hl hs H locs la hP hS hL
  exact lv_i2c C.1 C.2.1 hd rfl (k hl (ok_c (v := vI _) trivial (ok_t hs)) H locs la hP hS hL)
theorem r_i2l (C : Cx G p s m args meth c ret nL own cc) {x : Int32} (hd : decode cc pc = .ok (.i2l, 1))  (k : Rt G p l e R s m args below meth c cells slots Q nL (pc + 1) ls (vL (x.toInt64) :: st) σ) : Rt G p l e R s m args below meth c cells slots Q nL pc ls (vI x :: st) σ := by
  intro hl hs H locs la hP hS hL
  exact lv_i2l C.1 C.2.1 hd rfl (k hl (ok_c (v := vL _) trivial (ok_t hs)) H locs la hP hS hL)
theorem r_l2i (C : Cx G p s m args meth c ret nL own cc) {x : Int64} (hd : decode cc pc = .ok (.l2i, 1))  (k : Rt G p l e R s m args below meth c cells slots Q nL (pc + 1) ls (vI (x.toInt32) :: st) σ) : Rt G p l e R s m args below meth c cells slots Q nL pc ls (vL x :: st) σ := by
  intro hl hs H locs la hP hS hL
  exact lv_l2i C.1 C.2.1 hd rfl (k hl (ok_c (v := vI _) trivial (ok_t hs)) H locs la hP hS hL)
theorem r_iconst (C : Cx G p s m args meth c ret nL own cc) {n : Int} {v : Int32} (hd : decode cc pc = .ok (.iconst n, 1)) (hv : Int32.ofInt n = v) (k : Rt G p l e R s m args below meth c cells slots Q nL (pc + 1) ls (vI v :: st) σ) : Rt G p l e R s m args below meth c cells slots Q nL pc ls st σ := by
  intro hl hs H locs la hP hS hL
  exact lv_iconst C.1 C.2.1 hd hv (k hl (ok_c (v := vI _) trivial hs) H locs la hP hS hL)
theorem r_bipush (C : Cx G p s m args meth c ret nL own cc) {n : Int} {v : Int32} (hd : decode cc pc = .ok (.bipush n, 2)) (hv : (Int8.ofInt n).toInt32 = v) (k : Rt G p l e R s m args below meth c cells slots Q nL (pc + 2) ls (vI v :: st) σ) : Rt G p l e R s m args below meth c cells slots Q nL pc ls st σ := by
  intro hl hs H locs la hP hS hL
  exact lv_bipush C.1 C.2.1 hd hv (k hl (ok_c (v := vI _) trivial hs) H locs la hP hS hL)
theorem r_sipush (C : Cx G p s m args meth c ret nL own cc) {n : Int} {v : Int32} (hd : decode cc pc = .ok (.sipush n, 3)) (hv : (Int16.ofInt n).toInt32 = v) (k : Rt G p l e R s m args below meth c cells slots Q nL (pc + 3) ls (vI v :: st) σ) : Rt G p l e R s m args below meth c cells slots Q nL pc ls st σ := by
  intro hl hs H locs la hP hS hL
  exact lv_sipush C.1 C.2.1 hd hv (k hl (ok_c (v := vI _) trivial hs) H locs la hP hS hL)
theorem r_lconst (C : Cx G p s m args meth c ret nL own cc) {n : Fin 2} {v : Int64} (hd : decode cc pc = .ok (.lconst n, 1)) (hv : Int64.ofNat (n : Nat) = v) (k : Rt G p l e R s m args below meth c cells slots Q nL (pc + 1) ls (vL v :: st) σ) : Rt G p l e R s m args below meth c cells slots Q nL pc ls st σ := by
  intro hl hs H locs la hP hS hL
  exact lv_lconst C.1 C.2.1 hd hv (k hl (ok_c (v := vL _) trivial hs) H locs la hP hS hL)
theorem r_ldc (C : Cx G p s m args meth c ret nL own cc) {index : Nat} {v : Int32} (hd : decode cc pc = .ok (.ldc index, 2)) (hw : Cond.constant own index v ∈ TB) (k : Rt G p l e R s m args below meth c cells slots Q nL (pc + 2) ls (vI v :: st) σ) : Rt G p l e R s m args below meth c cells slots Q nL pc ls st σ := by
  intro hl hs H locs la hP hS hL
  exact lv_ldc C.1 C.2.1 C.2.2.2.1 (C.2.2.2.2.1 _ hw) hd (k hl (ok_c (v := vI _) trivial hs) H locs la hP hS hL)
theorem r_ldc_w (C : Cx G p s m args meth c ret nL own cc) {index : Nat} {v : Int32} (hd : decode cc pc = .ok (.ldc_w index, 3)) (hw : Cond.constant own index v ∈ TB) (k : Rt G p l e R s m args below meth c cells slots Q nL (pc + 3) ls (vI v :: st) σ) : Rt G p l e R s m args below meth c cells slots Q nL pc ls st σ := by
  intro hl hs H locs la hP hS hL
  exact lv_ldcw C.1 C.2.1 C.2.2.2.1 (C.2.2.2.2.1 _ hw) hd (k hl (ok_c (v := vI _) trivial hs) H locs la hP hS hL)
theorem r_ldc2_w (C : Cx G p s m args meth c ret nL own cc) {index : Nat} {v : Int64} (hd : decode cc pc = .ok (.ldc2_w index, 3)) (hw : Cond.constantLong own index v ∈ TB) (k : Rt G p l e R s m args below meth c cells slots Q nL (pc + 3) ls (vL v :: st) σ) : Rt G p l e R s m args below meth c cells slots Q nL pc ls st σ := by
  intro hl hs H locs la hP hS hL
  exact lv_ldc2 C.1 C.2.1 C.2.2.2.1 (C.2.2.2.2.1 _ hw) hd (k hl (ok_c (v := vL _) trivial hs) H locs la hP hS hL)
theorem r_iload (C : Cx G p s m args meth c ret nL own cc) {i : Nat} {x : Int32} (hd : decode cc pc = .ok (.iload i, 2)) (hk : ls.lookup i = some (vI x)) (k : Rt G p l e R s m args below meth c cells slots Q nL (pc + 2) ls (vI x :: st) σ) : Rt G p l e R s m args below meth c cells slots Q nL pc ls st σ := by
  intro hl hs H locs la hP hS hL
  exact lv_iload C.1 C.2.1 hd (lk_at hL hk) (k hl (ok_c (v := vI _) trivial hs) H locs la hP hS hL)
theorem r_iload_n (C : Cx G p s m args meth c ret nL own cc) {n : Fin 4} {x : Int32} (hd : decode cc pc = .ok (.iload_n n, 1)) (i : Nat) (hi : (n : Nat) = i) (hk : ls.lookup i = some (vI x)) (k : Rt G p l e R s m args below meth c cells slots Q nL (pc + 1) ls (vI x :: st) σ) : Rt G p l e R s m args below meth c cells slots Q nL pc ls st σ := by
  intro hl hs H locs la hP hS hL
  exact lv_iload_n C.1 C.2.1 hd hi (lk_at hL hk) (k hl (ok_c (v := vI _) trivial hs) H locs la hP hS hL)
theorem r_lload (C : Cx G p s m args meth c ret nL own cc) {i : Nat} {x : Int64} (hd : decode cc pc = .ok (.lload i, 2)) (hk : ls.lookup i = some (vL x)) (k : Rt G p l e R s m args below meth c cells slots Q nL (pc + 2) ls (vL x :: st) σ) : Rt G p l e R s m args below meth c cells slots Q nL pc ls st σ := by
  intro hl hs H locs la hP hS hL
  exact lv_lload C.1 C.2.1 hd (lk_at hL hk) (k hl (ok_c (v := vL _) trivial hs) H locs la hP hS hL)
theorem r_lload_n (C : Cx G p s m args meth c ret nL own cc) {n : Fin 4} {x : Int64} (hd : decode cc pc = .ok (.lload_n n, 1)) (i : Nat) (hi : (n : Nat) = i) (hk : ls.lookup i = some (vL x)) (k : Rt G p l e R s m args below meth c cells slots Q nL (pc + 1) ls (vL x :: st) σ) : Rt G p l e R s m args below meth c cells slots Q nL pc ls st σ := by
  intro hl hs H locs la hP hS hL
  exact lv_lload_n C.1 C.2.1 hd hi (lk_at hL hk) (k hl (ok_c (v := vL _) trivial hs) H locs la hP hS hL)
theorem r_aload (C : Cx G p s m args meth c ret nL own cc) {i : Nat} {x : Id3} (hd : decode cc pc = .ok (.aload i, 2)) (hk : ls.lookup i = some (vR x)) (k : Rt G p l e R s m args below meth c cells slots Q nL (pc + 2) ls (vR x :: st) σ) : Rt G p l e R s m args below meth c cells slots Q nL pc ls st σ := by
  intro hl hs H locs la hP hS hL
  exact lv_aload C.1 C.2.1 hd (lk_at hL hk) (k hl (ok_c (lk_ok hl hk) hs) H locs la hP hS hL)
theorem r_aload_n (C : Cx G p s m args meth c ret nL own cc) {n : Fin 4} {x : Id3} (hd : decode cc pc = .ok (.aload_n n, 1)) (i : Nat) (hi : (n : Nat) = i) (hk : ls.lookup i = some (vR x)) (k : Rt G p l e R s m args below meth c cells slots Q nL (pc + 1) ls (vR x :: st) σ) : Rt G p l e R s m args below meth c cells slots Q nL pc ls st σ := by
  intro hl hs H locs la hP hS hL
  exact lv_aload_n C.1 C.2.1 hd hi (lk_at hL hk) (k hl (ok_c (lk_ok hl hk) hs) H locs la hP hS hL)
theorem r_istore (C : Cx G p s m args meth c ret nL own cc)  {i : Nat} {x : Int32} {ls2 : List (Nat × VV)} (hd : decode cc pc = .ok (.istore i, 2))  (hn : i < nL) (h2 : ds1 i (vI x) ls = ls2) (k : Rt G p l e R s m args below meth c cells slots Q nL (pc + 2) ls2 st σ) : Rt G p l e R s m args below meth c cells slots Q nL pc ls (vI x :: st) σ := by
  intro hl hs H locs la hP hS hL
  subst h2
  exact lv_istore C.1 C.2.1 hd  hL hn (ds1_map G.1 i (vI x) ls) (fun la2 hL2 => k (ok_s (ok_h hs) hl) (ok_t hs) H locs la2 hP hS hL2)
theorem r_istore_n (C : Cx G p s m args meth c ret nL own cc) {n : Fin 4}  {x : Int32} {ls2 : List (Nat × VV)} (hd : decode cc pc = .ok (.istore_n n, 1)) (i : Nat) (hi : (n : Nat) = i) (hn : i < nL) (h2 : ds1 i (vI x) ls = ls2) (k : Rt G p l e R s m args below meth c cells slots Q nL (pc + 1) ls2 st σ) : Rt G p l e R s m args below meth c cells slots Q nL pc ls (vI x :: st) σ := by
  intro hl hs H locs la hP hS hL
  subst h2
  exact lv_istore_n C.1 C.2.1 hd hi hL hn (ds1_map G.1 i (vI x) ls) (fun la2 hL2 => k (ok_s (ok_h hs) hl) (ok_t hs) H locs la2 hP hS hL2)
theorem r_lstore (C : Cx G p s m args meth c ret nL own cc)  {i : Nat} {x : Int64} {ls2 : List (Nat × VV)} (hd : decode cc pc = .ok (.lstore i, 2))  (hn : i + 1 < nL) (h2 : ds2 i (vL x) ls = ls2) (k : Rt G p l e R s m args below meth c cells slots Q nL (pc + 2) ls2 st σ) : Rt G p l e R s m args below meth c cells slots Q nL pc ls (vL x :: st) σ := by
  intro hl hs H locs la hP hS hL
  subst h2
  exact lv_lstore C.1 C.2.1 hd  hL hn (ds2_map G.1 i (vL x) ls) (fun la2 hL2 => k (ok_s (ok_h hs) hl) (ok_t hs) H locs la2 hP hS hL2)
theorem r_lstore_n (C : Cx G p s m args meth c ret nL own cc) {n : Fin 4}  {x : Int64} {ls2 : List (Nat × VV)} (hd : decode cc pc = .ok (.lstore_n n, 1)) (i : Nat) (hi : (n : Nat) = i) (hn : i + 1 < nL) (h2 : ds2 i (vL x) ls = ls2) (k : Rt G p l e R s m args below meth c cells slots Q nL (pc + 1) ls2 st σ) : Rt G p l e R s m args below meth c cells slots Q nL pc ls (vL x :: st) σ := by
  intro hl hs H locs la hP hS hL
  subst h2
  exact lv_lstore_n C.1 C.2.1 hd hi hL hn (ds2_map G.1 i (vL x) ls) (fun la2 hL2 => k (ok_s (ok_h hs) hl) (ok_t hs) H locs la2 hP hS hL2)
theorem r_astore (C : Cx G p s m args meth c ret nL own cc)  {i : Nat} {x : Id3} {ls2 : List (Nat × VV)} (hd : decode cc pc = .ok (.astore i, 2))  (hn : i < nL) (h2 : ds1 i (vR x) ls = ls2) (k : Rt G p l e R s m args below meth c cells slots Q nL (pc + 2) ls2 st σ) : Rt G p l e R s m args below meth c cells slots Q nL pc ls (vR x :: st) σ := by
  intro hl hs H locs la hP hS hL
  subst h2
  exact lv_astore C.1 C.2.1 hd  hL hn (ds1_map G.1 i (vR x) ls) (fun la2 hL2 => k (ok_s (ok_h hs) hl) (ok_t hs) H locs la2 hP hS hL2)
theorem r_astore_n (C : Cx G p s m args meth c ret nL own cc) {n : Fin 4}  {x : Id3} {ls2 : List (Nat × VV)} (hd : decode cc pc = .ok (.astore_n n, 1)) (i : Nat) (hi : (n : Nat) = i) (hn : i < nL) (h2 : ds1 i (vR x) ls = ls2) (k : Rt G p l e R s m args below meth c cells slots Q nL (pc + 1) ls2 st σ) : Rt G p l e R s m args below meth c cells slots Q nL pc ls (vR x :: st) σ := by
  intro hl hs H locs la hP hS hL
  subst h2
  exact lv_astore_n C.1 C.2.1 hd hi hL hn (ds1_map G.1 i (vR x) ls) (fun la2 hL2 => k (ok_s (ok_h hs) hl) (ok_t hs) H locs la2 hP hS hL2)
theorem lk_ix {ls : List (Nat × VV)} {i : Nat} {v : VV} (ad : Id3 → Nat) (hk : ls.lookup i = some v) : ∃ k : Nat, (ls.map (tp ad))[k]? = some (i, tv ad v) := by
  have hm : (i, v) ∈ ls := by
    induction ls with
    | nil => simp at hk
    | cons a t ih =>
      obtain ⟨j, w⟩ := a
      simp only [List.lookup_cons] at hk
      by_cases hj : (i == j) = true
      · rw [hj] at hk
        have e1 : i = j := by simpa using hj
        cases hk
        rw [e1]
        exact List.mem_cons_self
      · rw [Bool.not_eq_true] at hj
        rw [hj] at hk
        exact List.mem_cons_of_mem _ (ih hk)
  exact List.getElem?_of_mem (List.mem_map.mpr ⟨(i, v), hm, rfl⟩)
theorem r_iinc (C : Cx G p s m args meth c ret nL own cc) {i : Nat} {n : Int} {x v : Int32} {ls2 : List (Nat × VV)} (hd : decode cc pc = .ok (.iinc i n, 3)) (hk : ls.lookup i = some (vI x)) (hv : x + Int32.ofInt n = v) (hn : i < nL) (h2 : ds1 i (vI v) ls = ls2) (k : Rt G p l e R s m args below meth c cells slots Q nL (pc + 3) ls2 st σ) : Rt G p l e R s m args below meth c cells slots Q nL pc ls st σ := by
  intro hl hs H locs la hP hS hL
  subst h2
  obtain ⟨kk, hkk⟩ := lk_ix G.1 hk
  exact lv_iinc (k := kk) C.1 C.2.1 hd hL hkk hv hn (ds1_map G.1 i (vI v) ls) (fun la2 hL2 => k (ok_s (v := vI v) trivial hl) hs H locs la2 hP hS hL2)
theorem r_dup_i (C : Cx G p s m args meth c ret nL own cc) {x : Int32} (hd : decode cc pc = .ok (.dup, 1))  (k : Rt G p l e R s m args below meth c cells slots Q nL (pc + 1) ls (vI x :: vI x :: st) σ) : Rt G p l e R s m args below meth c cells slots Q nL pc ls (vI x :: st) σ := by
  intro hl hs H locs la hP hS hL
  exact lv_dup C.1 C.2.1 hd rfl (k hl (ok_c (v := vI _) trivial hs) H locs la hP hS hL)
theorem r_dup_r (C : Cx G p s m args meth c ret nL own cc) {x : Id3} (hd : decode cc pc = .ok (.dup, 1))  (k : Rt G p l e R s m args below meth c cells slots Q nL (pc + 1) ls (vR x :: vR x :: st) σ) : Rt G p l e R s m args below meth c cells slots Q nL pc ls (vR x :: st) σ := by
  intro hl hs H locs la hP hS hL
  exact lv_dup C.1 C.2.1 hd rfl (k hl (ok_c (ok_h hs) hs) H locs la hP hS hL)
theorem r_pop_i (C : Cx G p s m args meth c ret nL own cc) {x : Int32} (hd : decode cc pc = .ok (.pop, 1))  (k : Rt G p l e R s m args below meth c cells slots Q nL (pc + 1) ls st σ) : Rt G p l e R s m args below meth c cells slots Q nL pc ls (vI x :: st) σ := by
  intro hl hs H locs la hP hS hL
  exact lv_pop C.1 C.2.1 hd rfl (k hl (ok_t hs) H locs la hP hS hL)
theorem r_dup2_ri (C : Cx G p s m args meth c ret nL own cc) {x : Int32} {d : Id3} (hd : decode cc pc = .ok (.dup2, 1))  (k : Rt G p l e R s m args below meth c cells slots Q nL (pc + 1) ls (vI x :: vR d :: vI x :: vR d :: st) σ) : Rt G p l e R s m args below meth c cells slots Q nL pc ls (vI x :: vR d :: st) σ := by
  intro hl hs H locs la hP hS hL
  exact lv_dup2_11 C.1 C.2.1 hd rfl rfl (k hl (ok_c (ok_h hs) (ok_c (ok_h (ok_t hs)) hs)) H locs la hP hS hL)
theorem r_if_eq (C : Cx G p s m args meth c ret nL own cc) {x : Int32} {off : Int} (tgt : Nat) (hd : decode cc pc = .ok (.ifCond .eq off, 3)) (ht : (pc : Int) + off = (tgt : Int)) (kt : x = 0 → Rt G p l e R s m args below meth c cells slots Q nL tgt ls st σ) (kf : ¬ x = 0 → Rt G p l e R s m args below meth c cells slots Q nL (pc + 3) ls st σ) : Rt G p l e R s m args below meth c cells slots Q nL pc ls (vI x :: st) σ := by
  intro hl hs H locs la hP hS hL
  exact lv_if_eq C.1 C.2.1 hd ht (fun h => kt h hl (ok_t hs) H locs la hP hS hL) (fun h => kf h hl (ok_t hs) H locs la hP hS hL)
theorem r_icmp_eq (C : Cx G p s m args meth c ret nL own cc) {x y : Int32} {off : Int} (tgt : Nat) (hd : decode cc pc = .ok (.if_icmp .eq off, 3)) (ht : (pc : Int) + off = (tgt : Int)) (kt : x = y → Rt G p l e R s m args below meth c cells slots Q nL tgt ls st σ) (kf : ¬ x = y → Rt G p l e R s m args below meth c cells slots Q nL (pc + 3) ls st σ) : Rt G p l e R s m args below meth c cells slots Q nL pc ls (vI y :: vI x :: st) σ := by
  intro hl hs H locs la hP hS hL
  exact lv_icmp_eq C.1 C.2.1 hd ht (fun h => kt h hl (ok_t (ok_t hs)) H locs la hP hS hL) (fun h => kf h hl (ok_t (ok_t hs)) H locs la hP hS hL)
theorem r_if_ne (C : Cx G p s m args meth c ret nL own cc) {x : Int32} {off : Int} (tgt : Nat) (hd : decode cc pc = .ok (.ifCond .ne off, 3)) (ht : (pc : Int) + off = (tgt : Int)) (kt : ¬ x = 0 → Rt G p l e R s m args below meth c cells slots Q nL tgt ls st σ) (kf : x = 0 → Rt G p l e R s m args below meth c cells slots Q nL (pc + 3) ls st σ) : Rt G p l e R s m args below meth c cells slots Q nL pc ls (vI x :: st) σ := by
  intro hl hs H locs la hP hS hL
  exact lv_if_ne C.1 C.2.1 hd ht (fun h => kt h hl (ok_t hs) H locs la hP hS hL) (fun h => kf h hl (ok_t hs) H locs la hP hS hL)
theorem r_icmp_ne (C : Cx G p s m args meth c ret nL own cc) {x y : Int32} {off : Int} (tgt : Nat) (hd : decode cc pc = .ok (.if_icmp .ne off, 3)) (ht : (pc : Int) + off = (tgt : Int)) (kt : ¬ x = y → Rt G p l e R s m args below meth c cells slots Q nL tgt ls st σ) (kf : x = y → Rt G p l e R s m args below meth c cells slots Q nL (pc + 3) ls st σ) : Rt G p l e R s m args below meth c cells slots Q nL pc ls (vI y :: vI x :: st) σ := by
  intro hl hs H locs la hP hS hL
  exact lv_icmp_ne C.1 C.2.1 hd ht (fun h => kt h hl (ok_t (ok_t hs)) H locs la hP hS hL) (fun h => kf h hl (ok_t (ok_t hs)) H locs la hP hS hL)
theorem r_if_lt (C : Cx G p s m args meth c ret nL own cc) {x : Int32} {off : Int} (tgt : Nat) (hd : decode cc pc = .ok (.ifCond .lt off, 3)) (ht : (pc : Int) + off = (tgt : Int)) (kt : x < 0 → Rt G p l e R s m args below meth c cells slots Q nL tgt ls st σ) (kf : ¬ x < 0 → Rt G p l e R s m args below meth c cells slots Q nL (pc + 3) ls st σ) : Rt G p l e R s m args below meth c cells slots Q nL pc ls (vI x :: st) σ := by
  intro hl hs H locs la hP hS hL
  exact lv_if_lt C.1 C.2.1 hd ht (fun h => kt h hl (ok_t hs) H locs la hP hS hL) (fun h => kf h hl (ok_t hs) H locs la hP hS hL)
theorem r_icmp_lt (C : Cx G p s m args meth c ret nL own cc) {x y : Int32} {off : Int} (tgt : Nat) (hd : decode cc pc = .ok (.if_icmp .lt off, 3)) (ht : (pc : Int) + off = (tgt : Int)) (kt : x < y → Rt G p l e R s m args below meth c cells slots Q nL tgt ls st σ) (kf : ¬ x < y → Rt G p l e R s m args below meth c cells slots Q nL (pc + 3) ls st σ) : Rt G p l e R s m args below meth c cells slots Q nL pc ls (vI y :: vI x :: st) σ := by
  intro hl hs H locs la hP hS hL
  exact lv_icmp_lt C.1 C.2.1 hd ht (fun h => kt h hl (ok_t (ok_t hs)) H locs la hP hS hL) (fun h => kf h hl (ok_t (ok_t hs)) H locs la hP hS hL)
theorem r_if_ge (C : Cx G p s m args meth c ret nL own cc) {x : Int32} {off : Int} (tgt : Nat) (hd : decode cc pc = .ok (.ifCond .ge off, 3)) (ht : (pc : Int) + off = (tgt : Int)) (kt : 0 ≤ x → Rt G p l e R s m args below meth c cells slots Q nL tgt ls st σ) (kf : ¬ 0 ≤ x → Rt G p l e R s m args below meth c cells slots Q nL (pc + 3) ls st σ) : Rt G p l e R s m args below meth c cells slots Q nL pc ls (vI x :: st) σ := by
  intro hl hs H locs la hP hS hL
  exact lv_if_ge C.1 C.2.1 hd ht (fun h => kt h hl (ok_t hs) H locs la hP hS hL) (fun h => kf h hl (ok_t hs) H locs la hP hS hL)
theorem r_icmp_ge (C : Cx G p s m args meth c ret nL own cc) {x y : Int32} {off : Int} (tgt : Nat) (hd : decode cc pc = .ok (.if_icmp .ge off, 3)) (ht : (pc : Int) + off = (tgt : Int)) (kt : y ≤ x → Rt G p l e R s m args below meth c cells slots Q nL tgt ls st σ) (kf : ¬ y ≤ x → Rt G p l e R s m args below meth c cells slots Q nL (pc + 3) ls st σ) : Rt G p l e R s m args below meth c cells slots Q nL pc ls (vI y :: vI x :: st) σ := by
  intro hl hs H locs la hP hS hL
  exact lv_icmp_ge C.1 C.2.1 hd ht (fun h => kt h hl (ok_t (ok_t hs)) H locs la hP hS hL) (fun h => kf h hl (ok_t (ok_t hs)) H locs la hP hS hL)
theorem r_if_gt (C : Cx G p s m args meth c ret nL own cc) {x : Int32} {off : Int} (tgt : Nat) (hd : decode cc pc = .ok (.ifCond .gt off, 3)) (ht : (pc : Int) + off = (tgt : Int)) (kt : 0 < x → Rt G p l e R s m args below meth c cells slots Q nL tgt ls st σ) (kf : ¬ 0 < x → Rt G p l e R s m args below meth c cells slots Q nL (pc + 3) ls st σ) : Rt G p l e R s m args below meth c cells slots Q nL pc ls (vI x :: st) σ := by
  intro hl hs H locs la hP hS hL
  exact lv_if_gt C.1 C.2.1 hd ht (fun h => kt h hl (ok_t hs) H locs la hP hS hL) (fun h => kf h hl (ok_t hs) H locs la hP hS hL)
theorem r_icmp_gt (C : Cx G p s m args meth c ret nL own cc) {x y : Int32} {off : Int} (tgt : Nat) (hd : decode cc pc = .ok (.if_icmp .gt off, 3)) (ht : (pc : Int) + off = (tgt : Int)) (kt : y < x → Rt G p l e R s m args below meth c cells slots Q nL tgt ls st σ) (kf : ¬ y < x → Rt G p l e R s m args below meth c cells slots Q nL (pc + 3) ls st σ) : Rt G p l e R s m args below meth c cells slots Q nL pc ls (vI y :: vI x :: st) σ := by
  intro hl hs H locs la hP hS hL
  exact lv_icmp_gt C.1 C.2.1 hd ht (fun h => kt h hl (ok_t (ok_t hs)) H locs la hP hS hL) (fun h => kf h hl (ok_t (ok_t hs)) H locs la hP hS hL)
theorem r_if_le (C : Cx G p s m args meth c ret nL own cc) {x : Int32} {off : Int} (tgt : Nat) (hd : decode cc pc = .ok (.ifCond .le off, 3)) (ht : (pc : Int) + off = (tgt : Int)) (kt : x ≤ 0 → Rt G p l e R s m args below meth c cells slots Q nL tgt ls st σ) (kf : ¬ x ≤ 0 → Rt G p l e R s m args below meth c cells slots Q nL (pc + 3) ls st σ) : Rt G p l e R s m args below meth c cells slots Q nL pc ls (vI x :: st) σ := by
  intro hl hs H locs la hP hS hL
  exact lv_if_le C.1 C.2.1 hd ht (fun h => kt h hl (ok_t hs) H locs la hP hS hL) (fun h => kf h hl (ok_t hs) H locs la hP hS hL)
theorem r_icmp_le (C : Cx G p s m args meth c ret nL own cc) {x y : Int32} {off : Int} (tgt : Nat) (hd : decode cc pc = .ok (.if_icmp .le off, 3)) (ht : (pc : Int) + off = (tgt : Int)) (kt : x ≤ y → Rt G p l e R s m args below meth c cells slots Q nL tgt ls st σ) (kf : ¬ x ≤ y → Rt G p l e R s m args below meth c cells slots Q nL (pc + 3) ls st σ) : Rt G p l e R s m args below meth c cells slots Q nL pc ls (vI y :: vI x :: st) σ := by
  intro hl hs H locs la hP hS hL
  exact lv_icmp_le C.1 C.2.1 hd ht (fun h => kt h hl (ok_t (ok_t hs)) H locs la hP hS hL) (fun h => kf h hl (ok_t (ok_t hs)) H locs la hP hS hL)
theorem r_goto (C : Cx G p s m args meth c ret nL own cc) {off : Int} (tgt : Nat) (hd : decode cc pc = .ok (.goto off, 3)) (ht : (pc : Int) + off = (tgt : Int)) (k : Rt G p l e R s m args below meth c cells slots Q nL tgt ls st σ) : Rt G p l e R s m args below meth c cells slots Q nL pc ls st σ := by
  intro hl hs H locs la hP hS hL
  exact lv_goto C.1 C.2.1 hd ht (k hl hs H locs la hP hS hL)
/-- two ids of the world lie at one address only if they are one -/
theorem ad_inj (hD : ∀ σ : St, va_D (AG G) (wsO G σ)) {d d' : Id3} (h : d ∈ ids) (h' : d' ∈ ids) (σ : St) (hq : G.1 d = G.1 d') : d = d' := by
  obtain ⟨k, h1, h2⟩ := ws_at (G := G) h σ
  obtain ⟨k', h3, h4⟩ := ws_at (G := G) h' σ
  have := (hD σ).1 k k' _ _ h2 h4 hq
  subst this
  exact Option.some.inj (h1.symm.trans h3)
theorem r_acmp_eq (C : Cx G p s m args meth c ret nL own cc) {d d' : Id3} {off : Int} (tgt : Nat) (hd : decode cc pc = .ok (.if_acmp .eq off, 3)) (ht : (pc : Int) + off = (tgt : Int)) (h0 : d.1 < 100) (h1 : d'.1 < 100) (kt : d = d' → Rt G p l e R s m args below meth c cells slots Q nL tgt ls st σ) (kf : ¬ d = d' → Rt G p l e R s m args below meth c cells slots Q nL (pc + 3) ls st σ) : Rt G p l e R s m args below meth c cells slots Q nL pc ls (vR d' :: vR d :: st) σ := by
  intro hl hs H locs la hP hS hL
  have g0 : d ∈ ids := ok_h (ok_t hs) h0
  have g1 : d' ∈ ids := ok_h hs h1
  exact lv_acmp_eq (rx := some (G.1 d)) (ry := some (G.1 d')) C.1 C.2.1 hd ht (fun h => kt (ad_inj C.2.2.2.2.2.2.1 g0 g1 σ (Option.some.inj h)) hl (ok_t (ok_t hs)) H locs la hP hS hL) (fun h => kf (fun q => h (by rw [q])) hl (ok_t (ok_t hs)) H locs la hP hS hL)
theorem r_tabIn (C : Cx G p s m args meth c ret nL own cc) {dflt lo hi : Int} {offs : Array Int} {len : Nat} {x : Int32} {off : Int} (tgt : Nat) (hd : decode cc pc = .ok (.tableswitch dflt lo hi offs, len)) (h1 : ¬ x.toInt < lo) (h2 : ¬ hi < x.toInt) (ho : offs[(x.toInt - lo).toNat]? = some off) (ht : (pc : Int) + off = (tgt : Int)) (k : Rt G p l e R s m args below meth c cells slots Q nL tgt ls st σ) : Rt G p l e R s m args below meth c cells slots Q nL pc ls (vI x :: st) σ := by
  intro hl hs H locs la hP hS hL
  exact lv_tableIn C.1 C.2.1 hd h1 h2 ho ht (k hl (ok_t hs) H locs la hP hS hL)
theorem r_tabOut (C : Cx G p s m args meth c ret nL own cc) {dflt lo hi : Int} {offs : Array Int} {len : Nat} {x : Int32} (tgt : Nat) (hd : decode cc pc = .ok (.tableswitch dflt lo hi offs, len)) (h : x.toInt < lo ∨ hi < x.toInt) (ht : (pc : Int) + dflt = (tgt : Int)) (k : Rt G p l e R s m args below meth c cells slots Q nL tgt ls st σ) : Rt G p l e R s m args below meth c cells slots Q nL pc ls (vI x :: st) σ := by
  intro hl hs H locs la hP hS hL
  exact lv_tableOut C.1 C.2.1 hd h ht (k hl (ok_t hs) H locs la hP hS hL)
theorem r_look (C : Cx G p s m args meth c ret nL own cc) {dflt : Int} {ps : Array (Int × Int)} {len : Nat} {x : Int32} {off : Int} (tgt : Nat) (hd : decode cc pc = .ok (.lookupswitch dflt ps, len)) (hp : (ps.toList.zip (ps.toList.drop 1)).all (fun (a, next) => a.1 < next.1) = true) (ho : Op.lookupswitch.offset ps.toList dflt x.toInt = off) (ht : (pc : Int) + off = (tgt : Int)) (k : Rt G p l e R s m args below meth c cells slots Q nL tgt ls st σ) : Rt G p l e R s m args below meth c cells slots Q nL pc ls (vI x :: st) σ := by
  intro hl hs H locs la hP hS hL
  exact lv_lookup C.1 C.2.1 hd hp ho ht (k hl (ok_t hs) H locs la hP hS hL)
theorem r_iaload (C : Cx G p s m args meth c ret nL own cc) {d : Id3} {n : Nat} {i : Int32} (hd : decode cc pc = .ok (.iaload, 1)) (hk : dk d.1 = (1, n, 0)) (h0 : d.1 < 100) (hi : vp_in i n) (k : Rt G p l e R s m args below meth c cells slots Q nL (pc + 1) ls (vI (σ.1 d i.toNatClampNeg) :: st) σ) : Rt G p l e R s m args below meth c cells slots Q nL pc ls (vI i :: vR d :: st) σ := by
  intro hl hs H locs la hP hS hL
  obtain ⟨kk, h1, h2⟩ := ws_at (G := G) (ok_h (ok_t hs) h0) σ
  rw [en_I hk (by decide)] at h2
  exact va_iald C.1 C.2.1 C.2.2.2.2.2.1 hP kk 0 h2 rfl hi hd (k hl (ok_c (v := vI _) trivial (ok_t (ok_t hs))) H locs la hP hS hL)
theorem r_baload (C : Cx G p s m args meth c ret nL own cc) {d : Id3} {n : Nat} {i : Int32} (hd : decode cc pc = .ok (.baload, 1)) (hk : dk d.1 = (2, n, 1)) (h0 : d.1 < 100) (hi : vp_in i n) (k : Rt G p l e R s m args below meth c cells slots Q nL (pc + 1) ls (vI (σ.1 d i.toNatClampNeg) :: st) σ) : Rt G p l e R s m args below meth c cells slots Q nL pc ls (vI i :: vR d :: st) σ := by
  intro hl hs H locs la hP hS hL
  obtain ⟨kk, h1, h2⟩ := ws_at (G := G) (ok_h (ok_t hs) h0) σ
  rw [en_I hk (by decide)] at h2
  exact va_bald C.1 C.2.1 C.2.2.2.2.2.1 hP kk 1 h2 rfl hi hd (k hl (ok_c (v := vI _) trivial (ok_t (ok_t hs))) H locs la hP hS hL)
theorem r_zaload (C : Cx G p s m args meth c ret nL own cc) {d : Id3} {n : Nat} {i : Int32} (hd : decode cc pc = .ok (.baload, 1)) (hk : dk d.1 = (3, n, 2)) (h0 : d.1 < 100) (hi : vp_in i n) (k : Rt G p l e R s m args below meth c cells slots Q nL (pc + 1) ls (vI (σ.1 d i.toNatClampNeg) :: st) σ) : Rt G p l e R s m args below meth c cells slots Q nL pc ls (vI i :: vR d :: st) σ := by
  intro hl hs H locs la hP hS hL
  obtain ⟨kk, h1, h2⟩ := ws_at (G := G) (ok_h (ok_t hs) h0) σ
  rw [en_I hk (by decide)] at h2
  exact va_zald C.1 C.2.1 C.2.2.2.2.2.1 hP kk 2 h2 rfl hi hd (k hl (ok_c (v := vI _) trivial (ok_t (ok_t hs))) H locs la hP hS hL)
theorem r_laload (C : Cx G p s m args meth c ret nL own cc) {d : Id3} {n : Nat} {i : Int32} (hd : decode cc pc = .ok (.laload, 1)) (hk : dk d.1 = (4, n, 3)) (h0 : d.1 < 100) (hi : vp_in i n) (k : Rt G p l e R s m args below meth c cells slots Q nL (pc + 1) ls (vL (σ.2 d i.toNatClampNeg) :: st) σ) : Rt G p l e R s m args below meth c cells slots Q nL pc ls (vI i :: vR d :: st) σ := by
  intro hl hs H locs la hP hS hL
  obtain ⟨kk, h1, h2⟩ := ws_at (G := G) (ok_h (ok_t hs) h0) σ
  rw [en_J hk] at h2
  exact va_lald C.1 C.2.1 C.2.2.2.2.2.1 hP kk 3 h2 rfl hi hd (k hl (ok_c (v := vL _) trivial (ok_t (ok_t hs))) H locs la hP hS hL)
theorem r_aaload (C : Cx G p s m args meth c ret nL own cc) {d : Id3} {n b : Nat} {cA : ClassId} {E : String} {i : Int32} (hd : decode cc pc = .ok (.aaload, 1)) (hk : dk d.1 = (5, n, b)) (hb : (tyl G)[b]? = some (G.2.2.1 b, .object E)) (h0 : d.1 < 100) (hi : vp_in i n) (k : Rt G p l e R s m args below meth c cells slots Q nL (pc + 1) ls (vR (el d i.toNatClampNeg) :: st) σ) : Rt G p l e R s m args below meth c cells slots Q nL pc ls (vI i :: vR d :: st) σ := by
  intro hl hs H locs la hP hS hL
  have hm : d ∈ ids := ok_h (ok_t hs) h0
  obtain ⟨kk, h1, h2⟩ := ws_at (G := G) hm σ
  rw [en_Q hk] at h2
  have hlt : i.toNatClampNeg < n := Nat.not_le.mp fun q => hi (Or.inr q)
  have hm2 : el d i.toNatClampNeg ∈ ids := ids_el d hm (by rw [hk]) _ (by rw [hk]; exact hlt)
  exact va_aldq C.1 C.2.1 C.2.2.2.2.2.1 hP kk b h2 hb hi hd (k hl (ok_c (v := vR _) (fun _ => hm2) (ok_t (ok_t hs))) H locs la hP hS hL)
theorem r_iastore (C : Cx G p s m args meth c ret nL own cc) {d : Id3} {n : Nat} {i x : Int32} (hd : decode cc pc = .ok (.iastore, 1)) (hk : dk d.1 = (1, n, 0)) (h0 : d.1 < 100) (hi : vp_in i n) (k : Rt G p l e R s m args below meth c cells slots Q nL (pc + 1) ls st (uI σ d i.toNatClampNeg (x))) : Rt G p l e R s m args below meth c cells slots Q nL pc ls (vI x :: vI i :: vR d :: st) σ := by
  intro hl hs H locs la hP hS hL
  obtain ⟨kk, h1, h2⟩ := ws_at (G := G) (ok_h (ok_t (ok_t hs)) h0) σ
  rw [en_I hk (by decide)] at h2
  have e1 := ws_set (G := G) (σ := σ) (σ' := uI σ d i.toNatClampNeg (x)) h1 (fun d' h => en_ne (uI_ne h) rfl) (en_I hk (by decide))
  rw [uI_self] at e1
  exact va_iast C.1 C.2.1 C.2.2.2.2.2.1 hP (C.2.2.2.2.2.2.1 σ) hS kk 0 h2 rfl hi hd (fun H1 locs1 hP1 _ hS1 => k hl (ok_t (ok_t (ok_t hs))) H1 locs1 la (by rw [← e1]; exact hP1) hS1 hL)
theorem r_bastore (C : Cx G p s m args meth c ret nL own cc) {d : Id3} {n : Nat} {i x : Int32} (hd : decode cc pc = .ok (.bastore, 1)) (hk : dk d.1 = (2, n, 1)) (h0 : d.1 < 100) (hi : vp_in i n) (k : Rt G p l e R s m args below meth c cells slots Q nL (pc + 1) ls st (uI σ d i.toNatClampNeg (vp_nar .byte x))) : Rt G p l e R s m args below meth c cells slots Q nL pc ls (vI x :: vI i :: vR d :: st) σ := by
  intro hl hs H locs la hP hS hL
  obtain ⟨kk, h1, h2⟩ := ws_at (G := G) (ok_h (ok_t (ok_t hs)) h0) σ
  rw [en_I hk (by decide)] at h2
  have e1 := ws_set (G := G) (σ := σ) (σ' := uI σ d i.toNatClampNeg (vp_nar .byte x)) h1 (fun d' h => en_ne (uI_ne h) rfl) (en_I hk (by decide))
  rw [uI_self] at e1
  exact va_bast C.1 C.2.1 C.2.2.2.2.2.1 hP (C.2.2.2.2.2.2.1 σ) hS kk 1 h2 rfl hi hd (fun H1 locs1 hP1 _ hS1 => k hl (ok_t (ok_t (ok_t hs))) H1 locs1 la (by rw [← e1]; exact hP1) hS1 hL)
theorem r_zastore (C : Cx G p s m args meth c ret nL own cc) {d : Id3} {n : Nat} {i x : Int32} (hd : decode cc pc = .ok (.bastore, 1)) (hk : dk d.1 = (3, n, 2)) (h0 : d.1 < 100) (hi : vp_in i n) (k : Rt G p l e R s m args below meth c cells slots Q nL (pc + 1) ls st (uI σ d i.toNatClampNeg (vp_nar .boolean x))) : Rt G p l e R s m args below meth c cells slots Q nL pc ls (vI x :: vI i :: vR d :: st) σ := by
  intro hl hs H locs la hP hS hL
  obtain ⟨kk, h1, h2⟩ := ws_at (G := G) (ok_h (ok_t (ok_t hs)) h0) σ
  rw [en_I hk (by decide)] at h2
  have e1 := ws_set (G := G) (σ := σ) (σ' := uI σ d i.toNatClampNeg (vp_nar .boolean x)) h1 (fun d' h => en_ne (uI_ne h) rfl) (en_I hk (by decide))
  rw [uI_self] at e1
  exact va_zast C.1 C.2.1 C.2.2.2.2.2.1 hP (C.2.2.2.2.2.2.1 σ) hS kk 2 h2 rfl hi hd (fun H1 locs1 hP1 _ hS1 => k hl (ok_t (ok_t (ok_t hs))) H1 locs1 la (by rw [← e1]; exact hP1) hS1 hL)
theorem r_lastore (C : Cx G p s m args meth c ret nL own cc) {d : Id3} {n : Nat} {i : Int32} {x : Int64} (hd : decode cc pc = .ok (.lastore, 1)) (hk : dk d.1 = (4, n, 3)) (h0 : d.1 < 100) (hi : vp_in i n) (k : Rt G p l e R s m args below meth c cells slots Q nL (pc + 1) ls st (uL σ d i.toNatClampNeg x)) : Rt G p l e R s m args below meth c cells slots Q nL pc ls (vL x :: vI i :: vR d :: st) σ := by
  intro hl hs H locs la hP hS hL
  obtain ⟨kk, h1, h2⟩ := ws_at (G := G) (ok_h (ok_t (ok_t hs)) h0) σ
  rw [en_J hk] at h2
  have e1 := ws_set (G := G) (σ := σ) (σ' := uL σ d i.toNatClampNeg x) h1 (fun d' h => en_ne rfl (uL_ne h)) (en_J hk)
  rw [uL_self] at e1
  exact va_last C.1 C.2.1 C.2.2.2.2.2.1 hP (C.2.2.2.2.2.2.1 σ) hS kk 3 h2 rfl hi hd (fun H1 locs1 hP1 _ hS1 => k hl (ok_t (ok_t (ok_t hs))) H1 locs1 la (by rw [← e1]; exact hP1) hS1 hL)
theorem r_alen (C : Cx G p s m args meth c ret nL own cc) {d : Id3} {z n b : Nat} {ty : FieldType} {v : Int32} (hd : decode cc pc = .ok (.arraylength, 1)) (hk : dk d.1 = (z, n, b)) (hz : z = 1 ∨ z = 2 ∨ z = 3) (hb : (tyl G)[b]? = some (G.2.2.1 b, ty)) (h0 : d.1 < 100) (hv : Int32.ofNat n = v) (k : Rt G p l e R s m args below meth c cells slots Q nL (pc + 1) ls (vI v :: st) σ) : Rt G p l e R s m args below meth c cells slots Q nL pc ls (vR d :: st) σ := by
  intro hl hs H locs la hP hS hL
  obtain ⟨kk, h1, h2⟩ := ws_at (G := G) (ok_h hs h0) σ
  rw [en_I hk hz] at h2
  exact va_alen C.1 C.2.1 C.2.2.2.2.2.1 hP kk b h2 hb hv hd (k hl (ok_c (v := vI _) trivial (ok_t hs)) H locs la hP hS hL)
theorem r_alenJ (C : Cx G p s m args meth c ret nL own cc) {d : Id3} {n : Nat} {v : Int32} (hd : decode cc pc = .ok (.arraylength, 1)) (hk : dk d.1 = (4, n, 3)) (h0 : d.1 < 100) (hv : Int32.ofNat n = v) (k : Rt G p l e R s m args below meth c cells slots Q nL (pc + 1) ls (vI v :: st) σ) : Rt G p l e R s m args below meth c cells slots Q nL pc ls (vR d :: st) σ := by
  intro hl hs H locs la hP hS hL
  obtain ⟨kk, h1, h2⟩ := ws_at (G := G) (ok_h hs h0) σ
  rw [en_J hk] at h2
  exact va_alen C.1 C.2.1 C.2.2.2.2.2.1 hP kk 3 h2 rfl hv hd (k hl (ok_c (v := vI _) trivial (ok_t hs)) H locs la hP hS hL)
/-- a field of a class: the words of its table are there -/
theorem r_getI (C : Cx G p s m args meth c ret nL own cc) {d : Id3} {ci N kf index : Nat} {E : String} {T : u_T} (hd : decode cc pc = .ok (.getfield index, 3)) (hk : dk d.1 = (0, ci, N)) (hc : vwCl[ci]? = some (E, T, N)) (hin : ∀ w ∈ u_ws E T N, w ∈ TB) (hkf : kf < N) (hw : Cond.fieldLink own index (T kf).1 (T kf).2.1 (T kf).2.2.1 ∈ TB) (hr : rk d.1 kf = false) (h0 : d.1 < 100) (k : Rt G p l e R s m args below meth c cells slots Q nL (pc + 3) ls (vI (σ.1 d kf) :: st) σ) : Rt G p l e R s m args below meth c cells slots Q nL pc ls (vR d :: st) σ := by
  intro hl hs H locs la hP hS hL
  obtain ⟨kk, h1, h2⟩ := ws_at (G := G) (ok_h hs h0) σ
  rw [en_O hk] at h2
  exact va_get C.1 C.2.1 C.2.2.2.2.1 hin C.2.2.2.1 C.2.2.2.2.2.1 hP kk h2 hc kf hkf (C.2.2.2.2.1 _ hw) (fun _ h => h) (v := .int (σ.1 d kf)) (by simp [hkf, fv, hr]) hd (k hl (ok_c (v := vI _) trivial (ok_t hs)) H locs la hP hS hL)
theorem r_getR (C : Cx G p s m args meth c ret nL own cc) {d : Id3} {ci N kf index : Nat} {E : String} {T : u_T} (hd : decode cc pc = .ok (.getfield index, 3)) (hk : dk d.1 = (0, ci, N)) (hc : vwCl[ci]? = some (E, T, N)) (hin : ∀ w ∈ u_ws E T N, w ∈ TB) (hkf : kf < N) (hw : Cond.fieldLink own index (T kf).1 (T kf).2.1 (T kf).2.2.1 ∈ TB) (hr : rk d.1 kf = true) (h0 : d.1 < 100) (k : Rt G p l e R s m args below meth c cells slots Q nL (pc + 3) ls (vR (rf d kf) :: st) σ) : Rt G p l e R s m args below meth c cells slots Q nL pc ls (vR d :: st) σ := by
  intro hl hs H locs la hP hS hL
  have hm : d ∈ ids := ok_h hs h0
  obtain ⟨kk, h1, h2⟩ := ws_at (G := G) hm σ
  rw [en_O hk] at h2
  have hm2 : rf d kf ∈ ids := ids_rf d hm kf (by rw [hk]; exact hkf) (by rw [hk]) hr
  exact va_get C.1 C.2.1 C.2.2.2.2.1 hin C.2.2.2.1 C.2.2.2.2.2.1 hP kk h2 hc kf hkf (C.2.2.2.2.1 _ hw) (fun _ h => h) (v := .ref (G.1 (rf d kf))) (by simp [hkf, fv, hr]) hd (k hl (ok_c (v := vR _) (fun _ => hm2) (ok_t hs)) H locs la hP hS hL)
theorem r_put (C : Cx G p s m args meth c ret nL own cc) {d : Id3} {ci N kf index : Nat} {E : String} {T : u_T} {ty0 : Nat → FieldType} {x : Int32} (hd : decode cc pc = .ok (.putfield index, 3)) (hk : dk d.1 = (0, ci, N)) (hc : vwCl[ci]? = some (E, T, N)) (hin : ∀ w ∈ u_ws E T N, w ∈ TB) (hty : ∀ k, k < N → parseFieldDescriptor (T k).2.2.1 = some (ty0 k)) (hnm : ∀ a, a < N → ∀ b, b < N → a ≠ b → (T a).2.1 ≠ (T b).2.1) (hkf : kf < N) (hw : Cond.fieldLink own index (T kf).1 (T kf).2.1 (T kf).2.2.1 ∈ TB) (hr : rk d.1 kf = false) (h0 : d.1 < 100) (hfin : (T kf).2.2.2 = false) (hn : narrow (ty0 kf) (.int x) = .int x) (hf : fits (ty0 kf) (.int x) = true) (k : Rt G p l e R s m args below meth c cells slots Q nL (pc + 3) ls st (uI σ d kf x)) : Rt G p l e R s m args below meth c cells slots Q nL pc ls (vI x :: vR d :: st) σ := by
  intro hl hs H locs la hP hS hL
  obtain ⟨kk, h1, h2⟩ := ws_at (G := G) (ok_h (ok_t hs) h0) σ
  rw [en_O hk] at h2
  have e1 := ws_set (G := G) (σ := σ) (σ' := uI σ d kf x) h1 (fun d' h => en_ne (uI_ne h) rfl) (en_O hk)
  rw [← fv_put hr] at e1
  exact va_put C.1 C.2.1 C.2.2.2.2.1 hin ty0 hty hnm C.2.2.2.1 C.2.2.2.2.2.1 hP (C.2.2.2.2.2.2.1 σ) hS kk h2 hc kf hkf (C.2.2.2.2.1 _ hw) (fun _ h => h) hfin (hty kf hkf) hn hf (by simpa using hkf) hd (fun H1 locs1 hP1 _ hS1 => k hl (ok_t (ok_t hs)) H1 locs1 la (by rw [← e1]; exact hP1) hS1 hL)
end RT
end
section
/-- the locals at a method's entry -/
def lva : Nat → List VV → List (Nat × VV)
  | _, [] => []
  | i, v :: vs => (i, v) :: lva (if c2 v = true then i + 2 else i + 1) vs
theorem lva_map (ad : Id3 → Nat) : ∀ (as : List VV) (i : Nat), lv_args i (as.map (tv ad)) = (lva i as).map (tp ad)
  | [], _ => rfl
  | v :: vs, i => by
    have e : (if (tv ad v).category = 2 then i + 2 else i + 1) = (if c2 v = true then i + 2 else i + 1) := by
      rw [← c2_tv ad v]
      simp
    show (i, tv ad v) :: lv_args (if (tv ad v).category = 2 then i + 2 else i + 1) (vs.map (tv ad)) = (i, tv ad v) :: (lva (if c2 v = true then i + 2 else i + 1) vs).map (tp ad)
    rw [e, lva_map ad vs]
theorem lva_ok : ∀ {as : List VV} {i : Nat}, (∀ v ∈ as, okv v) → ∀ q ∈ lva i as, okv q.2
  | [], _, _, q, hq => by cases hq
  | v :: vs, i, h, q, hq => by
    rcases List.mem_cons.mp (show q ∈ (i, v) :: lva (if c2 v = true then i + 2 else i + 1) vs from hq) with rfl | hq
    · exact h v List.mem_cons_self
    · exact lva_ok (fun w hw => h w (List.mem_cons_of_mem _ hw)) q hq
/-- a method's contract, by ids and stores -/
def Sp (G : Gx) (l : Launch) (y : MethodName) (cc : ByteArray) (nL : Nat) (ret : Option FieldType) (rm : Room) (as : List VV) (σ : St) (Qc : Array Value → State → Outcome → State → Prop) : Prop :=
  (∀ v ∈ as, okv v) → Met l y (Cond.code y cc nL ret :: TB) rm (va_Pc (as.map (tv G.1)) (fun U => Wd G σ U)) Qc 0 0 (AG G)
theorem Sp_of {G : Gx} {l : Launch} {y : MethodName} {cc : ByteArray} {nL : Nat} {ret : Option FieldType} {rm : Room} {as : List VV} {σ : St} {Qc : Array Value → State → Outcome → State → Prop} {own : String} (hy : plainName y.cls = true) (hown : y.cls = own) (hlen : (lg_sl (as.map (tv G.1))).length ≤ nL)
    (body : ∀ (p : Program) (e : Env) (s : State) (m : MethodId) (args : Array Value) (below : List Frame) (meth : Method) (c : Code), Cx G p s m args meth c ret nL own cc → Rt G p l e rm s m args below meth c 0 0 (MQ below Qc args s 0 0 (AG G)) nL 0 (lva 0 as) [] σ) : Sp G l y cc nL ret rm as σ Qc := by
  intro hok
  refine Met.ofW (cc := cc) (maxL := nL) (ret := ret) hy rfl ?_
  intro p e s m args below meth c s₁ B hml hv
  obtain ⟨rfl, hW⟩ := hv
  have hts := atoms_spec (ws := Cond.code y cc nL ret :: TB) B.pre
  have C : Cx G p s m (as.map (tv G.1)).toArray meth c ret nL own cc := ⟨B.exec, B.bytes, hml, by rw [← hown]; exact findClass_of_methodNamed B.named, fun w h => hts w (List.mem_cons_of_mem _ h), hW.2.1, hW.2.2.1, hW.2.2.2, B.notSynchronized, B.returns⟩
  have hl := lv_entry (as.map (tv G.1)) (n := nL) hlen
  rw [lg_entry_eq]
  rw [lva_map] at hl
  exact body p e s m _ below meth c C (lva_ok hok) (fun v hv => by cases hv) s.heap [] _ hW.1 va_S.rf hl
section CALLS
variable {G : Gx} {p : Program} {l : Launch} {e : Env} {R : Room} {s : State} {m : MethodId} {args : Array Value} {below : List Frame} {meth : Method} {c : Code} {cells slots : Nat} {Q : State → Prop} {nL : Nat} {ret : Option FieldType} {own : String} {cc : ByteArray}
variable {pc : Nat} {ls : List (Nat × VV)} {st st0 : List VV} {σ σ' : St}
variable {y : MethodName} {bytes : ByteArray} {maxL : Nat} {ret' : Option FieldType} {rm : Room} {as : List VV} {index : Nat}
theorem r_ireturn (C : Cx G p s m args meth c (some .int) nL own cc) {post : Int32 → St → Prop} {x : Int32} (hd : decode cc pc = .ok (.ireturn, 1)) (hp : post x σ) : Rt G p l e R s m args below meth c cells slots (MQ below (va_Qi post (Wd G) (AG G)) args s cells slots (AG G)) nL pc ls [vI x] σ := by
  intro hl hs H locs la hP hS hL
  exact W.iret C.1 C.2.1 C.2.2.2.2.2.2.2.2.2 (fun t ht hW => ⟨⟨x, σ, rfl, hp, Wd_of C hP hS ht hW⟩, hS.F ht⟩) hS.2.2 hd (hlocks := C.2.2.2.2.2.2.2.2.1)
theorem r_zreturn {ty : FieldType} (C : Cx G p s m args meth c (some ty) nL own cc) {post : Int32 → St → Prop} {x : Int32} (hd : decode cc pc = .ok (.ireturn, 1)) (hn : narrow ty (.int x) = .int x) (hp : post x σ) : Rt G p l e R s m args below meth c cells slots (MQ below (va_Qi post (Wd G) (AG G)) args s cells slots (AG G)) nL pc ls [vI x] σ := by
  intro hl hs H locs la hP hS hL
  exact W.zret C.1 C.2.1 C.2.2.2.2.2.2.2.2.2 hn (fun t ht hW => ⟨⟨x, σ, rfl, hp, Wd_of C hP hS ht hW⟩, hS.F ht⟩) hS.2.2 hd (hlocks := C.2.2.2.2.2.2.2.2.1)
theorem nar_z {x : Int32} (h : x = 0 ∨ x = 1) : narrow .boolean (.int x) = .int x := by rcases h with rfl | rfl <;> rfl
theorem r_lreturn (C : Cx G p s m args meth c (some .long) nL own cc) {post : Int64 → St → Prop} {x : Int64} (hd : decode cc pc = .ok (.lreturn, 1)) (hp : post x σ) : Rt G p l e R s m args below meth c cells slots (MQ below (va_Ql post (Wd G) (AG G)) args s cells slots (AG G)) nL pc ls [vL x] σ := by
  intro hl hs H locs la hP hS hL
  exact W.lret C.1 C.2.1 C.2.2.2.2.2.2.2.2.2 (fun t ht hW => ⟨⟨x, σ, rfl, hp, Wd_of C hP hS ht hW⟩, hS.F ht⟩) hS.2.2 hd (hlocks := C.2.2.2.2.2.2.2.2.1)
theorem r_return (C : Cx G p s m args meth c none nL own cc) {post : St → Prop} (hd : decode cc pc = .ok (.return_, 1)) (hp : post σ) : Rt G p l e R s m args below meth c cells slots (MQ below (va_Qv post (Wd G) (AG G)) args s cells slots (AG G)) nL pc ls [] σ := by
  intro hl hs H locs la hP hS hL
  exact W.vret C.1 C.2.1 C.2.2.2.2.2.2.2.2.2 (fun t ht hW => ⟨⟨σ, rfl, hp, Wd_of C hP hS ht hW⟩, hS.F ht⟩) hS.2.2 hd (hlocks := C.2.2.2.2.2.2.2.2.1)
/-- an answer that is an object -/
def WdR (G : Gx) (u : St × Id3) (a : Nat) (t : State) : Prop := Wd G u.1 t ∧ a = G.1 u.2 ∧ okv (vR u.2)
theorem r_areturn {rt : FieldType} (C : Cx G p s m args meth c (some rt) nL own cc) {post : St × Id3 → Prop} {x : Id3} (hd : decode cc pc = .ok (.areturn, 1)) (hrt : ∃ n, rt = .object n) (hp : post (σ, x)) : Rt G p l e R s m args below meth c cells slots (MQ below (va_Qr post (WdR G) (AG G)) args s cells slots (AG G)) nL pc ls [vR x] σ := by
  intro hl hs H locs la hP hS hL
  exact W.aret C.1 C.2.1 C.2.2.2.2.2.2.2.2.2 (Or.inl hrt) (Or.inr ⟨_, rfl⟩) (fun t ht hW => ⟨⟨(σ, x), G.1 x, rfl, hp, Wd_of C hP hS ht hW, rfl, ok_h hs⟩, hS.F ht⟩) hS.2.2 hd (hlocks := C.2.2.2.2.2.2.2.2.1)
theorem r_callS_i (C : Cx G p s m args meth c ret nL own cc) {r : Int32} (hd : decode cc pc = .ok (.invokestatic index, 3)) (hM : Sp G l y bytes maxL ret' rm as σ (va_Qi (fun a b => a = r ∧ b = σ') (Wd G) (AG G))) (hw1 : Cond.methodLink own index y ∈ TB) (hw2 : Cond.static y ∈ TB) (hw3 : Cond.initialized y.cls ∈ TB) (hw4 : Cond.code y bytes maxL ret' ∈ TB) (hy : y.cls ≠ "java/lang/invoke/MethodHandle" ∧ y.cls ≠ "java/lang/invoke/VarHandle" ∧ (parseMethodDescriptor y.desc).map (fun d => d.parameters.length) = some as.length) (hR : rm.frames + 1 ≤ R.frames ∧ 8 + (maxL + 11) + rm.locals ≤ R.locals) (hrm : rm.cells = 0 ∧ rm.slots = 0) (hcs : cells ≤ R.cells ∧ slots ≤ R.slots) (h0 : st0 = as.reverse ++ st) (hst : ((st.map (tv G.1)).map fun v => v.category).sum ≤ 8) (k : Rt G p l e R s m args below meth c cells slots Q nL (pc + 3) ls (vI r :: st) σ') : Rt G p l e R s m args below meth c cells slots Q nL pc ls st0 σ := by
  intro hl hs H locs la hP hS hL
  subst h0
  have HA : ∀ v ∈ as, okv v := fun v hv => (ok_a hs).1 v (List.mem_reverse.mpr hv)
  have HR : ∀ v ∈ st, okv v := (ok_a hs).2
  have hM := hM HA
  exact va_calli (va_runS (As := as.map (tv G.1)) (rest := st.map (tv G.1)) (Ts := TB) ⟨C.1, C.2.1, C.2.2.1, C.2.2.2.1, C.2.2.2.2.1⟩ hM ⟨callB_of as.length C.2.2.2.2.1 (TB_good (fun _ h => h) hw4) rfl hrm.1 hrm.2 (C.2.2.2.2.1 _ hw3) (C.2.2.2.2.1 _ hw1) hy hR, C.2.2.2.2.1 _ hw2⟩ ⟨fun a U g mk q => ⟨q.1, Wd_call q.2⟩, fun U hU hW => ⟨rfl, Wd_of C hP hS hU hW⟩⟩ rfl (by simp) hL.1 (by simp [F0]) (lv_room hst) hd hcs) hS (fun q _ h => h) (fun q h => h) (fun r1 u t H1 locs1 ht hvm hpost hB hz hk hS1 => by
    obtain ⟨rfl, rfl⟩ := hpost
    exact k hl (ok_c (v := vI _) trivial HR) H1 locs1 la (by rw [← ht]; exact hB.1) hS1 hL)
theorem r_callN_i (C : Cx G p s m args meth c ret nL own cc) {r : Int32} (hd : decode cc pc = .ok (.invokestatic index, 3)) (hM : Sp G l y bytes maxL ret' rm as σ (va_Qi (fun a b => a = r ∧ b = σ') (Wd G) (AG G))) (hw1 : (own, index, y) ∈ nsM) (hw2 : Cond.static y ∈ TB) (hw3 : Cond.initialized y.cls ∈ TB) (hw4 : Cond.code y bytes maxL ret' ∈ TB) (hy : y.cls ≠ "java/lang/invoke/MethodHandle" ∧ y.cls ≠ "java/lang/invoke/VarHandle" ∧ (parseMethodDescriptor y.desc).map (fun d => d.parameters.length) = some as.length) (hR : rm.frames + 1 ≤ R.frames ∧ 8 + (maxL + 11) + rm.locals ≤ R.locals) (hrm : rm.cells = 0 ∧ rm.slots = 0) (hcs : cells ≤ R.cells ∧ slots ≤ R.slots) (h0 : st0 = as.reverse ++ st) (hst : ((st.map (tv G.1)).map fun v => v.category).sum ≤ 8) (k : Rt G p l e R s m args below meth c cells slots Q nL (pc + 3) ls (vI r :: st) σ') : Rt G p l e R s m args below meth c cells slots Q nL pc ls st0 σ := by
  intro hl hs H locs la hP hS hL
  subst h0
  have HA : ∀ v ∈ as, okv v := fun v hv => (ok_a hs).1 v (List.mem_reverse.mpr hv)
  have HR : ∀ v ∈ st, okv v := (ok_a hs).2
  have hM := hM HA
  exact va_calli (va_runSN (As := as.map (tv G.1)) (rest := st.map (tv G.1)) (Ts := TB) (host := "DropsDance") ⟨C.1, C.2.1, C.2.2.1, C.2.2.2.1, C.2.2.2.2.1⟩ hM ⟨va_cnB as.length C.2.2.2.2.1 (TB_good (fun _ h => h) hw4) rfl hrm.1 hrm.2 (C.2.2.2.2.2.2.2.1.2.2.2.2.2.2.1 _ hw1) (C.2.2.2.2.1 _ hw3) hy hR, C.2.2.2.2.1 _ hw2, trivial⟩ ⟨fun a U g mk q => ⟨q.1, Wd_call q.2⟩, fun U hU hW => ⟨rfl, Wd_of C hP hS hU hW⟩⟩ rfl (by simp) hL.1 (by simp [F0]) (lv_room hst) hd hcs) hS (fun q _ h => h) (fun q h => h) (fun r1 u t H1 locs1 ht hvm hpost hB hz hk hS1 => by
    obtain ⟨rfl, rfl⟩ := hpost
    exact k hl (ok_c (v := vI _) trivial HR) H1 locs1 la (by rw [← ht]; exact hB.1) hS1 hL)
theorem r_callV_i (C : Cx G p s m args meth c ret nL own cc) {r : Int32} {d : Id3} {ci N : Nat} {E : String} {T : u_T} (hd : decode cc pc = .ok (.invokevirtual index, 3)) (hM : Sp G l y bytes maxL ret' rm (vR d :: as) σ (va_Qi (fun a b => a = r ∧ b = σ') (Wd G) (AG G))) (hk : dk d.1 = (0, ci, N)) (hc : vwCl[ci]? = some (E, T, N)) (hE : y.cls = E) (h1 : d.1 < 100) (hw1 : Cond.methodLink own index y ∈ TB) (hw2 : Cond.instanceMethod y ∈ TB) (hw5 : Cond.selects E y y ∈ TB) (hw3 : Cond.initialized y.cls ∈ TB) (hw4 : Cond.code y bytes maxL ret' ∈ TB) (hy : y.cls ≠ "java/lang/invoke/MethodHandle" ∧ y.cls ≠ "java/lang/invoke/VarHandle" ∧ (parseMethodDescriptor y.desc).map (fun d => d.parameters.length) = some as.length) (hR : rm.frames + 1 ≤ R.frames ∧ 8 + (maxL + 11) + rm.locals ≤ R.locals) (hrm : rm.cells = 0 ∧ rm.slots = 0) (hcs : cells ≤ R.cells ∧ slots ≤ R.slots) (h0 : st0 = as.reverse ++ (vR d :: st)) (hst : ((st.map (tv G.1)).map fun v => v.category).sum ≤ 8) (k : Rt G p l e R s m args below meth c cells slots Q nL (pc + 3) ls (vI r :: st) σ') : Rt G p l e R s m args below meth c cells slots Q nL pc ls st0 σ := by
  intro hl hs H locs la hP hS hL
  subst h0
  have HD : okv (vR d) := ok_h (ok_a hs).2
  have HA : ∀ v ∈ vR d :: as, okv v := ok_c HD (fun v hv => (ok_a hs).1 v (List.mem_reverse.mpr hv))
  have HR : ∀ v ∈ st, okv v := ok_t (ok_a hs).2
  have hM := hM HA
  obtain ⟨kk, g1, g2⟩ := ws_at (G := G) (HD h1) σ
  rw [en_O hk] at g2
  exact va_calli (va_runV (C := E) (b := G.1 d) (As := as.map (tv G.1)) (rest := st.map (tv G.1)) (Ts := TB) ⟨C.1, C.2.1, C.2.2.1, C.2.2.2.1, C.2.2.2.2.1⟩ hM ⟨callB_of as.length C.2.2.2.2.1 (TB_good (fun _ h => h) hw4) rfl hrm.1 hrm.2 (C.2.2.2.2.1 _ hw3) (C.2.2.2.2.1 _ hw1) hy hR, C.2.2.2.2.1 _ hw2, C.2.2.2.2.1 _ hw5⟩ ⟨fun a U g mk q => ⟨q.1, Wd_call q.2⟩, va_recv C.2.2.2.2.2.1 hP hc g2, fun U hU hW => ⟨rfl, Wd_of C hP hS hU hW⟩⟩ rfl (by simp) hL.1 (by simp [F0, tv]) (lv_room hst) hd hcs) hS (fun q _ h => h) (fun q h => h) (fun r1 u t H1 locs1 ht hvm hpost hB hz hk hS1 => by
    obtain ⟨rfl, rfl⟩ := hpost
    exact k hl (ok_c (v := vI _) trivial HR) H1 locs1 la (by rw [← ht]; exact hB.1) hS1 hL)
theorem r_callS_l (C : Cx G p s m args meth c ret nL own cc) {r : Int64} (hd : decode cc pc = .ok (.invokestatic index, 3)) (hM : Sp G l y bytes maxL ret' rm as σ (va_Ql (fun a b => a = r ∧ b = σ') (Wd G) (AG G))) (hw1 : Cond.methodLink own index y ∈ TB) (hw2 : Cond.static y ∈ TB) (hw3 : Cond.initialized y.cls ∈ TB) (hw4 : Cond.code y bytes maxL ret' ∈ TB) (hy : y.cls ≠ "java/lang/invoke/MethodHandle" ∧ y.cls ≠ "java/lang/invoke/VarHandle" ∧ (parseMethodDescriptor y.desc).map (fun d => d.parameters.length) = some as.length) (hR : rm.frames + 1 ≤ R.frames ∧ 8 + (maxL + 11) + rm.locals ≤ R.locals) (hrm : rm.cells = 0 ∧ rm.slots = 0) (hcs : cells ≤ R.cells ∧ slots ≤ R.slots) (h0 : st0 = as.reverse ++ st) (hst : ((st.map (tv G.1)).map fun v => v.category).sum ≤ 8) (k : Rt G p l e R s m args below meth c cells slots Q nL (pc + 3) ls (vL r :: st) σ') : Rt G p l e R s m args below meth c cells slots Q nL pc ls st0 σ := by
  intro hl hs H locs la hP hS hL
  subst h0
  have HA : ∀ v ∈ as, okv v := fun v hv => (ok_a hs).1 v (List.mem_reverse.mpr hv)
  have HR : ∀ v ∈ st, okv v := (ok_a hs).2
  have hM := hM HA
  exact va_calll (va_runS (As := as.map (tv G.1)) (rest := st.map (tv G.1)) (Ts := TB) ⟨C.1, C.2.1, C.2.2.1, C.2.2.2.1, C.2.2.2.2.1⟩ hM ⟨callB_of as.length C.2.2.2.2.1 (TB_good (fun _ h => h) hw4) rfl hrm.1 hrm.2 (C.2.2.2.2.1 _ hw3) (C.2.2.2.2.1 _ hw1) hy hR, C.2.2.2.2.1 _ hw2⟩ ⟨fun a U g mk q => ⟨q.1, Wd_call q.2⟩, fun U hU hW => ⟨rfl, Wd_of C hP hS hU hW⟩⟩ rfl (by simp) hL.1 (by simp [F0]) (lv_room hst) hd hcs) hS (fun q _ h => h) (fun q h => h) (fun r1 u t H1 locs1 ht hvm hpost hB hz hk hS1 => by
    obtain ⟨rfl, rfl⟩ := hpost
    exact k hl (ok_c (v := vL _) trivial HR) H1 locs1 la (by rw [← ht]; exact hB.1) hS1 hL)
theorem r_callN_l (C : Cx G p s m args meth c ret nL own cc) {r : Int64} (hd : decode cc pc = .ok (.invokestatic index, 3)) (hM : Sp G l y bytes maxL ret' rm as σ (va_Ql (fun a b => a = r ∧ b = σ') (Wd G) (AG G))) (hw1 : (own, index, y) ∈ nsM) (hw2 : Cond.static y ∈ TB) (hw3 : Cond.initialized y.cls ∈ TB) (hw4 : Cond.code y bytes maxL ret' ∈ TB) (hy : y.cls ≠ "java/lang/invoke/MethodHandle" ∧ y.cls ≠ "java/lang/invoke/VarHandle" ∧ (parseMethodDescriptor y.desc).map (fun d => d.parameters.length) = some as.length) (hR : rm.frames + 1 ≤ R.frames ∧ 8 + (maxL + 11) + rm.locals ≤ R.locals) (hrm : rm.cells = 0 ∧ rm.slots = 0) (hcs : cells ≤ R.cells ∧ slots ≤ R.slots) (h0 : st0 = as.reverse ++ st) (hst : ((st.map (tv G.1)).map fun v => v.category).sum ≤ 8) (k : Rt G p l e R s m args below meth c cells slots Q nL (pc + 3) ls (vL r :: st) σ') : Rt G p l e R s m args below meth c cells slots Q nL pc ls st0 σ := by
  intro hl hs H locs la hP hS hL
  subst h0
  have HA : ∀ v ∈ as, okv v := fun v hv => (ok_a hs).1 v (List.mem_reverse.mpr hv)
  have HR : ∀ v ∈ st, okv v := (ok_a hs).2
  have hM := hM HA
  exact va_calll (va_runSN (As := as.map (tv G.1)) (rest := st.map (tv G.1)) (Ts := TB) (host := "DropsDance") ⟨C.1, C.2.1, C.2.2.1, C.2.2.2.1, C.2.2.2.2.1⟩ hM ⟨va_cnB as.length C.2.2.2.2.1 (TB_good (fun _ h => h) hw4) rfl hrm.1 hrm.2 (C.2.2.2.2.2.2.2.1.2.2.2.2.2.2.1 _ hw1) (C.2.2.2.2.1 _ hw3) hy hR, C.2.2.2.2.1 _ hw2, trivial⟩ ⟨fun a U g mk q => ⟨q.1, Wd_call q.2⟩, fun U hU hW => ⟨rfl, Wd_of C hP hS hU hW⟩⟩ rfl (by simp) hL.1 (by simp [F0]) (lv_room hst) hd hcs) hS (fun q _ h => h) (fun q h => h) (fun r1 u t H1 locs1 ht hvm hpost hB hz hk hS1 => by
    obtain ⟨rfl, rfl⟩ := hpost
    exact k hl (ok_c (v := vL _) trivial HR) H1 locs1 la (by rw [← ht]; exact hB.1) hS1 hL)
theorem r_callV_l (C : Cx G p s m args meth c ret nL own cc) {r : Int64} {d : Id3} {ci N : Nat} {E : String} {T : u_T} (hd : decode cc pc = .ok (.invokevirtual index, 3)) (hM : Sp G l y bytes maxL ret' rm (vR d :: as) σ (va_Ql (fun a b => a = r ∧ b = σ') (Wd G) (AG G))) (hk : dk d.1 = (0, ci, N)) (hc : vwCl[ci]? = some (E, T, N)) (hE : y.cls = E) (h1 : d.1 < 100) (hw1 : Cond.methodLink own index y ∈ TB) (hw2 : Cond.instanceMethod y ∈ TB) (hw5 : Cond.selects E y y ∈ TB) (hw3 : Cond.initialized y.cls ∈ TB) (hw4 : Cond.code y bytes maxL ret' ∈ TB) (hy : y.cls ≠ "java/lang/invoke/MethodHandle" ∧ y.cls ≠ "java/lang/invoke/VarHandle" ∧ (parseMethodDescriptor y.desc).map (fun d => d.parameters.length) = some as.length) (hR : rm.frames + 1 ≤ R.frames ∧ 8 + (maxL + 11) + rm.locals ≤ R.locals) (hrm : rm.cells = 0 ∧ rm.slots = 0) (hcs : cells ≤ R.cells ∧ slots ≤ R.slots) (h0 : st0 = as.reverse ++ (vR d :: st)) (hst : ((st.map (tv G.1)).map fun v => v.category).sum ≤ 8) (k : Rt G p l e R s m args below meth c cells slots Q nL (pc + 3) ls (vL r :: st) σ') : Rt G p l e R s m args below meth c cells slots Q nL pc ls st0 σ := by
  intro hl hs H locs la hP hS hL
  subst h0
  have HD : okv (vR d) := ok_h (ok_a hs).2
  have HA : ∀ v ∈ vR d :: as, okv v := ok_c HD (fun v hv => (ok_a hs).1 v (List.mem_reverse.mpr hv))
  have HR : ∀ v ∈ st, okv v := ok_t (ok_a hs).2
  have hM := hM HA
  obtain ⟨kk, g1, g2⟩ := ws_at (G := G) (HD h1) σ
  rw [en_O hk] at g2
  exact va_calll (va_runV (C := E) (b := G.1 d) (As := as.map (tv G.1)) (rest := st.map (tv G.1)) (Ts := TB) ⟨C.1, C.2.1, C.2.2.1, C.2.2.2.1, C.2.2.2.2.1⟩ hM ⟨callB_of as.length C.2.2.2.2.1 (TB_good (fun _ h => h) hw4) rfl hrm.1 hrm.2 (C.2.2.2.2.1 _ hw3) (C.2.2.2.2.1 _ hw1) hy hR, C.2.2.2.2.1 _ hw2, C.2.2.2.2.1 _ hw5⟩ ⟨fun a U g mk q => ⟨q.1, Wd_call q.2⟩, va_recv C.2.2.2.2.2.1 hP hc g2, fun U hU hW => ⟨rfl, Wd_of C hP hS hU hW⟩⟩ rfl (by simp) hL.1 (by simp [F0, tv]) (lv_room hst) hd hcs) hS (fun q _ h => h) (fun q h => h) (fun r1 u t H1 locs1 ht hvm hpost hB hz hk hS1 => by
    obtain ⟨rfl, rfl⟩ := hpost
    exact k hl (ok_c (v := vL _) trivial HR) H1 locs1 la (by rw [← ht]; exact hB.1) hS1 hL)
theorem r_callS_v (C : Cx G p s m args meth c ret nL own cc)  (hd : decode cc pc = .ok (.invokestatic index, 3)) (hM : Sp G l y bytes maxL ret' rm as σ (va_Qv (fun b => b = σ') (Wd G) (AG G))) (hw1 : Cond.methodLink own index y ∈ TB) (hw2 : Cond.static y ∈ TB) (hw3 : Cond.initialized y.cls ∈ TB) (hw4 : Cond.code y bytes maxL ret' ∈ TB) (hy : y.cls ≠ "java/lang/invoke/MethodHandle" ∧ y.cls ≠ "java/lang/invoke/VarHandle" ∧ (parseMethodDescriptor y.desc).map (fun d => d.parameters.length) = some as.length) (hR : rm.frames + 1 ≤ R.frames ∧ 8 + (maxL + 11) + rm.locals ≤ R.locals) (hrm : rm.cells = 0 ∧ rm.slots = 0) (hcs : cells ≤ R.cells ∧ slots ≤ R.slots) (h0 : st0 = as.reverse ++ st) (hst : ((st.map (tv G.1)).map fun v => v.category).sum ≤ 8) (k : Rt G p l e R s m args below meth c cells slots Q nL (pc + 3) ls st σ') : Rt G p l e R s m args below meth c cells slots Q nL pc ls st0 σ := by
  intro hl hs H locs la hP hS hL
  subst h0
  have HA : ∀ v ∈ as, okv v := fun v hv => (ok_a hs).1 v (List.mem_reverse.mpr hv)
  have HR : ∀ v ∈ st, okv v := (ok_a hs).2
  have hM := hM HA
  exact va_callv (va_runS (As := as.map (tv G.1)) (rest := st.map (tv G.1)) (Ts := TB) ⟨C.1, C.2.1, C.2.2.1, C.2.2.2.1, C.2.2.2.2.1⟩ hM ⟨callB_of as.length C.2.2.2.2.1 (TB_good (fun _ h => h) hw4) rfl hrm.1 hrm.2 (C.2.2.2.2.1 _ hw3) (C.2.2.2.2.1 _ hw1) hy hR, C.2.2.2.2.1 _ hw2⟩ ⟨fun a U g mk q => ⟨q.1, Wd_call q.2⟩, fun U hU hW => ⟨rfl, Wd_of C hP hS hU hW⟩⟩ rfl (by simp) hL.1 (by simp [F0]) (lv_room hst) hd hcs) hS (fun q _ h => h) (fun q h => h) (fun u t H1 locs1 ht hvm hpost hB hz hk hS1 => by
    subst hpost
    exact k hl HR H1 locs1 la (by rw [← ht]; exact hB.1) hS1 hL)
theorem r_callN_v (C : Cx G p s m args meth c ret nL own cc)  (hd : decode cc pc = .ok (.invokestatic index, 3)) (hM : Sp G l y bytes maxL ret' rm as σ (va_Qv (fun b => b = σ') (Wd G) (AG G))) (hw1 : (own, index, y) ∈ nsM) (hw2 : Cond.static y ∈ TB) (hw3 : Cond.initialized y.cls ∈ TB) (hw4 : Cond.code y bytes maxL ret' ∈ TB) (hy : y.cls ≠ "java/lang/invoke/MethodHandle" ∧ y.cls ≠ "java/lang/invoke/VarHandle" ∧ (parseMethodDescriptor y.desc).map (fun d => d.parameters.length) = some as.length) (hR : rm.frames + 1 ≤ R.frames ∧ 8 + (maxL + 11) + rm.locals ≤ R.locals) (hrm : rm.cells = 0 ∧ rm.slots = 0) (hcs : cells ≤ R.cells ∧ slots ≤ R.slots) (h0 : st0 = as.reverse ++ st) (hst : ((st.map (tv G.1)).map fun v => v.category).sum ≤ 8) (k : Rt G p l e R s m args below meth c cells slots Q nL (pc + 3) ls st σ') : Rt G p l e R s m args below meth c cells slots Q nL pc ls st0 σ := by
  intro hl hs H locs la hP hS hL
  subst h0
  have HA : ∀ v ∈ as, okv v := fun v hv => (ok_a hs).1 v (List.mem_reverse.mpr hv)
  have HR : ∀ v ∈ st, okv v := (ok_a hs).2
  have hM := hM HA
  exact va_callv (va_runSN (As := as.map (tv G.1)) (rest := st.map (tv G.1)) (Ts := TB) (host := "DropsDance") ⟨C.1, C.2.1, C.2.2.1, C.2.2.2.1, C.2.2.2.2.1⟩ hM ⟨va_cnB as.length C.2.2.2.2.1 (TB_good (fun _ h => h) hw4) rfl hrm.1 hrm.2 (C.2.2.2.2.2.2.2.1.2.2.2.2.2.2.1 _ hw1) (C.2.2.2.2.1 _ hw3) hy hR, C.2.2.2.2.1 _ hw2, trivial⟩ ⟨fun a U g mk q => ⟨q.1, Wd_call q.2⟩, fun U hU hW => ⟨rfl, Wd_of C hP hS hU hW⟩⟩ rfl (by simp) hL.1 (by simp [F0]) (lv_room hst) hd hcs) hS (fun q _ h => h) (fun q h => h) (fun u t H1 locs1 ht hvm hpost hB hz hk hS1 => by
    subst hpost
    exact k hl HR H1 locs1 la (by rw [← ht]; exact hB.1) hS1 hL)
theorem r_callV_v (C : Cx G p s m args meth c ret nL own cc)  {d : Id3} {ci N : Nat} {E : String} {T : u_T} (hd : decode cc pc = .ok (.invokevirtual index, 3)) (hM : Sp G l y bytes maxL ret' rm (vR d :: as) σ (va_Qv (fun b => b = σ') (Wd G) (AG G))) (hk : dk d.1 = (0, ci, N)) (hc : vwCl[ci]? = some (E, T, N)) (hE : y.cls = E) (h1 : d.1 < 100) (hw1 : Cond.methodLink own index y ∈ TB) (hw2 : Cond.instanceMethod y ∈ TB) (hw5 : Cond.selects E y y ∈ TB) (hw3 : Cond.initialized y.cls ∈ TB) (hw4 : Cond.code y bytes maxL ret' ∈ TB) (hy : y.cls ≠ "java/lang/invoke/MethodHandle" ∧ y.cls ≠ "java/lang/invoke/VarHandle" ∧ (parseMethodDescriptor y.desc).map (fun d => d.parameters.length) = some as.length) (hR : rm.frames + 1 ≤ R.frames ∧ 8 + (maxL + 11) + rm.locals ≤ R.locals) (hrm : rm.cells = 0 ∧ rm.slots = 0) (hcs : cells ≤ R.cells ∧ slots ≤ R.slots) (h0 : st0 = as.reverse ++ (vR d :: st)) (hst : ((st.map (tv G.1)).map fun v => v.category).sum ≤ 8) (k : Rt G p l e R s m args below meth c cells slots Q nL (pc + 3) ls st σ') : Rt G p l e R s m args below meth c cells slots Q nL pc ls st0 σ := by
  intro hl hs H locs la hP hS hL
  subst h0
  have HD : okv (vR d) := ok_h (ok_a hs).2
  have HA : ∀ v ∈ vR d :: as, okv v := ok_c HD (fun v hv => (ok_a hs).1 v (List.mem_reverse.mpr hv))
  have HR : ∀ v ∈ st, okv v := ok_t (ok_a hs).2
  have hM := hM HA
  obtain ⟨kk, g1, g2⟩ := ws_at (G := G) (HD h1) σ
  rw [en_O hk] at g2
  exact va_callv (va_runV (C := E) (b := G.1 d) (As := as.map (tv G.1)) (rest := st.map (tv G.1)) (Ts := TB) ⟨C.1, C.2.1, C.2.2.1, C.2.2.2.1, C.2.2.2.2.1⟩ hM ⟨callB_of as.length C.2.2.2.2.1 (TB_good (fun _ h => h) hw4) rfl hrm.1 hrm.2 (C.2.2.2.2.1 _ hw3) (C.2.2.2.2.1 _ hw1) hy hR, C.2.2.2.2.1 _ hw2, C.2.2.2.2.1 _ hw5⟩ ⟨fun a U g mk q => ⟨q.1, Wd_call q.2⟩, va_recv C.2.2.2.2.2.1 hP hc g2, fun U hU hW => ⟨rfl, Wd_of C hP hS hU hW⟩⟩ rfl (by simp) hL.1 (by simp [F0, tv]) (lv_room hst) hd hcs) hS (fun q _ h => h) (fun q h => h) (fun u t H1 locs1 ht hvm hpost hB hz hk hS1 => by
    subst hpost
    exact k hl HR H1 locs1 la (by rw [← ht]; exact hB.1) hS1 hL)
theorem r_callS_r (C : Cx G p s m args meth c ret nL own cc) {r : Id3} (hd : decode cc pc = .ok (.invokestatic index, 3)) (hM : Sp G l y bytes maxL ret' rm as σ (va_Qr (fun b => b = (σ', r)) (WdR G) (AG G))) (hw1 : Cond.methodLink own index y ∈ TB) (hw2 : Cond.static y ∈ TB) (hw3 : Cond.initialized y.cls ∈ TB) (hw4 : Cond.code y bytes maxL ret' ∈ TB) (hy : y.cls ≠ "java/lang/invoke/MethodHandle" ∧ y.cls ≠ "java/lang/invoke/VarHandle" ∧ (parseMethodDescriptor y.desc).map (fun d => d.parameters.length) = some as.length) (hR : rm.frames + 1 ≤ R.frames ∧ 8 + (maxL + 11) + rm.locals ≤ R.locals) (hrm : rm.cells = 0 ∧ rm.slots = 0) (hcs : cells ≤ R.cells ∧ slots ≤ R.slots) (h0 : st0 = as.reverse ++ st) (hst : ((st.map (tv G.1)).map fun v => v.category).sum ≤ 8) (k : Rt G p l e R s m args below meth c cells slots Q nL (pc + 3) ls (vR r :: st) σ') : Rt G p l e R s m args below meth c cells slots Q nL pc ls st0 σ := by
  intro hl hs H locs la hP hS hL
  subst h0
  have HA : ∀ v ∈ as, okv v := fun v hv => (ok_a hs).1 v (List.mem_reverse.mpr hv)
  have HR : ∀ v ∈ st, okv v := (ok_a hs).2
  have hM := hM HA
  exact va_callr (va_runS (As := as.map (tv G.1)) (rest := st.map (tv G.1)) (Ts := TB) ⟨C.1, C.2.1, C.2.2.1, C.2.2.2.1, C.2.2.2.2.1⟩ hM ⟨callB_of as.length C.2.2.2.2.1 (TB_good (fun _ h => h) hw4) rfl hrm.1 hrm.2 (C.2.2.2.2.1 _ hw3) (C.2.2.2.2.1 _ hw1) hy hR, C.2.2.2.2.1 _ hw2⟩ ⟨fun a U g mk q => ⟨q.1, Wd_call q.2⟩, fun U hU hW => ⟨rfl, Wd_of C hP hS hU hW⟩⟩ rfl (by simp) hL.1 (by simp [F0]) (lv_room hst) hd hcs) hS (fun q _ h => h) (fun q h => h) (fun u ra t H1 locs1 ht hvm hpost hB hz hk hS1 => by
    subst hpost
    obtain ⟨hB1, rfl, hB3⟩ := hB
    exact k hl (ok_c hB3 HR) H1 locs1 la (by rw [← ht]; exact hB1.1) hS1 hL)
theorem r_callN_r (C : Cx G p s m args meth c ret nL own cc) {r : Id3} (hd : decode cc pc = .ok (.invokestatic index, 3)) (hM : Sp G l y bytes maxL ret' rm as σ (va_Qr (fun b => b = (σ', r)) (WdR G) (AG G))) (hw1 : (own, index, y) ∈ nsM) (hw2 : Cond.static y ∈ TB) (hw3 : Cond.initialized y.cls ∈ TB) (hw4 : Cond.code y bytes maxL ret' ∈ TB) (hy : y.cls ≠ "java/lang/invoke/MethodHandle" ∧ y.cls ≠ "java/lang/invoke/VarHandle" ∧ (parseMethodDescriptor y.desc).map (fun d => d.parameters.length) = some as.length) (hR : rm.frames + 1 ≤ R.frames ∧ 8 + (maxL + 11) + rm.locals ≤ R.locals) (hrm : rm.cells = 0 ∧ rm.slots = 0) (hcs : cells ≤ R.cells ∧ slots ≤ R.slots) (h0 : st0 = as.reverse ++ st) (hst : ((st.map (tv G.1)).map fun v => v.category).sum ≤ 8) (k : Rt G p l e R s m args below meth c cells slots Q nL (pc + 3) ls (vR r :: st) σ') : Rt G p l e R s m args below meth c cells slots Q nL pc ls st0 σ := by
  intro hl hs H locs la hP hS hL
  subst h0
  have HA : ∀ v ∈ as, okv v := fun v hv => (ok_a hs).1 v (List.mem_reverse.mpr hv)
  have HR : ∀ v ∈ st, okv v := (ok_a hs).2
  have hM := hM HA
  exact va_callr (va_runSN (As := as.map (tv G.1)) (rest := st.map (tv G.1)) (Ts := TB) (host := "DropsDance") ⟨C.1, C.2.1, C.2.2.1, C.2.2.2.1, C.2.2.2.2.1⟩ hM ⟨va_cnB as.length C.2.2.2.2.1 (TB_good (fun _ h => h) hw4) rfl hrm.1 hrm.2 (C.2.2.2.2.2.2.2.1.2.2.2.2.2.2.1 _ hw1) (C.2.2.2.2.1 _ hw3) hy hR, C.2.2.2.2.1 _ hw2, trivial⟩ ⟨fun a U g mk q => ⟨q.1, Wd_call q.2⟩, fun U hU hW => ⟨rfl, Wd_of C hP hS hU hW⟩⟩ rfl (by simp) hL.1 (by simp [F0]) (lv_room hst) hd hcs) hS (fun q _ h => h) (fun q h => h) (fun u ra t H1 locs1 ht hvm hpost hB hz hk hS1 => by
    subst hpost
    obtain ⟨hB1, rfl, hB3⟩ := hB
    exact k hl (ok_c hB3 HR) H1 locs1 la (by rw [← ht]; exact hB1.1) hS1 hL)
theorem r_callV_r (C : Cx G p s m args meth c ret nL own cc) {r : Id3} {d : Id3} {ci N : Nat} {E : String} {T : u_T} (hd : decode cc pc = .ok (.invokevirtual index, 3)) (hM : Sp G l y bytes maxL ret' rm (vR d :: as) σ (va_Qr (fun b => b = (σ', r)) (WdR G) (AG G))) (hk : dk d.1 = (0, ci, N)) (hc : vwCl[ci]? = some (E, T, N)) (hE : y.cls = E) (h1 : d.1 < 100) (hw1 : Cond.methodLink own index y ∈ TB) (hw2 : Cond.instanceMethod y ∈ TB) (hw5 : Cond.selects E y y ∈ TB) (hw3 : Cond.initialized y.cls ∈ TB) (hw4 : Cond.code y bytes maxL ret' ∈ TB) (hy : y.cls ≠ "java/lang/invoke/MethodHandle" ∧ y.cls ≠ "java/lang/invoke/VarHandle" ∧ (parseMethodDescriptor y.desc).map (fun d => d.parameters.length) = some as.length) (hR : rm.frames + 1 ≤ R.frames ∧ 8 + (maxL + 11) + rm.locals ≤ R.locals) (hrm : rm.cells = 0 ∧ rm.slots = 0) (hcs : cells ≤ R.cells ∧ slots ≤ R.slots) (h0 : st0 = as.reverse ++ (vR d :: st)) (hst : ((st.map (tv G.1)).map fun v => v.category).sum ≤ 8) (k : Rt G p l e R s m args below meth c cells slots Q nL (pc + 3) ls (vR r :: st) σ') : Rt G p l e R s m args below meth c cells slots Q nL pc ls st0 σ := by
  intro hl hs H locs la hP hS hL
  subst h0
  have HD : okv (vR d) := ok_h (ok_a hs).2
  have HA : ∀ v ∈ vR d :: as, okv v := ok_c HD (fun v hv => (ok_a hs).1 v (List.mem_reverse.mpr hv))
  have HR : ∀ v ∈ st, okv v := ok_t (ok_a hs).2
  have hM := hM HA
  obtain ⟨kk, g1, g2⟩ := ws_at (G := G) (HD h1) σ
  rw [en_O hk] at g2
  exact va_callr (va_runV (C := E) (b := G.1 d) (As := as.map (tv G.1)) (rest := st.map (tv G.1)) (Ts := TB) ⟨C.1, C.2.1, C.2.2.1, C.2.2.2.1, C.2.2.2.2.1⟩ hM ⟨callB_of as.length C.2.2.2.2.1 (TB_good (fun _ h => h) hw4) rfl hrm.1 hrm.2 (C.2.2.2.2.1 _ hw3) (C.2.2.2.2.1 _ hw1) hy hR, C.2.2.2.2.1 _ hw2, C.2.2.2.2.1 _ hw5⟩ ⟨fun a U g mk q => ⟨q.1, Wd_call q.2⟩, va_recv C.2.2.2.2.2.1 hP hc g2, fun U hU hW => ⟨rfl, Wd_of C hP hS hU hW⟩⟩ rfl (by simp) hL.1 (by simp [F0, tv]) (lv_room hst) hd hcs) hS (fun q _ h => h) (fun q h => h) (fun u ra t H1 locs1 ht hvm hpost hB hz hk hS1 => by
    subst hpost
    obtain ⟨hB1, rfl, hB3⟩ := hB
    exact k hl (ok_c hB3 HR) H1 locs1 la (by rw [← ht]; exact hB1.1) hS1 hL)
end CALLS
end
