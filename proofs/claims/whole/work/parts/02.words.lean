/-- the words: those of the tables that a callee may be handed -/
def TB : List Cond := lw_tbl.filter goodWord
theorem TB_in {w : Cond} (h : w ∈ TB) : w ∈ lw_tbl := (List.mem_filter.mp h).1
theorem TB_good {y : MethodName} {cc : ByteArray} {n : Nat} {r : Option FieldType} {big : List Cond} (hb : ∀ w ∈ TB, w ∈ big) (hc : Cond.code y cc n r ∈ TB) : GoodIn big (Cond.code y cc n r :: TB) := by
  intro w hw
  have hm : w ∈ TB := by
    rcases List.mem_cons.mp hw with rfl | h
    · exact hc
    · exact h
  exact ⟨hb w hm, good_of_word (List.mem_filter.mp hm).2⟩
theorem tb_in1 {i : Nat} {w : Cond} (h : tables_1_1[i]? = some w) (g : goodWord w = true) : w ∈ TB := List.mem_filter.mpr ⟨List.mem_append_right _ (List.mem_append_left _ (List.mem_of_getElem? h)), g⟩
theorem tb_in2 {i : Nat} {w : Cond} (h : tables_1_2[i]? = some w) (g : goodWord w = true) : w ∈ TB := List.mem_filter.mpr ⟨List.mem_append_right _ (List.mem_append_right _ (List.mem_append_left _ (List.mem_of_getElem? h))), g⟩
theorem tb_in3 {i : Nat} {w : Cond} (h : tables_1_3[i]? = some w) (g : goodWord w = true) : w ∈ TB := List.mem_filter.mpr ⟨List.mem_append_right _ (List.mem_append_right _ (List.mem_append_right _ (List.mem_append_left _ (List.mem_of_getElem? h)))), g⟩
theorem tb_in4 {i : Nat} {w : Cond} (h : tables_1_4[i]? = some w) (g : goodWord w = true) : w ∈ TB := List.mem_filter.mpr ⟨List.mem_append_right _ (List.mem_append_right _ (List.mem_append_right _ (List.mem_append_right _ (List.mem_append_left _ (List.mem_of_getElem? h))))), g⟩
theorem tb_in5 {i : Nat} {w : Cond} (h : tables_1_5[i]? = some w) (g : goodWord w = true) : w ∈ TB := List.mem_filter.mpr ⟨List.mem_append_right _ (List.mem_append_right _ (List.mem_append_right _ (List.mem_append_right _ (List.mem_append_right _ (List.mem_append_left _ (List.mem_of_getElem? h)))))), g⟩
theorem tb_in6 {i : Nat} {w : Cond} (h : tables_1_6[i]? = some w) (g : goodWord w = true) : w ∈ TB := List.mem_filter.mpr ⟨List.mem_append_right _ (List.mem_append_right _ (List.mem_append_right _ (List.mem_append_right _ (List.mem_append_right _ (List.mem_append_right _ (List.mem_append_left _ (List.mem_of_getElem? h))))))), g⟩
theorem tb_in7 {i : Nat} {w : Cond} (h : tables_1_7[i]? = some w) (g : goodWord w = true) : w ∈ TB := List.mem_filter.mpr ⟨List.mem_append_right _ (List.mem_append_right _ (List.mem_append_right _ (List.mem_append_right _ (List.mem_append_right _ (List.mem_append_right _ (List.mem_append_right _ (List.mem_of_getElem? h))))))), g⟩
theorem tb_sel {y : MethodName} {n : Nat} (h : (y, n) ∈ lw_privs) (g : goodWord (Cond.selects y.cls y y) = true) : Cond.selects y.cls y y ∈ TB := List.mem_filter.mpr ⟨List.mem_append_left _ (List.mem_map.mpr ⟨(y, n), h, rfl⟩), g⟩
theorem t_1_0 : Jvm.Cond.initialized "DropsDanceLaw" ∈ TB := tb_in1 (i := 0) rfl rfl
theorem t_1_1 : Jvm.Cond.initialized "DropsDance" ∈ TB := tb_in1 (i := 1) rfl rfl
theorem t_1_2 : Jvm.Cond.initialized "DropsDance$TextReader" ∈ TB := tb_in1 (i := 2) rfl rfl
theorem t_1_3 : Jvm.Cond.initialized "DropsDance$Rules" ∈ TB := tb_in1 (i := 3) rfl rfl
theorem t_1_4 : Jvm.Cond.initialized "java/lang/System" ∈ TB := tb_in1 (i := 4) rfl rfl
theorem t_1_5 : Jvm.Cond.initialized "DropsDance$Scene" ∈ TB := tb_in1 (i := 5) rfl rfl
theorem t_1_6 : Jvm.Cond.initialized "java/util/Arrays" ∈ TB := tb_in1 (i := 6) rfl rfl
theorem t_1_7 : Jvm.Cond.initialized "DropsDance$Drop" ∈ TB := tb_in1 (i := 7) rfl rfl
theorem t_1_8 : Jvm.Cond.initialized "DropsDance$Loner" ∈ TB := tb_in1 (i := 8) rfl rfl
theorem t_1_9 : Jvm.Cond.initialized "DropsDance$Path" ∈ TB := tb_in1 (i := 9) rfl rfl
theorem t_1_10 : Jvm.Cond.initialized "DropsDance$Roller" ∈ TB := tb_in1 (i := 10) rfl rfl
theorem t_1_11 : Jvm.Cond.initialized "DropsDance$ToldLives" ∈ TB := tb_in1 (i := 11) rfl rfl
theorem t_1_12 : Jvm.Cond.initialized "DropsDance$Image" ∈ TB := tb_in1 (i := 12) rfl rfl
theorem t_1_13 : Jvm.Cond.initialized "DropsDance$Sheet" ∈ TB := tb_in1 (i := 13) rfl rfl
theorem t_1_14 : Jvm.Cond.initialized "DropsDanceModel" ∈ TB := tb_in1 (i := 14) rfl rfl
theorem t_1_15 : Jvm.Cond.initialized "java/lang/Math" ∈ TB := tb_in1 (i := 15) rfl rfl
theorem t_1_16 : Jvm.Cond.initialized "java/lang/String" ∈ TB := tb_in1 (i := 16) rfl rfl
theorem t_1_17 : Jvm.Cond.initialized "java/lang/StringLatin1" ∈ TB := tb_in1 (i := 17) rfl rfl
theorem t_1_18 : Jvm.Cond.initialized "jdk/internal/util/Preconditions" ∈ TB := tb_in1 (i := 18) rfl rfl
theorem t_1_19 : Jvm.Cond.initialized "java/lang/StringUTF16" ∈ TB := tb_in1 (i := 19) rfl rfl
theorem t_1_20 : Jvm.Cond.initialized "java/lang/Character" ∈ TB := tb_in1 (i := 20) rfl rfl
theorem t_1_21 : Jvm.Cond.classLink "DropsDanceLaw" (7 : Nat) "DropsDance" ∈ TB := tb_in1 (i := 21) rfl rfl
theorem t_1_22 : Jvm.Cond.instantiable "DropsDance" (12 : Nat) ∈ TB := tb_in1 (i := 22) rfl rfl
theorem t_1_23 : Jvm.Cond.methodLink "DropsDanceLaw" (9 : Nat) ({ cls := "DropsDance", name := "<init>", desc := "()V" } : Jvm.MethodName) ∈ TB := tb_in1 (i := 23) rfl rfl
theorem t_1_24 : Jvm.Cond.instanceMethod ({ cls := "DropsDance", name := "<init>", desc := "()V" } : Jvm.MethodName) ∈ TB := tb_in1 (i := 24) rfl rfl
theorem t_1_25 : Jvm.Cond.code ({ cls := "DropsDance", name := "<init>", desc := "()V" } : Jvm.MethodName) prog_1_method_1_code (2 : Nat) (Option.none : Option Jvm.ClassFile.FieldType) ∈ TB := tb_in1 (i := 25) rfl rfl
theorem t_1_26 : Jvm.Cond.methodLink "DropsDance" (1 : Nat) ({ cls := "java/lang/Object", name := "<init>", desc := "()V" } : Jvm.MethodName) ∈ TB := tb_in1 (i := 26) rfl rfl
theorem t_1_27 : Jvm.Cond.instanceMethod ({ cls := "java/lang/Object", name := "<init>", desc := "()V" } : Jvm.MethodName) ∈ TB := tb_in1 (i := 27) rfl rfl
theorem t_1_28 : Jvm.Cond.code ({ cls := "java/lang/Object", name := "<init>", desc := "()V" } : Jvm.MethodName) object_method_1_code (1 : Nat) (Option.none : Option Jvm.ClassFile.FieldType) ∈ TB := tb_in1 (i := 28) rfl rfl
theorem t_1_29 : Jvm.Cond.classLink "DropsDance" (7 : Nat) "DropsDance$TextReader" ∈ TB := tb_in1 (i := 29) rfl rfl
theorem t_1_30 : Jvm.Cond.instantiable "DropsDance$TextReader" (12 : Nat) ∈ TB := tb_in1 (i := 30) rfl rfl
theorem t_1_32 : Jvm.Cond.instanceMethod ({ cls := "DropsDance$TextReader", name := "<init>", desc := "()V" } : Jvm.MethodName) ∈ TB := tb_in1 (i := 32) rfl rfl
theorem t_1_33 : Jvm.Cond.code ({ cls := "DropsDance$TextReader", name := "<init>", desc := "()V" } : Jvm.MethodName) prog_10_method_1_code (1 : Nat) (Option.none : Option Jvm.ClassFile.FieldType) ∈ TB := tb_in1 (i := 33) rfl rfl
theorem t_1_34 : Jvm.Cond.methodLink "DropsDance$TextReader" (3 : Nat) ({ cls := "java/lang/Object", name := "<init>", desc := "()V" } : Jvm.MethodName) ∈ TB := tb_in1 (i := 34) rfl rfl
theorem t_1_35 : Jvm.Cond.classLink "DropsDance$TextReader" (15 : Nat) "DropsDance$Rules" ∈ TB := tb_in1 (i := 35) rfl rfl
theorem t_1_36 : Jvm.Cond.instantiable "DropsDance$Rules" (1 : Nat) ∈ TB := tb_in1 (i := 36) rfl rfl
theorem t_1_37 : Jvm.Cond.methodLink "DropsDance$TextReader" (17 : Nat) ({ cls := "DropsDance$Rules", name := "<init>", desc := "()V" } : Jvm.MethodName) ∈ TB := tb_in1 (i := 37) rfl rfl
theorem t_1_38 : Jvm.Cond.instanceMethod ({ cls := "DropsDance$Rules", name := "<init>", desc := "()V" } : Jvm.MethodName) ∈ TB := tb_in1 (i := 38) rfl rfl
theorem t_1_39 : Jvm.Cond.code ({ cls := "DropsDance$Rules", name := "<init>", desc := "()V" } : Jvm.MethodName) prog_7_method_1_code (1 : Nat) (Option.none : Option Jvm.ClassFile.FieldType) ∈ TB := tb_in1 (i := 39) rfl rfl
theorem t_1_40 : Jvm.Cond.methodLink "DropsDance$Rules" (3 : Nat) ({ cls := "java/lang/Object", name := "<init>", desc := "()V" } : Jvm.MethodName) ∈ TB := tb_in1 (i := 40) rfl rfl
theorem t_1_41 : Jvm.Cond.methodLink "DropsDance$Rules" (15 : Nat) ({ cls := "DropsDance$Rules", name := "beginAnew", desc := "()V" } : Jvm.MethodName) ∈ TB := tb_in1 (i := 41) rfl rfl
theorem t_1_42 : Jvm.Cond.instanceMethod ({ cls := "DropsDance$Rules", name := "beginAnew", desc := "()V" } : Jvm.MethodName) ∈ TB := tb_in1 (i := 42) rfl rfl
theorem t_1_43 : Jvm.Cond.selects "DropsDance$Rules" ({ cls := "DropsDance$Rules", name := "beginAnew", desc := "()V" } : Jvm.MethodName) ({ cls := "DropsDance$Rules", name := "beginAnew", desc := "()V" } : Jvm.MethodName) ∈ TB := tb_in1 (i := 43) rfl rfl
theorem t_1_44 : Jvm.Cond.code ({ cls := "DropsDance$Rules", name := "beginAnew", desc := "()V" } : Jvm.MethodName) prog_7_method_2_code (1 : Nat) (Option.none : Option Jvm.ClassFile.FieldType) ∈ TB := tb_in1 (i := 44) rfl rfl
theorem t_1_47 : Jvm.Cond.methodLink "DropsDance$Rules" (21 : Nat) ({ cls := "java/lang/System", name := "arraycopy", desc := "(Ljava/lang/Object;ILjava/lang/Object;II)V" } : Jvm.MethodName) ∈ TB := tb_in1 (i := 47) rfl rfl
theorem t_1_48 : Jvm.Cond.static ({ cls := "java/lang/System", name := "arraycopy", desc := "(Ljava/lang/Object;ILjava/lang/Object;II)V" } : Jvm.MethodName) ∈ TB := tb_in1 (i := 48) rfl rfl
theorem t_1_49 : Jvm.Cond.native ({ cls := "java/lang/System", name := "arraycopy", desc := "(Ljava/lang/Object;ILjava/lang/Object;II)V" } : Jvm.MethodName) ∈ TB := tb_in1 (i := 49) rfl rfl
theorem t_1_50 : Jvm.Cond.fieldLink "DropsDance$Rules" (9 : Nat) "DropsDance$Rules" "values" "[I" ∈ TB := tb_in1 (i := 50) rfl rfl
theorem t_1_51 : Jvm.Cond.laysFinal "DropsDance$Rules" "DropsDance$Rules" "values" "[I" ∈ TB := tb_in1 (i := 51) rfl rfl
theorem t_1_54 : Jvm.Cond.arrayClass Jvm.ClassFile.FieldType.byte ∈ TB := tb_in1 (i := 54) rfl rfl
theorem t_1_55 : Jvm.Cond.arrayClass Jvm.ClassFile.FieldType.int ∈ TB := tb_in1 (i := 55) rfl rfl
theorem t_1_56 : Jvm.Cond.fieldLink "DropsDance$TextReader" (9 : Nat) "DropsDance$TextReader" "tape" "[B" ∈ TB := tb_in1 (i := 56) rfl rfl
theorem t_1_57 : Jvm.Cond.fieldLink "DropsDance" (82 : Nat) "DropsDance$TextReader" "tape" "[B" ∈ TB := tb_in1 (i := 57) rfl rfl
theorem t_1_58 : Jvm.Cond.fieldLink "DropsDance$TextReader" (18 : Nat) "DropsDance$TextReader" "rules" "LDropsDance$Rules;" ∈ TB := tb_in1 (i := 58) rfl rfl
theorem t_1_59 : Jvm.Cond.fieldLink "DropsDance" (100 : Nat) "DropsDance$TextReader" "rules" "LDropsDance$Rules;" ∈ TB := tb_in1 (i := 59) rfl rfl
theorem t_1_60 : Jvm.Cond.fieldLink "DropsDance$TextReader" (22 : Nat) "DropsDance$TextReader" "cells" "[I" ∈ TB := tb_in1 (i := 60) rfl rfl
theorem t_1_61 : Jvm.Cond.fieldLink "DropsDance" (105 : Nat) "DropsDance$TextReader" "cells" "[I" ∈ TB := tb_in1 (i := 61) rfl rfl
theorem t_1_62 : Jvm.Cond.fieldLink "DropsDance$TextReader" (26 : Nat) "DropsDance$TextReader" "ruleTold" "[Z" ∈ TB := tb_in1 (i := 62) rfl rfl
theorem t_1_63 : Jvm.Cond.fieldLink "DropsDance$TextReader" (30 : Nat) "DropsDance$TextReader" "length" "I" ∈ TB := tb_in1 (i := 63) rfl rfl
theorem t_1_64 : Jvm.Cond.fieldLink "DropsDance$TextReader" (34 : Nat) "DropsDance$TextReader" "next" "I" ∈ TB := tb_in1 (i := 64) rfl rfl
theorem t_1_65 : Jvm.Cond.fieldLink "DropsDance$TextReader" (37 : Nat) "DropsDance$TextReader" "rows" "I" ∈ TB := tb_in1 (i := 65) rfl rfl
theorem t_1_66 : Jvm.Cond.fieldLink "DropsDance$TextReader" (40 : Nat) "DropsDance$TextReader" "kind" "I" ∈ TB := tb_in1 (i := 66) rfl rfl
theorem t_1_67 : Jvm.Cond.fieldLink "DropsDance$TextReader" (43 : Nat) "DropsDance$TextReader" "start" "I" ∈ TB := tb_in1 (i := 67) rfl rfl
theorem t_1_68 : Jvm.Cond.fieldLink "DropsDance$TextReader" (46 : Nat) "DropsDance$TextReader" "lines" "I" ∈ TB := tb_in1 (i := 68) rfl rfl
theorem t_1_69 : Jvm.Cond.fieldLink "DropsDance" (120 : Nat) "DropsDance$TextReader" "lines" "I" ∈ TB := tb_in1 (i := 69) rfl rfl
theorem t_1_70 : Jvm.Cond.fieldLink "DropsDance$TextReader" (49 : Nat) "DropsDance$TextReader" "fault" "I" ∈ TB := tb_in1 (i := 70) rfl rfl
theorem t_1_71 : Jvm.Cond.fieldLink "DropsDance" (94 : Nat) "DropsDance$TextReader" "fault" "I" ∈ TB := tb_in1 (i := 71) rfl rfl
theorem t_1_72 : Jvm.Cond.fieldLink "DropsDance$TextReader" (52 : Nat) "DropsDance$TextReader" "place" "I" ∈ TB := tb_in1 (i := 72) rfl rfl
theorem t_1_73 : Jvm.Cond.fieldLink "DropsDance" (97 : Nat) "DropsDance$TextReader" "place" "I" ∈ TB := tb_in1 (i := 73) rfl rfl
theorem t_1_74 : Jvm.Cond.laysFinal "DropsDance$TextReader" "DropsDance$TextReader" "tape" "[B" ∈ TB := tb_in1 (i := 74) rfl rfl
theorem t_1_76 : Jvm.Cond.laysFinal "DropsDance$TextReader" "DropsDance$TextReader" "rules" "LDropsDance$Rules;" ∈ TB := tb_in1 (i := 76) rfl rfl
theorem t_1_78 : Jvm.Cond.laysFinal "DropsDance$TextReader" "DropsDance$TextReader" "cells" "[I" ∈ TB := tb_in1 (i := 78) rfl rfl
theorem t_1_80 : Jvm.Cond.laysFinal "DropsDance$TextReader" "DropsDance$TextReader" "ruleTold" "[Z" ∈ TB := tb_in1 (i := 80) rfl rfl
theorem t_1_82 : Jvm.Cond.lays "DropsDance$TextReader" "DropsDance$TextReader" "length" "I" ∈ TB := tb_in1 (i := 82) rfl rfl
theorem t_1_84 : Jvm.Cond.lays "DropsDance$TextReader" "DropsDance$TextReader" "next" "I" ∈ TB := tb_in1 (i := 84) rfl rfl
theorem t_1_86 : Jvm.Cond.lays "DropsDance$TextReader" "DropsDance$TextReader" "rows" "I" ∈ TB := tb_in1 (i := 86) rfl rfl
theorem t_1_88 : Jvm.Cond.lays "DropsDance$TextReader" "DropsDance$TextReader" "kind" "I" ∈ TB := tb_in1 (i := 88) rfl rfl
theorem t_1_90 : Jvm.Cond.lays "DropsDance$TextReader" "DropsDance$TextReader" "start" "I" ∈ TB := tb_in1 (i := 90) rfl rfl
theorem t_1_92 : Jvm.Cond.lays "DropsDance$TextReader" "DropsDance$TextReader" "lines" "I" ∈ TB := tb_in1 (i := 92) rfl rfl
theorem t_1_94 : Jvm.Cond.lays "DropsDance$TextReader" "DropsDance$TextReader" "fault" "I" ∈ TB := tb_in1 (i := 94) rfl rfl
theorem t_1_96 : Jvm.Cond.lays "DropsDance$TextReader" "DropsDance$TextReader" "place" "I" ∈ TB := tb_in1 (i := 96) rfl rfl
theorem t_1_99 : Jvm.Cond.arrayClass Jvm.ClassFile.FieldType.boolean ∈ TB := tb_in1 (i := 99) rfl rfl
theorem t_1_100 : Jvm.Cond.classLink "DropsDance" (23 : Nat) "DropsDance$Rules" ∈ TB := tb_in1 (i := 100) rfl rfl
theorem t_1_101 : Jvm.Cond.methodLink "DropsDance" (25 : Nat) ({ cls := "DropsDance$Rules", name := "<init>", desc := "()V" } : Jvm.MethodName) ∈ TB := tb_in1 (i := 101) rfl rfl
theorem t_1_102 : Jvm.Cond.classLink "DropsDance" (30 : Nat) "DropsDance$Scene" ∈ TB := tb_in1 (i := 102) rfl rfl
theorem t_1_103 : Jvm.Cond.instantiable "DropsDance$Scene" (11 : Nat) ∈ TB := tb_in1 (i := 103) rfl rfl
theorem t_1_104 : Jvm.Cond.methodLink "DropsDance" (32 : Nat) ({ cls := "DropsDance$Scene", name := "<init>", desc := "()V" } : Jvm.MethodName) ∈ TB := tb_in1 (i := 104) rfl rfl
theorem t_1_105 : Jvm.Cond.instanceMethod ({ cls := "DropsDance$Scene", name := "<init>", desc := "()V" } : Jvm.MethodName) ∈ TB := tb_in1 (i := 105) rfl rfl
theorem t_1_106 : Jvm.Cond.code ({ cls := "DropsDance$Scene", name := "<init>", desc := "()V" } : Jvm.MethodName) prog_8_method_1_code (2 : Nat) (Option.none : Option Jvm.ClassFile.FieldType) ∈ TB := tb_in1 (i := 106) rfl rfl
theorem t_1_107 : Jvm.Cond.methodLink "DropsDance$Scene" (3 : Nat) ({ cls := "java/lang/Object", name := "<init>", desc := "()V" } : Jvm.MethodName) ∈ TB := tb_in1 (i := 107) rfl rfl
theorem t_1_108 : Jvm.Cond.classLink "DropsDance$Scene" (15 : Nat) "DropsDance$Drop" ∈ TB := tb_in1 (i := 108) rfl rfl
theorem t_1_110 : Jvm.Cond.methodLink "DropsDance$Scene" (50 : Nat) ({ cls := "java/util/Arrays", name := "fill", desc := "([II)V" } : Jvm.MethodName) ∈ TB := tb_in1 (i := 110) rfl rfl
theorem t_1_111 : Jvm.Cond.static ({ cls := "java/util/Arrays", name := "fill", desc := "([II)V" } : Jvm.MethodName) ∈ TB := tb_in1 (i := 111) rfl rfl
theorem t_1_112 : Jvm.Cond.code ({ cls := "java/util/Arrays", name := "fill", desc := "([II)V" } : Jvm.MethodName) prog_20_method_103_code (4 : Nat) (Option.none : Option Jvm.ClassFile.FieldType) ∈ TB := tb_in1 (i := 112) rfl rfl
theorem t_1_113 : Jvm.Cond.instantiable "DropsDance$Drop" (6 : Nat) ∈ TB := tb_in1 (i := 113) rfl rfl
theorem t_1_115 : Jvm.Cond.instanceMethod ({ cls := "DropsDance$Drop", name := "<init>", desc := "()V" } : Jvm.MethodName) ∈ TB := tb_in1 (i := 115) rfl rfl
theorem t_1_116 : Jvm.Cond.code ({ cls := "DropsDance$Drop", name := "<init>", desc := "()V" } : Jvm.MethodName) prog_2_method_1_code (1 : Nat) (Option.none : Option Jvm.ClassFile.FieldType) ∈ TB := tb_in1 (i := 116) rfl rfl
theorem t_1_117 : Jvm.Cond.methodLink "DropsDance$Drop" (3 : Nat) ({ cls := "java/lang/Object", name := "<init>", desc := "()V" } : Jvm.MethodName) ∈ TB := tb_in1 (i := 117) rfl rfl
theorem t_1_118 : Jvm.Cond.fieldLink "DropsDance$Drop" (9 : Nat) "DropsDance$Drop" "cell" "I" ∈ TB := tb_in1 (i := 118) rfl rfl
theorem t_1_119 : Jvm.Cond.fieldLink "DropsDance$Path" (39 : Nat) "DropsDance$Drop" "cell" "I" ∈ TB := tb_in1 (i := 119) rfl rfl
theorem t_1_120 : Jvm.Cond.fieldLink "DropsDance$Loner" (56 : Nat) "DropsDance$Drop" "cell" "I" ∈ TB := tb_in1 (i := 120) rfl rfl
theorem t_1_121 : Jvm.Cond.fieldLink "DropsDance$Scene" (91 : Nat) "DropsDance$Drop" "cell" "I" ∈ TB := tb_in1 (i := 121) rfl rfl
theorem t_1_122 : Jvm.Cond.fieldLink "DropsDance" (173 : Nat) "DropsDance$Drop" "cell" "I" ∈ TB := tb_in1 (i := 122) rfl rfl
theorem t_1_123 : Jvm.Cond.fieldLink "DropsDance$Drop" (15 : Nat) "DropsDance$Drop" "size" "I" ∈ TB := tb_in1 (i := 123) rfl rfl
theorem t_1_124 : Jvm.Cond.fieldLink "DropsDance$Scene" (94 : Nat) "DropsDance$Drop" "size" "I" ∈ TB := tb_in1 (i := 124) rfl rfl
theorem t_1_125 : Jvm.Cond.fieldLink "DropsDance" (178 : Nat) "DropsDance$Drop" "size" "I" ∈ TB := tb_in1 (i := 125) rfl rfl
theorem t_1_126 : Jvm.Cond.fieldLink "DropsDance$Drop" (18 : Nat) "DropsDance$Drop" "way" "I" ∈ TB := tb_in1 (i := 126) rfl rfl
theorem t_1_127 : Jvm.Cond.fieldLink "DropsDance$Path" (42 : Nat) "DropsDance$Drop" "way" "I" ∈ TB := tb_in1 (i := 127) rfl rfl
theorem t_1_128 : Jvm.Cond.fieldLink "DropsDance" (181 : Nat) "DropsDance$Drop" "way" "I" ∈ TB := tb_in1 (i := 128) rfl rfl
theorem t_1_129 : Jvm.Cond.fieldLink "DropsDance$Scene" (146 : Nat) "DropsDance$Drop" "way" "I" ∈ TB := tb_in1 (i := 129) rfl rfl
theorem t_1_130 : Jvm.Cond.fieldLink "DropsDance$Drop" (21 : Nat) "DropsDance$Drop" "gone" "I" ∈ TB := tb_in1 (i := 130) rfl rfl
theorem t_1_131 : Jvm.Cond.fieldLink "DropsDance$Loner" (65 : Nat) "DropsDance$Drop" "gone" "I" ∈ TB := tb_in1 (i := 131) rfl rfl
theorem t_1_132 : Jvm.Cond.fieldLink "DropsDance$Scene" (88 : Nat) "DropsDance$Drop" "gone" "I" ∈ TB := tb_in1 (i := 132) rfl rfl
theorem t_1_133 : Jvm.Cond.fieldLink "DropsDance" (184 : Nat) "DropsDance$Drop" "gone" "I" ∈ TB := tb_in1 (i := 133) rfl rfl
theorem t_1_134 : Jvm.Cond.fieldLink "DropsDance$Drop" (24 : Nat) "DropsDance$Drop" "goneTick" "I" ∈ TB := tb_in1 (i := 134) rfl rfl
theorem t_1_135 : Jvm.Cond.fieldLink "DropsDance" (187 : Nat) "DropsDance$Drop" "goneTick" "I" ∈ TB := tb_in1 (i := 135) rfl rfl
theorem t_1_136 : Jvm.Cond.fieldLink "DropsDance$Scene" (117 : Nat) "DropsDance$Drop" "goneTick" "I" ∈ TB := tb_in1 (i := 136) rfl rfl
theorem t_1_137 : Jvm.Cond.fieldLink "DropsDance$Drop" (27 : Nat) "DropsDance$Drop" "joinedTo" "I" ∈ TB := tb_in1 (i := 137) rfl rfl
theorem t_1_138 : Jvm.Cond.fieldLink "DropsDance" (190 : Nat) "DropsDance$Drop" "joinedTo" "I" ∈ TB := tb_in1 (i := 138) rfl rfl
theorem t_1_139 : Jvm.Cond.fieldLink "DropsDance$Scene" (140 : Nat) "DropsDance$Drop" "joinedTo" "I" ∈ TB := tb_in1 (i := 139) rfl rfl
theorem t_1_140 : Jvm.Cond.lays "DropsDance$Drop" "DropsDance$Drop" "cell" "I" ∈ TB := tb_in1 (i := 140) rfl rfl
theorem t_1_142 : Jvm.Cond.lays "DropsDance$Drop" "DropsDance$Drop" "size" "I" ∈ TB := tb_in1 (i := 142) rfl rfl
theorem t_1_144 : Jvm.Cond.lays "DropsDance$Drop" "DropsDance$Drop" "way" "I" ∈ TB := tb_in1 (i := 144) rfl rfl
theorem t_1_146 : Jvm.Cond.lays "DropsDance$Drop" "DropsDance$Drop" "gone" "I" ∈ TB := tb_in1 (i := 146) rfl rfl
theorem t_1_148 : Jvm.Cond.lays "DropsDance$Drop" "DropsDance$Drop" "goneTick" "I" ∈ TB := tb_in1 (i := 148) rfl rfl
theorem t_1_150 : Jvm.Cond.lays "DropsDance$Drop" "DropsDance$Drop" "joinedTo" "I" ∈ TB := tb_in1 (i := 150) rfl rfl
theorem t_1_153 : Jvm.Cond.fieldLink "DropsDance$Scene" (9 : Nat) "DropsDance$Scene" "cells" "[I" ∈ TB := tb_in1 (i := 153) rfl rfl
theorem t_1_154 : Jvm.Cond.fieldLink "DropsDance$Loner" (84 : Nat) "DropsDance$Scene" "cells" "[I" ∈ TB := tb_in1 (i := 154) rfl rfl
theorem t_1_155 : Jvm.Cond.fieldLink "DropsDance" (137 : Nat) "DropsDance$Scene" "cells" "[I" ∈ TB := tb_in1 (i := 155) rfl rfl
theorem t_1_156 : Jvm.Cond.fieldLink "DropsDance$Scene" (17 : Nat) "DropsDance$Scene" "drops" "[LDropsDance$Drop;" ∈ TB := tb_in1 (i := 156) rfl rfl
theorem t_1_157 : Jvm.Cond.fieldLink "DropsDance$Loner" (52 : Nat) "DropsDance$Scene" "drops" "[LDropsDance$Drop;" ∈ TB := tb_in1 (i := 157) rfl rfl
theorem t_1_158 : Jvm.Cond.fieldLink "DropsDance" (169 : Nat) "DropsDance$Scene" "drops" "[LDropsDance$Drop;" ∈ TB := tb_in1 (i := 158) rfl rfl
theorem t_1_159 : Jvm.Cond.fieldLink "DropsDance$Scene" (21 : Nat) "DropsDance$Scene" "many" "I" ∈ TB := tb_in1 (i := 159) rfl rfl
theorem t_1_160 : Jvm.Cond.fieldLink "DropsDance" (339 : Nat) "DropsDance$Scene" "many" "I" ∈ TB := tb_in1 (i := 160) rfl rfl
theorem t_1_161 : Jvm.Cond.fieldLink "DropsDance$Scene" (25 : Nat) "DropsDance$Scene" "heat" "I" ∈ TB := tb_in1 (i := 161) rfl rfl
theorem t_1_162 : Jvm.Cond.fieldLink "DropsDance" (141 : Nat) "DropsDance$Scene" "heat" "I" ∈ TB := tb_in1 (i := 162) rfl rfl
theorem t_1_163 : Jvm.Cond.fieldLink "DropsDance$Scene" (28 : Nat) "DropsDance$Scene" "tick" "I" ∈ TB := tb_in1 (i := 163) rfl rfl
theorem t_1_164 : Jvm.Cond.fieldLink "DropsDance" (193 : Nat) "DropsDance$Scene" "tick" "I" ∈ TB := tb_in1 (i := 164) rfl rfl
theorem t_1_165 : Jvm.Cond.fieldLink "DropsDance$Scene" (31 : Nat) "DropsDance$Scene" "seed" "I" ∈ TB := tb_in1 (i := 165) rfl rfl
theorem t_1_166 : Jvm.Cond.fieldLink "DropsDance" (163 : Nat) "DropsDance$Scene" "seed" "I" ∈ TB := tb_in1 (i := 166) rfl rfl
theorem t_1_167 : Jvm.Cond.fieldLink "DropsDance$Scene" (34 : Nat) "DropsDance$Scene" "floating" "Z" ∈ TB := tb_in1 (i := 167) rfl rfl
theorem t_1_168 : Jvm.Cond.fieldLink "DropsDance" (144 : Nat) "DropsDance$Scene" "floating" "Z" ∈ TB := tb_in1 (i := 168) rfl rfl
theorem t_1_169 : Jvm.Cond.fieldLink "DropsDance$Scene" (38 : Nat) "DropsDance$Scene" "steam" "I" ∈ TB := tb_in1 (i := 169) rfl rfl
theorem t_1_170 : Jvm.Cond.fieldLink "DropsDance" (199 : Nat) "DropsDance$Scene" "steam" "I" ∈ TB := tb_in1 (i := 170) rfl rfl
theorem t_1_171 : Jvm.Cond.fieldLink "DropsDance$Scene" (41 : Nat) "DropsDance$Scene" "fallen" "I" ∈ TB := tb_in1 (i := 171) rfl rfl
theorem t_1_172 : Jvm.Cond.fieldLink "DropsDance" (202 : Nat) "DropsDance$Scene" "fallen" "I" ∈ TB := tb_in1 (i := 172) rfl rfl
theorem t_1_173 : Jvm.Cond.fieldLink "DropsDance$Scene" (44 : Nat) "DropsDance$Scene" "leapt" "I" ∈ TB := tb_in1 (i := 173) rfl rfl
theorem t_1_174 : Jvm.Cond.fieldLink "DropsDance" (205 : Nat) "DropsDance$Scene" "leapt" "I" ∈ TB := tb_in1 (i := 174) rfl rfl
theorem t_1_175 : Jvm.Cond.fieldLink "DropsDance$Scene" (47 : Nat) "DropsDance$Scene" "poured" "I" ∈ TB := tb_in1 (i := 175) rfl rfl
theorem t_1_176 : Jvm.Cond.fieldLink "DropsDance" (208 : Nat) "DropsDance$Scene" "poured" "I" ∈ TB := tb_in1 (i := 176) rfl rfl
theorem t_1_177 : Jvm.Cond.laysFinal "DropsDance$Scene" "DropsDance$Scene" "cells" "[I" ∈ TB := tb_in1 (i := 177) rfl rfl
theorem t_1_179 : Jvm.Cond.laysFinal "DropsDance$Scene" "DropsDance$Scene" "drops" "[LDropsDance$Drop;" ∈ TB := tb_in1 (i := 179) rfl rfl
theorem t_1_181 : Jvm.Cond.lays "DropsDance$Scene" "DropsDance$Scene" "many" "I" ∈ TB := tb_in1 (i := 181) rfl rfl
theorem t_1_183 : Jvm.Cond.lays "DropsDance$Scene" "DropsDance$Scene" "heat" "I" ∈ TB := tb_in1 (i := 183) rfl rfl
theorem t_1_185 : Jvm.Cond.lays "DropsDance$Scene" "DropsDance$Scene" "tick" "I" ∈ TB := tb_in1 (i := 185) rfl rfl
theorem t_1_187 : Jvm.Cond.lays "DropsDance$Scene" "DropsDance$Scene" "seed" "I" ∈ TB := tb_in1 (i := 187) rfl rfl
theorem t_1_189 : Jvm.Cond.lays "DropsDance$Scene" "DropsDance$Scene" "floating" "Z" ∈ TB := tb_in1 (i := 189) rfl rfl
theorem t_1_191 : Jvm.Cond.lays "DropsDance$Scene" "DropsDance$Scene" "steam" "I" ∈ TB := tb_in1 (i := 191) rfl rfl
theorem t_1_193 : Jvm.Cond.lays "DropsDance$Scene" "DropsDance$Scene" "fallen" "I" ∈ TB := tb_in1 (i := 193) rfl rfl
theorem t_1_195 : Jvm.Cond.lays "DropsDance$Scene" "DropsDance$Scene" "leapt" "I" ∈ TB := tb_in1 (i := 195) rfl rfl
theorem t_1_197 : Jvm.Cond.lays "DropsDance$Scene" "DropsDance$Scene" "poured" "I" ∈ TB := tb_in1 (i := 197) rfl rfl
theorem t_1_200 : Jvm.Cond.classLink "DropsDance" (37 : Nat) "DropsDance$Image" ∈ TB := tb_in1 (i := 200) rfl rfl
theorem t_1_202 : Jvm.Cond.classLink "DropsDance" (43 : Nat) "DropsDance$Loner" ∈ TB := tb_in1 (i := 202) rfl rfl
theorem t_1_203 : Jvm.Cond.instantiable "DropsDance$Loner" (9 : Nat) ∈ TB := tb_in1 (i := 203) rfl rfl
theorem t_1_205 : Jvm.Cond.instanceMethod ({ cls := "DropsDance$Loner", name := "<init>", desc := "()V" } : Jvm.MethodName) ∈ TB := tb_in1 (i := 205) rfl rfl
theorem t_1_206 : Jvm.Cond.code ({ cls := "DropsDance$Loner", name := "<init>", desc := "()V" } : Jvm.MethodName) prog_4_method_1_code (1 : Nat) (Option.none : Option Jvm.ClassFile.FieldType) ∈ TB := tb_in1 (i := 206) rfl rfl
theorem t_1_207 : Jvm.Cond.methodLink "DropsDance$Loner" (3 : Nat) ({ cls := "java/lang/Object", name := "<init>", desc := "()V" } : Jvm.MethodName) ∈ TB := tb_in1 (i := 207) rfl rfl
theorem t_1_208 : Jvm.Cond.classLink "DropsDance$Loner" (9 : Nat) "DropsDance$Scene" ∈ TB := tb_in1 (i := 208) rfl rfl
theorem t_1_209 : Jvm.Cond.methodLink "DropsDance$Loner" (11 : Nat) ({ cls := "DropsDance$Scene", name := "<init>", desc := "()V" } : Jvm.MethodName) ∈ TB := tb_in1 (i := 209) rfl rfl
theorem t_1_210 : Jvm.Cond.fieldLink "DropsDance$Loner" (12 : Nat) "DropsDance$Loner" "own" "LDropsDance$Scene;" ∈ TB := tb_in1 (i := 210) rfl rfl
theorem t_1_211 : Jvm.Cond.fieldLink "DropsDance$Loner" (18 : Nat) "DropsDance$Loner" "been" "[I" ∈ TB := tb_in1 (i := 211) rfl rfl
theorem t_1_212 : Jvm.Cond.fieldLink "DropsDance$Loner" (22 : Nat) "DropsDance$Loner" "worthTrying" "[I" ∈ TB := tb_in1 (i := 212) rfl rfl
theorem t_1_213 : Jvm.Cond.fieldLink "DropsDance$Loner" (25 : Nat) "DropsDance$Loner" "firstCell" "I" ∈ TB := tb_in1 (i := 213) rfl rfl
theorem t_1_214 : Jvm.Cond.fieldLink "DropsDance$Loner" (29 : Nat) "DropsDance$Loner" "firstSize" "I" ∈ TB := tb_in1 (i := 214) rfl rfl
theorem t_1_215 : Jvm.Cond.fieldLink "DropsDance$Loner" (32 : Nat) "DropsDance$Loner" "firstWay" "I" ∈ TB := tb_in1 (i := 215) rfl rfl
theorem t_1_216 : Jvm.Cond.fieldLink "DropsDance$Loner" (35 : Nat) "DropsDance$Loner" "bestTicks" "I" ∈ TB := tb_in1 (i := 216) rfl rfl
theorem t_1_217 : Jvm.Cond.fieldLink "DropsDance" (267 : Nat) "DropsDance$Loner" "bestTicks" "I" ∈ TB := tb_in1 (i := 217) rfl rfl
theorem t_1_218 : Jvm.Cond.fieldLink "DropsDance$Loner" (38 : Nat) "DropsDance$Loner" "bestCell" "I" ∈ TB := tb_in1 (i := 218) rfl rfl
theorem t_1_219 : Jvm.Cond.fieldLink "DropsDance" (270 : Nat) "DropsDance$Loner" "bestCell" "I" ∈ TB := tb_in1 (i := 219) rfl rfl
theorem t_1_220 : Jvm.Cond.fieldLink "DropsDance$Loner" (41 : Nat) "DropsDance$Loner" "bestKind" "I" ∈ TB := tb_in1 (i := 220) rfl rfl
theorem t_1_221 : Jvm.Cond.fieldLink "DropsDance" (273 : Nat) "DropsDance$Loner" "bestKind" "I" ∈ TB := tb_in1 (i := 221) rfl rfl
theorem t_1_222 : Jvm.Cond.laysFinal "DropsDance$Loner" "DropsDance$Loner" "own" "LDropsDance$Scene;" ∈ TB := tb_in1 (i := 222) rfl rfl
theorem t_1_224 : Jvm.Cond.laysFinal "DropsDance$Loner" "DropsDance$Loner" "been" "[I" ∈ TB := tb_in1 (i := 224) rfl rfl
theorem t_1_226 : Jvm.Cond.laysFinal "DropsDance$Loner" "DropsDance$Loner" "worthTrying" "[I" ∈ TB := tb_in1 (i := 226) rfl rfl
theorem t_1_228 : Jvm.Cond.lays "DropsDance$Loner" "DropsDance$Loner" "firstCell" "I" ∈ TB := tb_in1 (i := 228) rfl rfl
theorem t_1_230 : Jvm.Cond.lays "DropsDance$Loner" "DropsDance$Loner" "firstSize" "I" ∈ TB := tb_in1 (i := 230) rfl rfl
theorem t_1_232 : Jvm.Cond.lays "DropsDance$Loner" "DropsDance$Loner" "firstWay" "I" ∈ TB := tb_in1 (i := 232) rfl rfl
theorem t_1_234 : Jvm.Cond.lays "DropsDance$Loner" "DropsDance$Loner" "bestTicks" "I" ∈ TB := tb_in1 (i := 234) rfl rfl
theorem t_1_236 : Jvm.Cond.lays "DropsDance$Loner" "DropsDance$Loner" "bestCell" "I" ∈ TB := tb_in1 (i := 236) rfl rfl
theorem t_1_238 : Jvm.Cond.lays "DropsDance$Loner" "DropsDance$Loner" "bestKind" "I" ∈ TB := tb_in1 (i := 238) rfl rfl
theorem t_2_1 : Jvm.Cond.classLink "DropsDance" (50 : Nat) "DropsDance$Path" ∈ TB := tb_in2 (i := 1) rfl rfl
theorem t_2_2 : Jvm.Cond.instantiable "DropsDance$Path" (4 : Nat) ∈ TB := tb_in2 (i := 2) rfl rfl
theorem t_2_4 : Jvm.Cond.instanceMethod ({ cls := "DropsDance$Path", name := "<init>", desc := "()V" } : Jvm.MethodName) ∈ TB := tb_in2 (i := 4) rfl rfl
theorem t_2_5 : Jvm.Cond.code ({ cls := "DropsDance$Path", name := "<init>", desc := "()V" } : Jvm.MethodName) prog_5_method_1_code (1 : Nat) (Option.none : Option Jvm.ClassFile.FieldType) ∈ TB := tb_in2 (i := 5) rfl rfl
theorem t_2_6 : Jvm.Cond.methodLink "DropsDance$Path" (3 : Nat) ({ cls := "java/lang/Object", name := "<init>", desc := "()V" } : Jvm.MethodName) ∈ TB := tb_in2 (i := 6) rfl rfl
theorem t_2_7 : Jvm.Cond.classLink "DropsDance$Path" (9 : Nat) "DropsDance$Drop" ∈ TB := tb_in2 (i := 7) rfl rfl
theorem t_2_9 : Jvm.Cond.fieldLink "DropsDance$Path" (12 : Nat) "DropsDance$Path" "walker" "LDropsDance$Drop;" ∈ TB := tb_in2 (i := 9) rfl rfl
theorem t_2_10 : Jvm.Cond.fieldLink "DropsDance$Path" (18 : Nat) "DropsDance$Path" "seenAt" "[I" ∈ TB := tb_in2 (i := 10) rfl rfl
theorem t_2_11 : Jvm.Cond.fieldLink "DropsDance$Path" (22 : Nat) "DropsDance$Path" "ticksBefore" "I" ∈ TB := tb_in2 (i := 11) rfl rfl
theorem t_2_12 : Jvm.Cond.fieldLink "DropsDance" (244 : Nat) "DropsDance$Path" "ticksBefore" "I" ∈ TB := tb_in2 (i := 12) rfl rfl
theorem t_2_13 : Jvm.Cond.fieldLink "DropsDance$Path" (26 : Nat) "DropsDance$Path" "ticksRound" "I" ∈ TB := tb_in2 (i := 13) rfl rfl
theorem t_2_14 : Jvm.Cond.fieldLink "DropsDance" (247 : Nat) "DropsDance$Path" "ticksRound" "I" ∈ TB := tb_in2 (i := 14) rfl rfl
theorem t_2_15 : Jvm.Cond.laysFinal "DropsDance$Path" "DropsDance$Path" "walker" "LDropsDance$Drop;" ∈ TB := tb_in2 (i := 15) rfl rfl
theorem t_2_17 : Jvm.Cond.laysFinal "DropsDance$Path" "DropsDance$Path" "seenAt" "[I" ∈ TB := tb_in2 (i := 17) rfl rfl
theorem t_2_19 : Jvm.Cond.lays "DropsDance$Path" "DropsDance$Path" "ticksBefore" "I" ∈ TB := tb_in2 (i := 19) rfl rfl
theorem t_2_21 : Jvm.Cond.lays "DropsDance$Path" "DropsDance$Path" "ticksRound" "I" ∈ TB := tb_in2 (i := 21) rfl rfl
theorem t_2_24 : Jvm.Cond.classLink "DropsDance" (57 : Nat) "DropsDance$Roller" ∈ TB := tb_in2 (i := 24) rfl rfl
theorem t_2_25 : Jvm.Cond.instantiable "DropsDance$Roller" (2 : Nat) ∈ TB := tb_in2 (i := 25) rfl rfl
theorem t_2_27 : Jvm.Cond.instanceMethod ({ cls := "DropsDance$Roller", name := "<init>", desc := "()V" } : Jvm.MethodName) ∈ TB := tb_in2 (i := 27) rfl rfl
theorem t_2_28 : Jvm.Cond.code ({ cls := "DropsDance$Roller", name := "<init>", desc := "()V" } : Jvm.MethodName) prog_6_method_1_code (1 : Nat) (Option.none : Option Jvm.ClassFile.FieldType) ∈ TB := tb_in2 (i := 28) rfl rfl
theorem t_2_29 : Jvm.Cond.methodLink "DropsDance$Roller" (3 : Nat) ({ cls := "java/lang/Object", name := "<init>", desc := "()V" } : Jvm.MethodName) ∈ TB := tb_in2 (i := 29) rfl rfl
theorem t_2_30 : Jvm.Cond.fieldLink "DropsDance$Roller" (9 : Nat) "DropsDance$Roller" "courses" "[J" ∈ TB := tb_in2 (i := 30) rfl rfl
theorem t_2_31 : Jvm.Cond.fieldLink "DropsDance$Roller" (15 : Nat) "DropsDance$Roller" "coursesNext" "[J" ∈ TB := tb_in2 (i := 31) rfl rfl
theorem t_2_32 : Jvm.Cond.laysFinal "DropsDance$Roller" "DropsDance$Roller" "courses" "[J" ∈ TB := tb_in2 (i := 32) rfl rfl
theorem t_2_34 : Jvm.Cond.laysFinal "DropsDance$Roller" "DropsDance$Roller" "coursesNext" "[J" ∈ TB := tb_in2 (i := 34) rfl rfl
theorem t_2_37 : Jvm.Cond.arrayClass Jvm.ClassFile.FieldType.long ∈ TB := tb_in2 (i := 37) rfl rfl
theorem t_2_38 : Jvm.Cond.classLink "DropsDance" (64 : Nat) "DropsDance$ToldLives" ∈ TB := tb_in2 (i := 38) rfl rfl
theorem t_2_39 : Jvm.Cond.instantiable "DropsDance$ToldLives" (5 : Nat) ∈ TB := tb_in2 (i := 39) rfl rfl
theorem t_2_41 : Jvm.Cond.instanceMethod ({ cls := "DropsDance$ToldLives", name := "<init>", desc := "()V" } : Jvm.MethodName) ∈ TB := tb_in2 (i := 41) rfl rfl
theorem t_2_42 : Jvm.Cond.code ({ cls := "DropsDance$ToldLives", name := "<init>", desc := "()V" } : Jvm.MethodName) prog_11_method_1_code (1 : Nat) (Option.none : Option Jvm.ClassFile.FieldType) ∈ TB := tb_in2 (i := 42) rfl rfl
theorem t_2_43 : Jvm.Cond.methodLink "DropsDance$ToldLives" (3 : Nat) ({ cls := "java/lang/Object", name := "<init>", desc := "()V" } : Jvm.MethodName) ∈ TB := tb_in2 (i := 43) rfl rfl
theorem t_2_44 : Jvm.Cond.fieldLink "DropsDance$ToldLives" (9 : Nat) "DropsDance$ToldLives" "sizes" "[I" ∈ TB := tb_in2 (i := 44) rfl rfl
theorem t_2_45 : Jvm.Cond.fieldLink "DropsDance$ToldLives" (15 : Nat) "DropsDance$ToldLives" "heats" "[I" ∈ TB := tb_in2 (i := 45) rfl rfl
theorem t_2_46 : Jvm.Cond.fieldLink "DropsDance$ToldLives" (18 : Nat) "DropsDance$ToldLives" "lives" "[I" ∈ TB := tb_in2 (i := 46) rfl rfl
theorem t_2_47 : Jvm.Cond.fieldLink "DropsDance$ToldLives" (21 : Nat) "DropsDance$ToldLives" "fromBelow" "[Z" ∈ TB := tb_in2 (i := 47) rfl rfl
theorem t_2_48 : Jvm.Cond.fieldLink "DropsDance$ToldLives" (25 : Nat) "DropsDance$ToldLives" "many" "I" ∈ TB := tb_in2 (i := 48) rfl rfl
theorem t_2_49 : Jvm.Cond.fieldLink "DropsDance" (113 : Nat) "DropsDance$ToldLives" "many" "I" ∈ TB := tb_in2 (i := 49) rfl rfl
theorem t_2_50 : Jvm.Cond.laysFinal "DropsDance$ToldLives" "DropsDance$ToldLives" "sizes" "[I" ∈ TB := tb_in2 (i := 50) rfl rfl
theorem t_2_52 : Jvm.Cond.laysFinal "DropsDance$ToldLives" "DropsDance$ToldLives" "heats" "[I" ∈ TB := tb_in2 (i := 52) rfl rfl
theorem t_2_54 : Jvm.Cond.laysFinal "DropsDance$ToldLives" "DropsDance$ToldLives" "lives" "[I" ∈ TB := tb_in2 (i := 54) rfl rfl
theorem t_2_56 : Jvm.Cond.laysFinal "DropsDance$ToldLives" "DropsDance$ToldLives" "fromBelow" "[Z" ∈ TB := tb_in2 (i := 56) rfl rfl
theorem t_2_58 : Jvm.Cond.lays "DropsDance$ToldLives" "DropsDance$ToldLives" "many" "I" ∈ TB := tb_in2 (i := 58) rfl rfl
theorem t_2_61 : Jvm.Cond.classLink "DropsDance" (71 : Nat) "DropsDance$Sheet" ∈ TB := tb_in2 (i := 61) rfl rfl
theorem t_2_63 : Jvm.Cond.instantiable "DropsDance$Image" (2 : Nat) ∈ TB := tb_in2 (i := 63) rfl rfl
theorem t_2_65 : Jvm.Cond.instanceMethod ({ cls := "DropsDance$Image", name := "<init>", desc := "()V" } : Jvm.MethodName) ∈ TB := tb_in2 (i := 65) rfl rfl
theorem t_2_66 : Jvm.Cond.code ({ cls := "DropsDance$Image", name := "<init>", desc := "()V" } : Jvm.MethodName) prog_3_method_1_code (1 : Nat) (Option.none : Option Jvm.ClassFile.FieldType) ∈ TB := tb_in2 (i := 66) rfl rfl
theorem t_2_67 : Jvm.Cond.methodLink "DropsDance$Image" (1 : Nat) ({ cls := "java/lang/Object", name := "<init>", desc := "()V" } : Jvm.MethodName) ∈ TB := tb_in2 (i := 67) rfl rfl
theorem t_2_68 : Jvm.Cond.classLink "DropsDance$Image" (7 : Nat) "DropsDance$Scene" ∈ TB := tb_in2 (i := 68) rfl rfl
theorem t_2_69 : Jvm.Cond.methodLink "DropsDance$Image" (9 : Nat) ({ cls := "DropsDance$Scene", name := "<init>", desc := "()V" } : Jvm.MethodName) ∈ TB := tb_in2 (i := 69) rfl rfl
theorem t_2_70 : Jvm.Cond.fieldLink "DropsDance$Image" (10 : Nat) "DropsDance$Image" "scene" "LDropsDance$Scene;" ∈ TB := tb_in2 (i := 70) rfl rfl
theorem t_2_71 : Jvm.Cond.fieldLink "DropsDance" (218 : Nat) "DropsDance$Image" "scene" "LDropsDance$Scene;" ∈ TB := tb_in2 (i := 71) rfl rfl
theorem t_2_72 : Jvm.Cond.fieldLink "DropsDance$Image" (16 : Nat) "DropsDance$Image" "there" "Z" ∈ TB := tb_in2 (i := 72) rfl rfl
theorem t_2_73 : Jvm.Cond.fieldLink "DropsDance" (116 : Nat) "DropsDance$Image" "there" "Z" ∈ TB := tb_in2 (i := 73) rfl rfl
theorem t_2_74 : Jvm.Cond.laysFinal "DropsDance$Image" "DropsDance$Image" "scene" "LDropsDance$Scene;" ∈ TB := tb_in2 (i := 74) rfl rfl
theorem t_2_76 : Jvm.Cond.lays "DropsDance$Image" "DropsDance$Image" "there" "Z" ∈ TB := tb_in2 (i := 76) rfl rfl
theorem t_2_79 : Jvm.Cond.instantiable "DropsDance$Sheet" (3 : Nat) ∈ TB := tb_in2 (i := 79) rfl rfl
theorem t_2_81 : Jvm.Cond.instanceMethod ({ cls := "DropsDance$Sheet", name := "<init>", desc := "()V" } : Jvm.MethodName) ∈ TB := tb_in2 (i := 81) rfl rfl
theorem t_2_82 : Jvm.Cond.code ({ cls := "DropsDance$Sheet", name := "<init>", desc := "()V" } : Jvm.MethodName) prog_9_method_1_code (1 : Nat) (Option.none : Option Jvm.ClassFile.FieldType) ∈ TB := tb_in2 (i := 82) rfl rfl
theorem t_2_83 : Jvm.Cond.methodLink "DropsDance$Sheet" (3 : Nat) ({ cls := "java/lang/Object", name := "<init>", desc := "()V" } : Jvm.MethodName) ∈ TB := tb_in2 (i := 83) rfl rfl
theorem t_2_84 : Jvm.Cond.fieldLink "DropsDance$Sheet" (9 : Nat) "DropsDance$Sheet" "row" "[I" ∈ TB := tb_in2 (i := 84) rfl rfl
theorem t_2_85 : Jvm.Cond.fieldLink "DropsDance$Sheet" (15 : Nat) "DropsDance$Sheet" "lane" "I" ∈ TB := tb_in2 (i := 85) rfl rfl
theorem t_2_86 : Jvm.Cond.fieldLink "DropsDance" (352 : Nat) "DropsDance$Sheet" "lane" "I" ∈ TB := tb_in2 (i := 86) rfl rfl
theorem t_2_87 : Jvm.Cond.fieldLink "DropsDance$Sheet" (19 : Nat) "DropsDance$Sheet" "length" "I" ∈ TB := tb_in2 (i := 87) rfl rfl
theorem t_2_88 : Jvm.Cond.fieldLink "DropsDance" (355 : Nat) "DropsDance$Sheet" "length" "I" ∈ TB := tb_in2 (i := 88) rfl rfl
theorem t_2_89 : Jvm.Cond.laysFinal "DropsDance$Sheet" "DropsDance$Sheet" "row" "[I" ∈ TB := tb_in2 (i := 89) rfl rfl
theorem t_2_91 : Jvm.Cond.lays "DropsDance$Sheet" "DropsDance$Sheet" "lane" "I" ∈ TB := tb_in2 (i := 91) rfl rfl
theorem t_2_93 : Jvm.Cond.lays "DropsDance$Sheet" "DropsDance$Sheet" "length" "I" ∈ TB := tb_in2 (i := 93) rfl rfl
theorem t_2_96 : Jvm.Cond.fieldLink "DropsDance" (10 : Nat) "DropsDance" "reader" "LDropsDance$TextReader;" ∈ TB := tb_in2 (i := 96) rfl rfl
theorem t_2_97 : Jvm.Cond.fieldLink "DropsDance" (16 : Nat) "DropsDance" "tapeLength" "I" ∈ TB := tb_in2 (i := 97) rfl rfl
theorem t_2_98 : Jvm.Cond.fieldLink "DropsDance" (20 : Nat) "DropsDance" "textFault" "I" ∈ TB := tb_in2 (i := 98) rfl rfl
theorem t_2_99 : Jvm.Cond.fieldLink "DropsDance" (26 : Nat) "DropsDance" "rules" "LDropsDance$Rules;" ∈ TB := tb_in2 (i := 99) rfl rfl
theorem t_2_100 : Jvm.Cond.fieldLink "DropsDance" (33 : Nat) "DropsDance" "scene" "LDropsDance$Scene;" ∈ TB := tb_in2 (i := 100) rfl rfl
theorem t_2_101 : Jvm.Cond.fieldLink "DropsDance" (39 : Nat) "DropsDance" "images" "[LDropsDance$Image;" ∈ TB := tb_in2 (i := 101) rfl rfl
theorem t_2_102 : Jvm.Cond.fieldLink "DropsDance" (46 : Nat) "DropsDance" "loner" "LDropsDance$Loner;" ∈ TB := tb_in2 (i := 102) rfl rfl
theorem t_2_103 : Jvm.Cond.fieldLink "DropsDance" (53 : Nat) "DropsDance" "path" "LDropsDance$Path;" ∈ TB := tb_in2 (i := 103) rfl rfl
theorem t_2_104 : Jvm.Cond.fieldLink "DropsDance" (60 : Nat) "DropsDance" "roller" "LDropsDance$Roller;" ∈ TB := tb_in2 (i := 104) rfl rfl
theorem t_2_105 : Jvm.Cond.fieldLink "DropsDance" (67 : Nat) "DropsDance" "told" "LDropsDance$ToldLives;" ∈ TB := tb_in2 (i := 105) rfl rfl
theorem t_2_106 : Jvm.Cond.fieldLink "DropsDance" (73 : Nat) "DropsDance" "sheets" "[LDropsDance$Sheet;" ∈ TB := tb_in2 (i := 106) rfl rfl
theorem t_2_107 : Jvm.Cond.fieldLink "DropsDance" (77 : Nat) "DropsDance" "readFault" "I" ∈ TB := tb_in2 (i := 107) rfl rfl
theorem t_2_108 : Jvm.Cond.laysFinal "DropsDance" "DropsDance" "reader" "LDropsDance$TextReader;" ∈ TB := tb_in2 (i := 108) rfl rfl
theorem t_2_110 : Jvm.Cond.lays "DropsDance" "DropsDance" "tapeLength" "I" ∈ TB := tb_in2 (i := 110) rfl rfl
theorem t_2_112 : Jvm.Cond.lays "DropsDance" "DropsDance" "textFault" "I" ∈ TB := tb_in2 (i := 112) rfl rfl
theorem t_2_114 : Jvm.Cond.laysFinal "DropsDance" "DropsDance" "rules" "LDropsDance$Rules;" ∈ TB := tb_in2 (i := 114) rfl rfl
theorem t_2_116 : Jvm.Cond.laysFinal "DropsDance" "DropsDance" "scene" "LDropsDance$Scene;" ∈ TB := tb_in2 (i := 116) rfl rfl
theorem t_2_118 : Jvm.Cond.laysFinal "DropsDance" "DropsDance" "images" "[LDropsDance$Image;" ∈ TB := tb_in2 (i := 118) rfl rfl
theorem t_2_120 : Jvm.Cond.laysFinal "DropsDance" "DropsDance" "loner" "LDropsDance$Loner;" ∈ TB := tb_in2 (i := 120) rfl rfl
theorem t_2_122 : Jvm.Cond.laysFinal "DropsDance" "DropsDance" "path" "LDropsDance$Path;" ∈ TB := tb_in2 (i := 122) rfl rfl
theorem t_2_124 : Jvm.Cond.laysFinal "DropsDance" "DropsDance" "roller" "LDropsDance$Roller;" ∈ TB := tb_in2 (i := 124) rfl rfl
theorem t_2_126 : Jvm.Cond.laysFinal "DropsDance" "DropsDance" "told" "LDropsDance$ToldLives;" ∈ TB := tb_in2 (i := 126) rfl rfl
theorem t_2_128 : Jvm.Cond.laysFinal "DropsDance" "DropsDance" "sheets" "[LDropsDance$Sheet;" ∈ TB := tb_in2 (i := 128) rfl rfl
theorem t_2_130 : Jvm.Cond.lays "DropsDance" "DropsDance" "readFault" "I" ∈ TB := tb_in2 (i := 130) rfl rfl
theorem t_2_133 : Jvm.Cond.methodLink "DropsDanceLaw" (15 : Nat) ({ cls := "DropsDance", name := "feed", desc := "(J)I" } : Jvm.MethodName) ∈ TB := tb_in2 (i := 133) rfl rfl
theorem t_2_134 : Jvm.Cond.instanceMethod ({ cls := "DropsDance", name := "feed", desc := "(J)I" } : Jvm.MethodName) ∈ TB := tb_in2 (i := 134) rfl rfl
theorem t_2_135 : Jvm.Cond.selects "DropsDance" ({ cls := "DropsDance", name := "feed", desc := "(J)I" } : Jvm.MethodName) ({ cls := "DropsDance", name := "feed", desc := "(J)I" } : Jvm.MethodName) ∈ TB := tb_in2 (i := 135) rfl rfl
theorem t_2_136 : Jvm.Cond.code ({ cls := "DropsDance", name := "feed", desc := "(J)I" } : Jvm.MethodName) prog_1_method_2_code (4 : Nat) (Option.some Jvm.ClassFile.FieldType.int) ∈ TB := tb_in2 (i := 136) rfl rfl
theorem t_2_137 : Jvm.Cond.methodLink "DropsDanceLaw" (20 : Nat) ({ cls := "DropsDance", name := "end", desc := "(I)I" } : Jvm.MethodName) ∈ TB := tb_in2 (i := 137) rfl rfl
theorem t_2_138 : Jvm.Cond.instanceMethod ({ cls := "DropsDance", name := "end", desc := "(I)I" } : Jvm.MethodName) ∈ TB := tb_in2 (i := 138) rfl rfl
theorem t_2_139 : Jvm.Cond.selects "DropsDance" ({ cls := "DropsDance", name := "end", desc := "(I)I" } : Jvm.MethodName) ({ cls := "DropsDance", name := "end", desc := "(I)I" } : Jvm.MethodName) ∈ TB := tb_in2 (i := 139) rfl rfl
theorem t_2_140 : Jvm.Cond.code ({ cls := "DropsDance", name := "end", desc := "(I)I" } : Jvm.MethodName) prog_1_method_3_code (3 : Nat) (Option.some Jvm.ClassFile.FieldType.int) ∈ TB := tb_in2 (i := 140) rfl rfl
theorem t_2_141 : Jvm.Cond.methodLink "DropsDance" (86 : Nat) ({ cls := "DropsDance", name := "within", desc := "(III)Z" } : Jvm.MethodName) ∈ TB := tb_in2 (i := 141) rfl rfl
theorem t_2_142 : Jvm.Cond.static ({ cls := "DropsDance", name := "within", desc := "(III)Z" } : Jvm.MethodName) ∈ TB := tb_in2 (i := 142) rfl rfl
theorem t_2_143 : Jvm.Cond.code ({ cls := "DropsDance", name := "within", desc := "(III)Z" } : Jvm.MethodName) prog_1_method_40_code (3 : Nat) (Option.some Jvm.ClassFile.FieldType.boolean) ∈ TB := tb_in2 (i := 143) rfl rfl
theorem t_2_144 : Jvm.Cond.methodLink "DropsDanceLaw" (25 : Nat) ({ cls := "DropsDance", name := "text", desc := "()I" } : Jvm.MethodName) ∈ TB := tb_in2 (i := 144) rfl rfl
theorem t_2_145 : Jvm.Cond.instanceMethod ({ cls := "DropsDance", name := "text", desc := "()I" } : Jvm.MethodName) ∈ TB := tb_in2 (i := 145) rfl rfl
theorem t_2_146 : Jvm.Cond.selects "DropsDance" ({ cls := "DropsDance", name := "text", desc := "()I" } : Jvm.MethodName) ({ cls := "DropsDance", name := "text", desc := "()I" } : Jvm.MethodName) ∈ TB := tb_in2 (i := 146) rfl rfl
theorem t_2_147 : Jvm.Cond.code ({ cls := "DropsDance", name := "text", desc := "()I" } : Jvm.MethodName) prog_1_method_4_code (2 : Nat) (Option.some Jvm.ClassFile.FieldType.int) ∈ TB := tb_in2 (i := 147) rfl rfl
theorem t_2_148 : Jvm.Cond.methodLink "DropsDance" (90 : Nat) ({ cls := "DropsDance$TextReader", name := "readAll", desc := "(I)V" } : Jvm.MethodName) ∈ TB := tb_in2 (i := 148) rfl rfl
theorem t_2_149 : Jvm.Cond.instanceMethod ({ cls := "DropsDance$TextReader", name := "readAll", desc := "(I)V" } : Jvm.MethodName) ∈ TB := tb_in2 (i := 149) rfl rfl
theorem t_2_150 : Jvm.Cond.selects "DropsDance$TextReader" ({ cls := "DropsDance$TextReader", name := "readAll", desc := "(I)V" } : Jvm.MethodName) ({ cls := "DropsDance$TextReader", name := "readAll", desc := "(I)V" } : Jvm.MethodName) ∈ TB := tb_in2 (i := 150) rfl rfl
theorem t_2_151 : Jvm.Cond.code ({ cls := "DropsDance$TextReader", name := "readAll", desc := "(I)V" } : Jvm.MethodName) prog_10_method_2_code (3 : Nat) (Option.none : Option Jvm.ClassFile.FieldType) ∈ TB := tb_in2 (i := 151) rfl rfl
theorem t_2_152 : Jvm.Cond.methodLink "DropsDance$TextReader" (55 : Nat) ({ cls := "DropsDance$TextReader", name := "beginAnew", desc := "(I)V" } : Jvm.MethodName) ∈ TB := tb_in2 (i := 152) rfl rfl
theorem t_2_154 : Jvm.Cond.instanceMethod ({ cls := "DropsDance$TextReader", name := "beginAnew", desc := "(I)V" } : Jvm.MethodName) ∈ TB := tb_in2 (i := 154) rfl rfl
theorem t_2_155 : Jvm.Cond.code ({ cls := "DropsDance$TextReader", name := "beginAnew", desc := "(I)V" } : Jvm.MethodName) prog_10_method_3_code (3 : Nat) (Option.none : Option Jvm.ClassFile.FieldType) ∈ TB := tb_in2 (i := 155) rfl rfl
theorem t_2_156 : Jvm.Cond.methodLink "DropsDance$TextReader" (89 : Nat) ({ cls := "java/lang/Math", name := "min", desc := "(II)I" } : Jvm.MethodName) ∈ TB := tb_in2 (i := 156) rfl rfl
theorem t_2_157 : Jvm.Cond.static ({ cls := "java/lang/Math", name := "min", desc := "(II)I" } : Jvm.MethodName) ∈ TB := tb_in2 (i := 157) rfl rfl
theorem t_2_158 : Jvm.Cond.code ({ cls := "java/lang/Math", name := "min", desc := "(II)I" } : Jvm.MethodName) prog_15_method_69_code (2 : Nat) (Option.some Jvm.ClassFile.FieldType.int) ∈ TB := tb_in2 (i := 158) rfl rfl
theorem t_2_159 : Jvm.Cond.methodLink "DropsDance$TextReader" (95 : Nat) ({ cls := "DropsDance$Rules", name := "beginAnew", desc := "()V" } : Jvm.MethodName) ∈ TB := tb_in2 (i := 159) rfl rfl
theorem t_2_160 : Jvm.Cond.methodLink "DropsDance$TextReader" (97 : Nat) ({ cls := "java/util/Arrays", name := "fill", desc := "([II)V" } : Jvm.MethodName) ∈ TB := tb_in2 (i := 160) rfl rfl
theorem t_2_161 : Jvm.Cond.methodLink "DropsDance$TextReader" (59 : Nat) ({ cls := "DropsDance$TextReader", name := "readToken", desc := "()V" } : Jvm.MethodName) ∈ TB := tb_in2 (i := 161) rfl rfl
theorem t_2_163 : Jvm.Cond.instanceMethod ({ cls := "DropsDance$TextReader", name := "readToken", desc := "()V" } : Jvm.MethodName) ∈ TB := tb_in2 (i := 163) rfl rfl
theorem t_2_164 : Jvm.Cond.code ({ cls := "DropsDance$TextReader", name := "readToken", desc := "()V" } : Jvm.MethodName) prog_10_method_9_code (1 : Nat) (Option.none : Option Jvm.ClassFile.FieldType) ∈ TB := tb_in2 (i := 164) rfl rfl
theorem t_2_165 : Jvm.Cond.methodLink "DropsDance$TextReader" (105 : Nat) ({ cls := "DropsDance$TextReader", name := "byteAt", desc := "(I)I" } : Jvm.MethodName) ∈ TB := tb_in2 (i := 165) rfl rfl
theorem t_2_167 : Jvm.Cond.instanceMethod ({ cls := "DropsDance$TextReader", name := "byteAt", desc := "(I)I" } : Jvm.MethodName) ∈ TB := tb_in2 (i := 167) rfl rfl
theorem t_2_168 : Jvm.Cond.code ({ cls := "DropsDance$TextReader", name := "byteAt", desc := "(I)I" } : Jvm.MethodName) prog_10_method_11_code (2 : Nat) (Option.some Jvm.ClassFile.FieldType.int) ∈ TB := tb_in2 (i := 168) rfl rfl
theorem t_2_169 : Jvm.Cond.methodLink "DropsDance$TextReader" (125 : Nat) ({ cls := "DropsDance$TextReader", name := "kindOf", desc := "(I)I" } : Jvm.MethodName) ∈ TB := tb_in2 (i := 169) rfl rfl
theorem t_2_170 : Jvm.Cond.static ({ cls := "DropsDance$TextReader", name := "kindOf", desc := "(I)I" } : Jvm.MethodName) ∈ TB := tb_in2 (i := 170) rfl rfl
theorem t_2_171 : Jvm.Cond.code ({ cls := "DropsDance$TextReader", name := "kindOf", desc := "(I)I" } : Jvm.MethodName) prog_10_method_10_code (1 : Nat) (Option.some Jvm.ClassFile.FieldType.int) ∈ TB := tb_in2 (i := 171) rfl rfl
theorem t_2_172 : Jvm.Cond.methodLink "DropsDance$TextReader" (85 : Nat) ({ cls := "DropsDance$TextReader", name := "refuse", desc := "(II)V" } : Jvm.MethodName) ∈ TB := tb_in2 (i := 172) rfl rfl
theorem t_2_174 : Jvm.Cond.instanceMethod ({ cls := "DropsDance$TextReader", name := "refuse", desc := "(II)V" } : Jvm.MethodName) ∈ TB := tb_in2 (i := 174) rfl rfl
theorem t_2_175 : Jvm.Cond.code ({ cls := "DropsDance$TextReader", name := "refuse", desc := "(II)V" } : Jvm.MethodName) prog_10_method_4_code (3 : Nat) (Option.none : Option Jvm.ClassFile.FieldType) ∈ TB := tb_in2 (i := 175) rfl rfl
theorem t_2_177 : Jvm.Cond.methodLink "DropsDance$TextReader" (64 : Nat) ({ cls := "DropsDance$TextReader", name := "isName", desc := "(Ljava/lang/String;)Z" } : Jvm.MethodName) ∈ TB := tb_in2 (i := 177) rfl rfl
theorem t_2_179 : Jvm.Cond.instanceMethod ({ cls := "DropsDance$TextReader", name := "isName", desc := "(Ljava/lang/String;)Z" } : Jvm.MethodName) ∈ TB := tb_in2 (i := 179) rfl rfl
theorem t_2_180 : Jvm.Cond.code ({ cls := "DropsDance$TextReader", name := "isName", desc := "(Ljava/lang/String;)Z" } : Jvm.MethodName) prog_10_method_14_code (3 : Nat) (Option.some Jvm.ClassFile.FieldType.boolean) ∈ TB := tb_in2 (i := 180) rfl rfl
theorem t_2_181 : Jvm.Cond.methodLink "DropsDance$TextReader" (150 : Nat) ({ cls := "java/lang/String", name := "length", desc := "()I" } : Jvm.MethodName) ∈ TB := tb_in2 (i := 181) rfl rfl
theorem t_2_182 : Jvm.Cond.instanceMethod ({ cls := "java/lang/String", name := "length", desc := "()I" } : Jvm.MethodName) ∈ TB := tb_in2 (i := 182) rfl rfl
theorem t_2_183 : Jvm.Cond.selects "java/lang/String" ({ cls := "java/lang/String", name := "length", desc := "()I" } : Jvm.MethodName) ({ cls := "java/lang/String", name := "length", desc := "()I" } : Jvm.MethodName) ∈ TB := tb_in2 (i := 183) rfl rfl
theorem t_2_184 : Jvm.Cond.code ({ cls := "java/lang/String", name := "length", desc := "()I" } : Jvm.MethodName) prog_16_method_54_code (1 : Nat) (Option.some Jvm.ClassFile.FieldType.int) ∈ TB := tb_in2 (i := 184) rfl rfl
theorem t_2_185 : Jvm.Cond.methodLink "java/lang/String" (335 : Nat) ({ cls := "java/lang/String", name := "coder", desc := "()B" } : Jvm.MethodName) ∈ TB := tb_in2 (i := 185) rfl rfl
theorem t_2_186 : Jvm.Cond.instanceMethod ({ cls := "java/lang/String", name := "coder", desc := "()B" } : Jvm.MethodName) ∈ TB := tb_in2 (i := 186) rfl rfl
theorem t_2_187 : Jvm.Cond.selects "java/lang/String" ({ cls := "java/lang/String", name := "coder", desc := "()B" } : Jvm.MethodName) ({ cls := "java/lang/String", name := "coder", desc := "()B" } : Jvm.MethodName) ∈ TB := tb_in2 (i := 187) rfl rfl
theorem t_2_188 : Jvm.Cond.code ({ cls := "java/lang/String", name := "coder", desc := "()B" } : Jvm.MethodName) prog_16_method_152_code (1 : Nat) (Option.some Jvm.ClassFile.FieldType.byte) ∈ TB := tb_in2 (i := 188) rfl rfl
theorem t_2_189 : Jvm.Cond.fieldLink "java/lang/String" (38 : Nat) "java/lang/String" "COMPACT_STRINGS" "Z" ∈ TB := tb_in2 (i := 189) rfl rfl
theorem t_2_191 : Jvm.Cond.methodLink "DropsDance$TextReader" (152 : Nat) ({ cls := "java/lang/String", name := "charAt", desc := "(I)C" } : Jvm.MethodName) ∈ TB := tb_in2 (i := 191) rfl rfl
theorem t_2_192 : Jvm.Cond.instanceMethod ({ cls := "java/lang/String", name := "charAt", desc := "(I)C" } : Jvm.MethodName) ∈ TB := tb_in2 (i := 192) rfl rfl
theorem t_2_193 : Jvm.Cond.selects "java/lang/String" ({ cls := "java/lang/String", name := "charAt", desc := "(I)C" } : Jvm.MethodName) ({ cls := "java/lang/String", name := "charAt", desc := "(I)C" } : Jvm.MethodName) ∈ TB := tb_in2 (i := 193) rfl rfl
theorem t_2_194 : Jvm.Cond.code ({ cls := "java/lang/String", name := "charAt", desc := "(I)C" } : Jvm.MethodName) prog_16_method_56_code (2 : Nat) (Option.some Jvm.ClassFile.FieldType.char) ∈ TB := tb_in2 (i := 194) rfl rfl
theorem t_2_195 : Jvm.Cond.methodLink "java/lang/String" (492 : Nat) ({ cls := "java/lang/String", name := "isLatin1", desc := "()Z" } : Jvm.MethodName) ∈ TB := tb_in2 (i := 195) rfl rfl
theorem t_2_196 : Jvm.Cond.instanceMethod ({ cls := "java/lang/String", name := "isLatin1", desc := "()Z" } : Jvm.MethodName) ∈ TB := tb_in2 (i := 196) rfl rfl
theorem t_2_197 : Jvm.Cond.selects "java/lang/String" ({ cls := "java/lang/String", name := "isLatin1", desc := "()Z" } : Jvm.MethodName) ({ cls := "java/lang/String", name := "isLatin1", desc := "()Z" } : Jvm.MethodName) ∈ TB := tb_in2 (i := 197) rfl rfl
theorem t_2_198 : Jvm.Cond.code ({ cls := "java/lang/String", name := "isLatin1", desc := "()Z" } : Jvm.MethodName) prog_16_method_154_code (1 : Nat) (Option.some Jvm.ClassFile.FieldType.boolean) ∈ TB := tb_in2 (i := 198) rfl rfl
theorem t_2_199 : Jvm.Cond.methodLink "java/lang/String" (495 : Nat) ({ cls := "java/lang/StringLatin1", name := "charAt", desc := "([BI)C" } : Jvm.MethodName) ∈ TB := tb_in2 (i := 199) rfl rfl
theorem t_2_200 : Jvm.Cond.static ({ cls := "java/lang/StringLatin1", name := "charAt", desc := "([BI)C" } : Jvm.MethodName) ∈ TB := tb_in2 (i := 200) rfl rfl
theorem t_2_201 : Jvm.Cond.code ({ cls := "java/lang/StringLatin1", name := "charAt", desc := "([BI)C" } : Jvm.MethodName) prog_17_method_2_code (2 : Nat) (Option.some Jvm.ClassFile.FieldType.char) ∈ TB := tb_in2 (i := 201) rfl rfl
theorem t_2_202 : Jvm.Cond.methodLink "java/lang/StringLatin1" (9 : Nat) ({ cls := "java/lang/String", name := "checkIndex", desc := "(II)V" } : Jvm.MethodName) ∈ TB := tb_in2 (i := 202) rfl rfl
theorem t_2_203 : Jvm.Cond.static ({ cls := "java/lang/String", name := "checkIndex", desc := "(II)V" } : Jvm.MethodName) ∈ TB := tb_in2 (i := 203) rfl rfl
theorem t_2_204 : Jvm.Cond.code ({ cls := "java/lang/String", name := "checkIndex", desc := "(II)V" } : Jvm.MethodName) prog_16_method_155_code (2 : Nat) (Option.none : Option Jvm.ClassFile.FieldType) ∈ TB := tb_in2 (i := 204) rfl rfl
theorem t_2_205 : Jvm.Cond.fieldLink "java/lang/String" (1053 : Nat) "jdk/internal/util/Preconditions" "SIOOBE_FORMATTER" "Ljava/util/function/BiFunction;" ∈ TB := tb_in2 (i := 205) rfl rfl
theorem t_2_207 : Jvm.Cond.methodLink "java/lang/String" (1059 : Nat) ({ cls := "jdk/internal/util/Preconditions", name := "checkIndex", desc := "(IILjava/util/function/BiFunction;)I" } : Jvm.MethodName) ∈ TB := tb_in2 (i := 207) rfl rfl
theorem t_2_208 : Jvm.Cond.static ({ cls := "jdk/internal/util/Preconditions", name := "checkIndex", desc := "(IILjava/util/function/BiFunction;)I" } : Jvm.MethodName) ∈ TB := tb_in2 (i := 208) rfl rfl
theorem t_2_209 : Jvm.Cond.code ({ cls := "jdk/internal/util/Preconditions", name := "checkIndex", desc := "(IILjava/util/function/BiFunction;)I" } : Jvm.MethodName) prog_21_method_11_code (3 : Nat) (Option.some Jvm.ClassFile.FieldType.int) ∈ TB := tb_in2 (i := 209) rfl rfl
theorem t_2_210 : Jvm.Cond.methodLink "java/lang/String" (498 : Nat) ({ cls := "java/lang/StringUTF16", name := "charAt", desc := "([BI)C" } : Jvm.MethodName) ∈ TB := tb_in2 (i := 210) rfl rfl
theorem t_2_211 : Jvm.Cond.static ({ cls := "java/lang/StringUTF16", name := "charAt", desc := "([BI)C" } : Jvm.MethodName) ∈ TB := tb_in2 (i := 211) rfl rfl
theorem t_2_212 : Jvm.Cond.code ({ cls := "java/lang/StringUTF16", name := "charAt", desc := "([BI)C" } : Jvm.MethodName) prog_18_method_83_code (2 : Nat) (Option.some Jvm.ClassFile.FieldType.char) ∈ TB := tb_in2 (i := 212) rfl rfl
theorem t_2_213 : Jvm.Cond.methodLink "java/lang/StringUTF16" (67 : Nat) ({ cls := "java/lang/StringUTF16", name := "checkIndex", desc := "(I[B)V" } : Jvm.MethodName) ∈ TB := tb_in2 (i := 213) rfl rfl
theorem t_2_214 : Jvm.Cond.static ({ cls := "java/lang/StringUTF16", name := "checkIndex", desc := "(I[B)V" } : Jvm.MethodName) ∈ TB := tb_in2 (i := 214) rfl rfl
theorem t_2_215 : Jvm.Cond.code ({ cls := "java/lang/StringUTF16", name := "checkIndex", desc := "(I[B)V" } : Jvm.MethodName) prog_18_method_91_code (2 : Nat) (Option.none : Option Jvm.ClassFile.FieldType) ∈ TB := tb_in2 (i := 215) rfl rfl
theorem t_2_216 : Jvm.Cond.methodLink "java/lang/StringUTF16" (48 : Nat) ({ cls := "java/lang/StringUTF16", name := "length", desc := "([B)I" } : Jvm.MethodName) ∈ TB := tb_in2 (i := 216) rfl rfl
theorem t_2_217 : Jvm.Cond.static ({ cls := "java/lang/StringUTF16", name := "length", desc := "([B)I" } : Jvm.MethodName) ∈ TB := tb_in2 (i := 217) rfl rfl
theorem t_2_218 : Jvm.Cond.code ({ cls := "java/lang/StringUTF16", name := "length", desc := "([B)I" } : Jvm.MethodName) prog_18_method_6_code (1 : Nat) (Option.some Jvm.ClassFile.FieldType.int) ∈ TB := tb_in2 (i := 218) rfl rfl
theorem t_2_219 : Jvm.Cond.methodLink "java/lang/StringUTF16" (414 : Nat) ({ cls := "java/lang/String", name := "checkIndex", desc := "(II)V" } : Jvm.MethodName) ∈ TB := tb_in2 (i := 219) rfl rfl
theorem t_2_220 : Jvm.Cond.methodLink "java/lang/StringUTF16" (71 : Nat) ({ cls := "java/lang/StringUTF16", name := "getChar", desc := "([BI)C" } : Jvm.MethodName) ∈ TB := tb_in2 (i := 220) rfl rfl
theorem t_2_221 : Jvm.Cond.static ({ cls := "java/lang/StringUTF16", name := "getChar", desc := "([BI)C" } : Jvm.MethodName) ∈ TB := tb_in2 (i := 221) rfl rfl
theorem t_2_222 : Jvm.Cond.code ({ cls := "java/lang/StringUTF16", name := "getChar", desc := "([BI)C" } : Jvm.MethodName) prog_18_method_5_code (2 : Nat) (Option.some Jvm.ClassFile.FieldType.char) ∈ TB := tb_in2 (i := 222) rfl rfl
theorem t_2_223 : Jvm.Cond.fieldLink "java/lang/StringUTF16" (44 : Nat) "java/lang/StringUTF16" "$assertionsDisabled" "Z" ∈ TB := tb_in2 (i := 223) rfl rfl
theorem t_2_225 : Jvm.Cond.fieldLink "java/lang/StringUTF16" (59 : Nat) "java/lang/StringUTF16" "HI_BYTE_SHIFT" "I" ∈ TB := tb_in2 (i := 225) rfl rfl
theorem t_2_227 : Jvm.Cond.fieldLink "java/lang/StringUTF16" (63 : Nat) "java/lang/StringUTF16" "LO_BYTE_SHIFT" "I" ∈ TB := tb_in2 (i := 227) rfl rfl
theorem t_2_229 : Jvm.Cond.methodLink "DropsDance$TextReader" (68 : Nat) ({ cls := "DropsDance$TextReader", name := "readRow", desc := "()V" } : Jvm.MethodName) ∈ TB := tb_in2 (i := 229) rfl rfl
theorem t_2_231 : Jvm.Cond.instanceMethod ({ cls := "DropsDance$TextReader", name := "readRow", desc := "()V" } : Jvm.MethodName) ∈ TB := tb_in2 (i := 231) rfl rfl
theorem t_2_232 : Jvm.Cond.code ({ cls := "DropsDance$TextReader", name := "readRow", desc := "()V" } : Jvm.MethodName) prog_10_method_5_code (3 : Nat) (Option.none : Option Jvm.ClassFile.FieldType) ∈ TB := tb_in2 (i := 232) rfl rfl
theorem t_2_233 : Jvm.Cond.methodLink "DropsDance$TextReader" (78 : Nat) ({ cls := "DropsDance$TextReader", name := "take", desc := "(I)V" } : Jvm.MethodName) ∈ TB := tb_in2 (i := 233) rfl rfl
theorem t_2_235 : Jvm.Cond.instanceMethod ({ cls := "DropsDance$TextReader", name := "take", desc := "(I)V" } : Jvm.MethodName) ∈ TB := tb_in2 (i := 235) rfl rfl
theorem t_2_236 : Jvm.Cond.code ({ cls := "DropsDance$TextReader", name := "take", desc := "(I)V" } : Jvm.MethodName) prog_10_method_8_code (2 : Nat) (Option.none : Option Jvm.ClassFile.FieldType) ∈ TB := tb_in2 (i := 236) rfl rfl
theorem t_2_238 : Jvm.Cond.methodLink "DropsDance$TextReader" (108 : Nat) ({ cls := "java/lang/String", name := "indexOf", desc := "(I)I" } : Jvm.MethodName) ∈ TB := tb_in2 (i := 238) rfl rfl
theorem t_2_239 : Jvm.Cond.instanceMethod ({ cls := "java/lang/String", name := "indexOf", desc := "(I)I" } : Jvm.MethodName) ∈ TB := tb_in2 (i := 239) rfl rfl
theorem t_3_0 : Jvm.Cond.selects "java/lang/String" ({ cls := "java/lang/String", name := "indexOf", desc := "(I)I" } : Jvm.MethodName) ({ cls := "java/lang/String", name := "indexOf", desc := "(I)I" } : Jvm.MethodName) ∈ TB := tb_in3 (i := 0) rfl rfl
theorem t_3_1 : Jvm.Cond.code ({ cls := "java/lang/String", name := "indexOf", desc := "(I)I" } : Jvm.MethodName) prog_16_method_79_code (2 : Nat) (Option.some Jvm.ClassFile.FieldType.int) ∈ TB := tb_in3 (i := 1) rfl rfl
theorem t_3_2 : Jvm.Cond.methodLink "java/lang/String" (633 : Nat) ({ cls := "java/lang/String", name := "indexOf", desc := "(II)I" } : Jvm.MethodName) ∈ TB := tb_in3 (i := 2) rfl rfl
theorem t_3_3 : Jvm.Cond.instanceMethod ({ cls := "java/lang/String", name := "indexOf", desc := "(II)I" } : Jvm.MethodName) ∈ TB := tb_in3 (i := 3) rfl rfl
theorem t_3_4 : Jvm.Cond.selects "java/lang/String" ({ cls := "java/lang/String", name := "indexOf", desc := "(II)I" } : Jvm.MethodName) ({ cls := "java/lang/String", name := "indexOf", desc := "(II)I" } : Jvm.MethodName) ∈ TB := tb_in3 (i := 4) rfl rfl
theorem t_3_5 : Jvm.Cond.code ({ cls := "java/lang/String", name := "indexOf", desc := "(II)I" } : Jvm.MethodName) prog_16_method_80_code (3 : Nat) (Option.some Jvm.ClassFile.FieldType.int) ∈ TB := tb_in3 (i := 5) rfl rfl
theorem t_3_6 : Jvm.Cond.methodLink "java/lang/String" (505 : Nat) ({ cls := "java/lang/String", name := "length", desc := "()I" } : Jvm.MethodName) ∈ TB := tb_in3 (i := 6) rfl rfl
theorem t_3_7 : Jvm.Cond.methodLink "java/lang/String" (637 : Nat) ({ cls := "java/lang/StringLatin1", name := "indexOf", desc := "([BIII)I" } : Jvm.MethodName) ∈ TB := tb_in3 (i := 7) rfl rfl
theorem t_3_8 : Jvm.Cond.static ({ cls := "java/lang/StringLatin1", name := "indexOf", desc := "([BIII)I" } : Jvm.MethodName) ∈ TB := tb_in3 (i := 8) rfl rfl
theorem t_3_9 : Jvm.Cond.code ({ cls := "java/lang/StringLatin1", name := "indexOf", desc := "([BIII)I" } : Jvm.MethodName) prog_17_method_22_code (4 : Nat) (Option.some Jvm.ClassFile.FieldType.int) ∈ TB := tb_in3 (i := 9) rfl rfl
theorem t_3_10 : Jvm.Cond.methodLink "java/lang/StringLatin1" (88 : Nat) ({ cls := "java/lang/StringLatin1", name := "canEncode", desc := "(I)Z" } : Jvm.MethodName) ∈ TB := tb_in3 (i := 10) rfl rfl
theorem t_3_11 : Jvm.Cond.static ({ cls := "java/lang/StringLatin1", name := "canEncode", desc := "(I)Z" } : Jvm.MethodName) ∈ TB := tb_in3 (i := 11) rfl rfl
theorem t_3_12 : Jvm.Cond.code ({ cls := "java/lang/StringLatin1", name := "canEncode", desc := "(I)Z" } : Jvm.MethodName) prog_17_method_4_code (1 : Nat) (Option.some Jvm.ClassFile.FieldType.boolean) ∈ TB := tb_in3 (i := 12) rfl rfl
theorem t_3_13 : Jvm.Cond.methodLink "java/lang/StringLatin1" (92 : Nat) ({ cls := "java/lang/Math", name := "max", desc := "(II)I" } : Jvm.MethodName) ∈ TB := tb_in3 (i := 13) rfl rfl
theorem t_3_14 : Jvm.Cond.static ({ cls := "java/lang/Math", name := "max", desc := "(II)I" } : Jvm.MethodName) ∈ TB := tb_in3 (i := 14) rfl rfl
theorem t_3_15 : Jvm.Cond.code ({ cls := "java/lang/Math", name := "max", desc := "(II)I" } : Jvm.MethodName) prog_15_method_65_code (2 : Nat) (Option.some Jvm.ClassFile.FieldType.int) ∈ TB := tb_in3 (i := 15) rfl rfl
theorem t_3_16 : Jvm.Cond.methodLink "java/lang/StringLatin1" (38 : Nat) ({ cls := "java/lang/Math", name := "min", desc := "(II)I" } : Jvm.MethodName) ∈ TB := tb_in3 (i := 16) rfl rfl
theorem t_3_17 : Jvm.Cond.methodLink "java/lang/StringLatin1" (95 : Nat) ({ cls := "java/lang/StringLatin1", name := "indexOfChar", desc := "([BIII)I" } : Jvm.MethodName) ∈ TB := tb_in3 (i := 17) rfl rfl
theorem t_3_18 : Jvm.Cond.static ({ cls := "java/lang/StringLatin1", name := "indexOfChar", desc := "([BIII)I" } : Jvm.MethodName) ∈ TB := tb_in3 (i := 18) rfl rfl
theorem t_3_19 : Jvm.Cond.code ({ cls := "java/lang/StringLatin1", name := "indexOfChar", desc := "([BIII)I" } : Jvm.MethodName) prog_17_method_23_code (6 : Nat) (Option.some Jvm.ClassFile.FieldType.int) ∈ TB := tb_in3 (i := 19) rfl rfl
theorem t_3_20 : Jvm.Cond.methodLink "java/lang/String" (640 : Nat) ({ cls := "java/lang/StringUTF16", name := "indexOf", desc := "([BIII)I" } : Jvm.MethodName) ∈ TB := tb_in3 (i := 20) rfl rfl
theorem t_3_21 : Jvm.Cond.static ({ cls := "java/lang/StringUTF16", name := "indexOf", desc := "([BIII)I" } : Jvm.MethodName) ∈ TB := tb_in3 (i := 21) rfl rfl
theorem t_3_22 : Jvm.Cond.code ({ cls := "java/lang/StringUTF16", name := "indexOf", desc := "([BIII)I" } : Jvm.MethodName) prog_18_method_40_code (4 : Nat) (Option.some Jvm.ClassFile.FieldType.int) ∈ TB := tb_in3 (i := 22) rfl rfl
theorem t_3_23 : Jvm.Cond.methodLink "java/lang/StringUTF16" (224 : Nat) ({ cls := "java/lang/Math", name := "max", desc := "(II)I" } : Jvm.MethodName) ∈ TB := tb_in3 (i := 23) rfl rfl
theorem t_3_24 : Jvm.Cond.methodLink "java/lang/StringUTF16" (183 : Nat) ({ cls := "java/lang/Math", name := "min", desc := "(II)I" } : Jvm.MethodName) ∈ TB := tb_in3 (i := 24) rfl rfl
theorem t_3_25 : Jvm.Cond.constant "java/lang/StringUTF16" (227 : Nat) (65536 : Int32) ∈ TB := tb_in3 (i := 25) rfl rfl
theorem t_3_26 : Jvm.Cond.methodLink "java/lang/StringUTF16" (228 : Nat) ({ cls := "java/lang/StringUTF16", name := "indexOfChar", desc := "([BIII)I" } : Jvm.MethodName) ∈ TB := tb_in3 (i := 26) rfl rfl
theorem t_3_27 : Jvm.Cond.static ({ cls := "java/lang/StringUTF16", name := "indexOfChar", desc := "([BIII)I" } : Jvm.MethodName) ∈ TB := tb_in3 (i := 27) rfl rfl
theorem t_3_28 : Jvm.Cond.code ({ cls := "java/lang/StringUTF16", name := "indexOfChar", desc := "([BIII)I" } : Jvm.MethodName) prog_18_method_47_code (4 : Nat) (Option.some Jvm.ClassFile.FieldType.int) ∈ TB := tb_in3 (i := 28) rfl rfl
theorem t_3_29 : Jvm.Cond.methodLink "java/lang/StringUTF16" (96 : Nat) ({ cls := "java/lang/StringUTF16", name := "checkBoundsBeginEnd", desc := "(II[B)V" } : Jvm.MethodName) ∈ TB := tb_in3 (i := 29) rfl rfl
theorem t_3_30 : Jvm.Cond.static ({ cls := "java/lang/StringUTF16", name := "checkBoundsBeginEnd", desc := "(II[B)V" } : Jvm.MethodName) ∈ TB := tb_in3 (i := 30) rfl rfl
theorem t_3_31 : Jvm.Cond.code ({ cls := "java/lang/StringUTF16", name := "checkBoundsBeginEnd", desc := "(II[B)V" } : Jvm.MethodName) prog_18_method_93_code (3 : Nat) (Option.none : Option Jvm.ClassFile.FieldType) ∈ TB := tb_in3 (i := 31) rfl rfl
theorem t_3_32 : Jvm.Cond.methodLink "java/lang/StringUTF16" (241 : Nat) ({ cls := "java/lang/String", name := "checkBoundsBeginEnd", desc := "(III)V" } : Jvm.MethodName) ∈ TB := tb_in3 (i := 32) rfl rfl
theorem t_3_33 : Jvm.Cond.static ({ cls := "java/lang/String", name := "checkBoundsBeginEnd", desc := "(III)V" } : Jvm.MethodName) ∈ TB := tb_in3 (i := 33) rfl rfl
theorem t_3_34 : Jvm.Cond.code ({ cls := "java/lang/String", name := "checkBoundsBeginEnd", desc := "(III)V" } : Jvm.MethodName) prog_16_method_158_code (3 : Nat) (Option.none : Option Jvm.ClassFile.FieldType) ∈ TB := tb_in3 (i := 34) rfl rfl
theorem t_3_35 : Jvm.Cond.methodLink "java/lang/String" (1062 : Nat) ({ cls := "jdk/internal/util/Preconditions", name := "checkFromToIndex", desc := "(IIILjava/util/function/BiFunction;)I" } : Jvm.MethodName) ∈ TB := tb_in3 (i := 35) rfl rfl
theorem t_3_36 : Jvm.Cond.static ({ cls := "jdk/internal/util/Preconditions", name := "checkFromToIndex", desc := "(IIILjava/util/function/BiFunction;)I" } : Jvm.MethodName) ∈ TB := tb_in3 (i := 36) rfl rfl
theorem t_3_37 : Jvm.Cond.code ({ cls := "jdk/internal/util/Preconditions", name := "checkFromToIndex", desc := "(IIILjava/util/function/BiFunction;)I" } : Jvm.MethodName) prog_21_method_12_code (4 : Nat) (Option.some Jvm.ClassFile.FieldType.int) ∈ TB := tb_in3 (i := 37) rfl rfl
theorem t_3_38 : Jvm.Cond.methodLink "java/lang/StringUTF16" (244 : Nat) ({ cls := "java/lang/StringUTF16", name := "indexOfCharUnsafe", desc := "([BIII)I" } : Jvm.MethodName) ∈ TB := tb_in3 (i := 38) rfl rfl
theorem t_3_39 : Jvm.Cond.static ({ cls := "java/lang/StringUTF16", name := "indexOfCharUnsafe", desc := "([BIII)I" } : Jvm.MethodName) ∈ TB := tb_in3 (i := 39) rfl rfl
theorem t_3_40 : Jvm.Cond.code ({ cls := "java/lang/StringUTF16", name := "indexOfCharUnsafe", desc := "([BIII)I" } : Jvm.MethodName) prog_18_method_48_code (5 : Nat) (Option.some Jvm.ClassFile.FieldType.int) ∈ TB := tb_in3 (i := 40) rfl rfl
theorem t_3_41 : Jvm.Cond.methodLink "java/lang/StringUTF16" (232 : Nat) ({ cls := "java/lang/StringUTF16", name := "indexOfSupplementary", desc := "([BIII)I" } : Jvm.MethodName) ∈ TB := tb_in3 (i := 41) rfl rfl
theorem t_3_42 : Jvm.Cond.static ({ cls := "java/lang/StringUTF16", name := "indexOfSupplementary", desc := "([BIII)I" } : Jvm.MethodName) ∈ TB := tb_in3 (i := 42) rfl rfl
theorem t_3_43 : Jvm.Cond.code ({ cls := "java/lang/StringUTF16", name := "indexOfSupplementary", desc := "([BIII)I" } : Jvm.MethodName) prog_18_method_49_code (7 : Nat) (Option.some Jvm.ClassFile.FieldType.int) ∈ TB := tb_in3 (i := 43) rfl rfl
theorem t_3_44 : Jvm.Cond.methodLink "java/lang/StringUTF16" (164 : Nat) ({ cls := "java/lang/Character", name := "isValidCodePoint", desc := "(I)Z" } : Jvm.MethodName) ∈ TB := tb_in3 (i := 44) rfl rfl
theorem t_3_45 : Jvm.Cond.static ({ cls := "java/lang/Character", name := "isValidCodePoint", desc := "(I)Z" } : Jvm.MethodName) ∈ TB := tb_in3 (i := 45) rfl rfl
theorem t_3_46 : Jvm.Cond.code ({ cls := "java/lang/Character", name := "isValidCodePoint", desc := "(I)Z" } : Jvm.MethodName) prog_14_method_11_code (2 : Nat) (Option.some Jvm.ClassFile.FieldType.boolean) ∈ TB := tb_in3 (i := 46) rfl rfl
theorem t_3_47 : Jvm.Cond.methodLink "java/lang/StringUTF16" (157 : Nat) ({ cls := "java/lang/Character", name := "highSurrogate", desc := "(I)C" } : Jvm.MethodName) ∈ TB := tb_in3 (i := 47) rfl rfl
theorem t_3_48 : Jvm.Cond.static ({ cls := "java/lang/Character", name := "highSurrogate", desc := "(I)C" } : Jvm.MethodName) ∈ TB := tb_in3 (i := 48) rfl rfl
theorem t_3_49 : Jvm.Cond.code ({ cls := "java/lang/Character", name := "highSurrogate", desc := "(I)C" } : Jvm.MethodName) prog_14_method_28_code (1 : Nat) (Option.some Jvm.ClassFile.FieldType.char) ∈ TB := tb_in3 (i := 49) rfl rfl
theorem t_3_50 : Jvm.Cond.constant "java/lang/Character" (110 : Nat) (55232 : Int32) ∈ TB := tb_in3 (i := 50) rfl rfl
theorem t_3_51 : Jvm.Cond.methodLink "java/lang/StringUTF16" (161 : Nat) ({ cls := "java/lang/Character", name := "lowSurrogate", desc := "(I)C" } : Jvm.MethodName) ∈ TB := tb_in3 (i := 51) rfl rfl
theorem t_3_52 : Jvm.Cond.static ({ cls := "java/lang/Character", name := "lowSurrogate", desc := "(I)C" } : Jvm.MethodName) ∈ TB := tb_in3 (i := 52) rfl rfl
theorem t_3_53 : Jvm.Cond.code ({ cls := "java/lang/Character", name := "lowSurrogate", desc := "(I)C" } : Jvm.MethodName) prog_14_method_29_code (1 : Nat) (Option.some Jvm.ClassFile.FieldType.char) ∈ TB := tb_in3 (i := 53) rfl rfl
theorem t_3_54 : Jvm.Cond.constant "java/lang/Character" (76 : Nat) (56320 : Int32) ∈ TB := tb_in3 (i := 54) rfl rfl
theorem t_3_55 : Jvm.Cond.methodLink "DropsDance$TextReader" (71 : Nat) ({ cls := "DropsDance$TextReader", name := "ruleNamed", desc := "()I" } : Jvm.MethodName) ∈ TB := tb_in3 (i := 55) rfl rfl
theorem t_3_57 : Jvm.Cond.instanceMethod ({ cls := "DropsDance$TextReader", name := "ruleNamed", desc := "()I" } : Jvm.MethodName) ∈ TB := tb_in3 (i := 57) rfl rfl
theorem t_3_58 : Jvm.Cond.code ({ cls := "DropsDance$TextReader", name := "ruleNamed", desc := "()I" } : Jvm.MethodName) prog_10_method_12_code (2 : Nat) (Option.some Jvm.ClassFile.FieldType.int) ∈ TB := tb_in3 (i := 58) rfl rfl
theorem t_3_59 : Jvm.Cond.methodLink "DropsDance$TextReader" (128 : Nat) ({ cls := "DropsDance$TextReader", name := "nameOf", desc := "(I)Ljava/lang/String;" } : Jvm.MethodName) ∈ TB := tb_in3 (i := 59) rfl rfl
theorem t_3_60 : Jvm.Cond.static ({ cls := "DropsDance$TextReader", name := "nameOf", desc := "(I)Ljava/lang/String;" } : Jvm.MethodName) ∈ TB := tb_in3 (i := 60) rfl rfl
theorem t_3_61 : Jvm.Cond.code ({ cls := "DropsDance$TextReader", name := "nameOf", desc := "(I)Ljava/lang/String;" } : Jvm.MethodName) prog_10_method_13_code (1 : Nat) (Option.some (Jvm.ClassFile.FieldType.object "java/lang/String")) ∈ TB := tb_in3 (i := 61) rfl rfl
theorem t_3_71 : Jvm.Cond.methodLink "DropsDance$TextReader" (75 : Nat) ({ cls := "DropsDance$TextReader", name := "readRule", desc := "(I)V" } : Jvm.MethodName) ∈ TB := tb_in3 (i := 71) rfl rfl
theorem t_3_73 : Jvm.Cond.instanceMethod ({ cls := "DropsDance$TextReader", name := "readRule", desc := "(I)V" } : Jvm.MethodName) ∈ TB := tb_in3 (i := 73) rfl rfl
theorem t_3_74 : Jvm.Cond.code ({ cls := "DropsDance$TextReader", name := "readRule", desc := "(I)V" } : Jvm.MethodName) prog_10_method_6_code (2 : Nat) (Option.none : Option Jvm.ClassFile.FieldType) ∈ TB := tb_in3 (i := 74) rfl rfl
theorem t_3_77 : Jvm.Cond.methodLink "DropsDance$TextReader" (116 : Nat) ({ cls := "DropsDance$TextReader", name := "readValue", desc := "(II)V" } : Jvm.MethodName) ∈ TB := tb_in3 (i := 77) rfl rfl
theorem t_3_79 : Jvm.Cond.instanceMethod ({ cls := "DropsDance$TextReader", name := "readValue", desc := "(II)V" } : Jvm.MethodName) ∈ TB := tb_in3 (i := 79) rfl rfl
theorem t_3_80 : Jvm.Cond.code ({ cls := "DropsDance$TextReader", name := "readValue", desc := "(II)V" } : Jvm.MethodName) prog_10_method_7_code (5 : Nat) (Option.none : Option Jvm.ClassFile.FieldType) ∈ TB := tb_in3 (i := 80) rfl rfl
theorem t_3_83 : Jvm.Cond.methodLink "DropsDance$TextReader" (122 : Nat) ({ cls := "DropsDance$Rules", name := "become", desc := "(II)V" } : Jvm.MethodName) ∈ TB := tb_in3 (i := 83) rfl rfl
theorem t_3_84 : Jvm.Cond.instanceMethod ({ cls := "DropsDance$Rules", name := "become", desc := "(II)V" } : Jvm.MethodName) ∈ TB := tb_in3 (i := 84) rfl rfl
theorem t_3_85 : Jvm.Cond.selects "DropsDance$Rules" ({ cls := "DropsDance$Rules", name := "become", desc := "(II)V" } : Jvm.MethodName) ({ cls := "DropsDance$Rules", name := "become", desc := "(II)V" } : Jvm.MethodName) ∈ TB := tb_in3 (i := 85) rfl rfl
theorem t_3_86 : Jvm.Cond.code ({ cls := "DropsDance$Rules", name := "become", desc := "(II)V" } : Jvm.MethodName) prog_7_method_5_code (3 : Nat) (Option.none : Option Jvm.ClassFile.FieldType) ∈ TB := tb_in3 (i := 86) rfl rfl
theorem t_3_87 : Jvm.Cond.methodLink "DropsDance$TextReader" (81 : Nat) ({ cls := "DropsDance$Rules", name := "value", desc := "(I)I" } : Jvm.MethodName) ∈ TB := tb_in3 (i := 87) rfl rfl
theorem t_3_88 : Jvm.Cond.instanceMethod ({ cls := "DropsDance$Rules", name := "value", desc := "(I)I" } : Jvm.MethodName) ∈ TB := tb_in3 (i := 88) rfl rfl
theorem t_3_89 : Jvm.Cond.selects "DropsDance$Rules" ({ cls := "DropsDance$Rules", name := "value", desc := "(I)I" } : Jvm.MethodName) ({ cls := "DropsDance$Rules", name := "value", desc := "(I)I" } : Jvm.MethodName) ∈ TB := tb_in3 (i := 89) rfl rfl
theorem t_3_90 : Jvm.Cond.code ({ cls := "DropsDance$Rules", name := "value", desc := "(I)I" } : Jvm.MethodName) prog_7_method_4_code (2 : Nat) (Option.some Jvm.ClassFile.FieldType.int) ∈ TB := tb_in3 (i := 90) rfl rfl
theorem t_3_91 : Jvm.Cond.methodLink "DropsDance" (101 : Nat) ({ cls := "DropsDance$Rules", name := "takeAll", desc := "(LDropsDance$Rules;)V" } : Jvm.MethodName) ∈ TB := tb_in3 (i := 91) rfl rfl
theorem t_3_92 : Jvm.Cond.instanceMethod ({ cls := "DropsDance$Rules", name := "takeAll", desc := "(LDropsDance$Rules;)V" } : Jvm.MethodName) ∈ TB := tb_in3 (i := 92) rfl rfl
theorem t_3_93 : Jvm.Cond.selects "DropsDance$Rules" ({ cls := "DropsDance$Rules", name := "takeAll", desc := "(LDropsDance$Rules;)V" } : Jvm.MethodName) ({ cls := "DropsDance$Rules", name := "takeAll", desc := "(LDropsDance$Rules;)V" } : Jvm.MethodName) ∈ TB := tb_in3 (i := 93) rfl rfl
theorem t_3_94 : Jvm.Cond.code ({ cls := "DropsDance$Rules", name := "takeAll", desc := "(LDropsDance$Rules;)V" } : Jvm.MethodName) prog_7_method_3_code (2 : Nat) (Option.none : Option Jvm.ClassFile.FieldType) ∈ TB := tb_in3 (i := 94) rfl rfl
theorem t_3_95 : Jvm.Cond.methodLink "DropsDance" (109 : Nat) ({ cls := "DropsDance$Scene", name := "beginAnew", desc := "([I)V" } : Jvm.MethodName) ∈ TB := tb_in3 (i := 95) rfl rfl
theorem t_3_96 : Jvm.Cond.instanceMethod ({ cls := "DropsDance$Scene", name := "beginAnew", desc := "([I)V" } : Jvm.MethodName) ∈ TB := tb_in3 (i := 96) rfl rfl
theorem t_3_97 : Jvm.Cond.selects "DropsDance$Scene" ({ cls := "DropsDance$Scene", name := "beginAnew", desc := "([I)V" } : Jvm.MethodName) ({ cls := "DropsDance$Scene", name := "beginAnew", desc := "([I)V" } : Jvm.MethodName) ∈ TB := tb_in3 (i := 97) rfl rfl
theorem t_3_98 : Jvm.Cond.code ({ cls := "DropsDance$Scene", name := "beginAnew", desc := "([I)V" } : Jvm.MethodName) prog_8_method_3_code (2 : Nat) (Option.none : Option Jvm.ClassFile.FieldType) ∈ TB := tb_in3 (i := 98) rfl rfl
theorem t_3_99 : Jvm.Cond.methodLink "DropsDance$Scene" (67 : Nat) ({ cls := "java/lang/Math", name := "min", desc := "(II)I" } : Jvm.MethodName) ∈ TB := tb_in3 (i := 99) rfl rfl
theorem t_3_100 : Jvm.Cond.methodLink "DropsDance$Scene" (57 : Nat) ({ cls := "java/lang/System", name := "arraycopy", desc := "(Ljava/lang/Object;ILjava/lang/Object;II)V" } : Jvm.MethodName) ∈ TB := tb_in3 (i := 100) rfl rfl
theorem t_3_101 : Jvm.Cond.methodLink "DropsDance$Scene" (73 : Nat) ({ cls := "DropsDance$Scene", name := "clearDrops", desc := "()V" } : Jvm.MethodName) ∈ TB := tb_in3 (i := 101) rfl rfl
theorem t_3_102 : Jvm.Cond.instanceMethod ({ cls := "DropsDance$Scene", name := "clearDrops", desc := "()V" } : Jvm.MethodName) ∈ TB := tb_in3 (i := 102) rfl rfl
theorem t_3_103 : Jvm.Cond.selects "DropsDance$Scene" ({ cls := "DropsDance$Scene", name := "clearDrops", desc := "()V" } : Jvm.MethodName) ({ cls := "DropsDance$Scene", name := "clearDrops", desc := "()V" } : Jvm.MethodName) ∈ TB := tb_in3 (i := 103) rfl rfl
theorem t_3_104 : Jvm.Cond.code ({ cls := "DropsDance$Scene", name := "clearDrops", desc := "()V" } : Jvm.MethodName) prog_8_method_5_code (1 : Nat) (Option.none : Option Jvm.ClassFile.FieldType) ∈ TB := tb_in3 (i := 104) rfl rfl
theorem t_3_105 : Jvm.Cond.methodLink "DropsDanceLaw" (30 : Nat) ({ cls := "DropsDance", name := "fault", desc := "()I" } : Jvm.MethodName) ∈ TB := tb_in3 (i := 105) rfl rfl
theorem t_3_106 : Jvm.Cond.instanceMethod ({ cls := "DropsDance", name := "fault", desc := "()I" } : Jvm.MethodName) ∈ TB := tb_in3 (i := 106) rfl rfl
theorem t_3_107 : Jvm.Cond.selects "DropsDance" ({ cls := "DropsDance", name := "fault", desc := "()I" } : Jvm.MethodName) ({ cls := "DropsDance", name := "fault", desc := "()I" } : Jvm.MethodName) ∈ TB := tb_in3 (i := 107) rfl rfl
theorem t_3_108 : Jvm.Cond.code ({ cls := "DropsDance", name := "fault", desc := "()I" } : Jvm.MethodName) prog_1_method_5_code (1 : Nat) (Option.some Jvm.ClassFile.FieldType.int) ∈ TB := tb_in3 (i := 108) rfl rfl
theorem t_3_109 : Jvm.Cond.methodLink "DropsDanceLaw" (34 : Nat) ({ cls := "DropsDance", name := "rule", desc := "(I)I" } : Jvm.MethodName) ∈ TB := tb_in3 (i := 109) rfl rfl
theorem t_3_110 : Jvm.Cond.instanceMethod ({ cls := "DropsDance", name := "rule", desc := "(I)I" } : Jvm.MethodName) ∈ TB := tb_in3 (i := 110) rfl rfl
theorem t_3_111 : Jvm.Cond.selects "DropsDance" ({ cls := "DropsDance", name := "rule", desc := "(I)I" } : Jvm.MethodName) ({ cls := "DropsDance", name := "rule", desc := "(I)I" } : Jvm.MethodName) ∈ TB := tb_in3 (i := 111) rfl rfl
theorem t_3_112 : Jvm.Cond.code ({ cls := "DropsDance", name := "rule", desc := "(I)I" } : Jvm.MethodName) prog_1_method_6_code (2 : Nat) (Option.some Jvm.ClassFile.FieldType.int) ∈ TB := tb_in3 (i := 112) rfl rfl
theorem t_3_113 : Jvm.Cond.methodLink "DropsDance" (123 : Nat) ({ cls := "DropsDance$Rules", name := "value", desc := "(I)I" } : Jvm.MethodName) ∈ TB := tb_in3 (i := 113) rfl rfl
theorem t_3_114 : Jvm.Cond.methodLink "DropsDanceLaw" (38 : Nat) ({ cls := "DropsDance", name := "cell", desc := "(I)I" } : Jvm.MethodName) ∈ TB := tb_in3 (i := 114) rfl rfl
theorem t_3_115 : Jvm.Cond.instanceMethod ({ cls := "DropsDance", name := "cell", desc := "(I)I" } : Jvm.MethodName) ∈ TB := tb_in3 (i := 115) rfl rfl
theorem t_3_116 : Jvm.Cond.selects "DropsDance" ({ cls := "DropsDance", name := "cell", desc := "(I)I" } : Jvm.MethodName) ({ cls := "DropsDance", name := "cell", desc := "(I)I" } : Jvm.MethodName) ∈ TB := tb_in3 (i := 116) rfl rfl
theorem t_3_117 : Jvm.Cond.code ({ cls := "DropsDance", name := "cell", desc := "(I)I" } : Jvm.MethodName) prog_1_method_7_code (2 : Nat) (Option.some Jvm.ClassFile.FieldType.int) ∈ TB := tb_in3 (i := 117) rfl rfl
theorem t_3_118 : Jvm.Cond.methodLink "DropsDance" (127 : Nat) ({ cls := "DropsDance", name := "isCell", desc := "(I)Z" } : Jvm.MethodName) ∈ TB := tb_in3 (i := 118) rfl rfl
theorem t_3_119 : Jvm.Cond.static ({ cls := "DropsDance", name := "isCell", desc := "(I)Z" } : Jvm.MethodName) ∈ TB := tb_in3 (i := 119) rfl rfl
theorem t_3_120 : Jvm.Cond.code ({ cls := "DropsDance", name := "isCell", desc := "(I)Z" } : Jvm.MethodName) prog_1_method_41_code (1 : Nat) (Option.some Jvm.ClassFile.FieldType.boolean) ∈ TB := tb_in3 (i := 120) rfl rfl
theorem t_3_121 : Jvm.Cond.methodLink "DropsDance" (131 : Nat) ({ cls := "DropsDance$Scene", name := "kindAt", desc := "(I)I" } : Jvm.MethodName) ∈ TB := tb_in3 (i := 121) rfl rfl
theorem t_3_122 : Jvm.Cond.instanceMethod ({ cls := "DropsDance$Scene", name := "kindAt", desc := "(I)I" } : Jvm.MethodName) ∈ TB := tb_in3 (i := 122) rfl rfl
theorem t_3_123 : Jvm.Cond.selects "DropsDance$Scene" ({ cls := "DropsDance$Scene", name := "kindAt", desc := "(I)I" } : Jvm.MethodName) ({ cls := "DropsDance$Scene", name := "kindAt", desc := "(I)I" } : Jvm.MethodName) ∈ TB := tb_in3 (i := 123) rfl rfl
theorem t_3_124 : Jvm.Cond.code ({ cls := "DropsDance$Scene", name := "kindAt", desc := "(I)I" } : Jvm.MethodName) prog_8_method_7_code (2 : Nat) (Option.some Jvm.ClassFile.FieldType.int) ∈ TB := tb_in3 (i := 124) rfl rfl
theorem t_3_125 : Jvm.Cond.methodLink "DropsDanceLaw" (42 : Nat) ({ cls := "DropsDance", name := "put", desc := "(II)I" } : Jvm.MethodName) ∈ TB := tb_in3 (i := 125) rfl rfl
theorem t_3_126 : Jvm.Cond.instanceMethod ({ cls := "DropsDance", name := "put", desc := "(II)I" } : Jvm.MethodName) ∈ TB := tb_in3 (i := 126) rfl rfl
theorem t_3_127 : Jvm.Cond.selects "DropsDance" ({ cls := "DropsDance", name := "put", desc := "(II)I" } : Jvm.MethodName) ({ cls := "DropsDance", name := "put", desc := "(II)I" } : Jvm.MethodName) ∈ TB := tb_in3 (i := 127) rfl rfl
theorem t_3_128 : Jvm.Cond.code ({ cls := "DropsDance", name := "put", desc := "(II)I" } : Jvm.MethodName) prog_1_method_8_code (4 : Nat) (Option.some Jvm.ClassFile.FieldType.int) ∈ TB := tb_in3 (i := 128) rfl rfl
theorem t_3_129 : Jvm.Cond.methodLink "DropsDance" (134 : Nat) ({ cls := "DropsDance$Scene", name := "dropAt", desc := "(I)I" } : Jvm.MethodName) ∈ TB := tb_in3 (i := 129) rfl rfl
theorem t_3_130 : Jvm.Cond.instanceMethod ({ cls := "DropsDance$Scene", name := "dropAt", desc := "(I)I" } : Jvm.MethodName) ∈ TB := tb_in3 (i := 130) rfl rfl
theorem t_3_131 : Jvm.Cond.selects "DropsDance$Scene" ({ cls := "DropsDance$Scene", name := "dropAt", desc := "(I)I" } : Jvm.MethodName) ({ cls := "DropsDance$Scene", name := "dropAt", desc := "(I)I" } : Jvm.MethodName) ∈ TB := tb_in3 (i := 131) rfl rfl
theorem t_3_132 : Jvm.Cond.code ({ cls := "DropsDance$Scene", name := "dropAt", desc := "(I)I" } : Jvm.MethodName) prog_8_method_10_code (3 : Nat) (Option.some Jvm.ClassFile.FieldType.int) ∈ TB := tb_in3 (i := 132) rfl rfl
theorem t_3_133 : Jvm.Cond.methodLink "DropsDanceLaw" (47 : Nat) ({ cls := "DropsDance", name := "heat", desc := "(I)I" } : Jvm.MethodName) ∈ TB := tb_in3 (i := 133) rfl rfl
theorem t_3_134 : Jvm.Cond.instanceMethod ({ cls := "DropsDance", name := "heat", desc := "(I)I" } : Jvm.MethodName) ∈ TB := tb_in3 (i := 134) rfl rfl
theorem t_3_135 : Jvm.Cond.selects "DropsDance" ({ cls := "DropsDance", name := "heat", desc := "(I)I" } : Jvm.MethodName) ({ cls := "DropsDance", name := "heat", desc := "(I)I" } : Jvm.MethodName) ∈ TB := tb_in3 (i := 135) rfl rfl
theorem t_3_136 : Jvm.Cond.code ({ cls := "DropsDance", name := "heat", desc := "(I)I" } : Jvm.MethodName) prog_1_method_9_code (2 : Nat) (Option.some Jvm.ClassFile.FieldType.int) ∈ TB := tb_in3 (i := 136) rfl rfl
theorem t_3_137 : Jvm.Cond.methodLink "DropsDance" (138 : Nat) ({ cls := "DropsDance", name := "isHeat", desc := "(I)Z" } : Jvm.MethodName) ∈ TB := tb_in3 (i := 137) rfl rfl
theorem t_3_138 : Jvm.Cond.static ({ cls := "DropsDance", name := "isHeat", desc := "(I)Z" } : Jvm.MethodName) ∈ TB := tb_in3 (i := 138) rfl rfl
theorem t_3_139 : Jvm.Cond.code ({ cls := "DropsDance", name := "isHeat", desc := "(I)Z" } : Jvm.MethodName) prog_1_method_44_code (1 : Nat) (Option.some Jvm.ClassFile.FieldType.boolean) ∈ TB := tb_in3 (i := 139) rfl rfl
theorem t_3_140 : Jvm.Cond.methodLink "DropsDance" (147 : Nat) ({ cls := "DropsDance$Rules", name := "floatsAt", desc := "(IZ)Z" } : Jvm.MethodName) ∈ TB := tb_in3 (i := 140) rfl rfl
theorem t_3_141 : Jvm.Cond.instanceMethod ({ cls := "DropsDance$Rules", name := "floatsAt", desc := "(IZ)Z" } : Jvm.MethodName) ∈ TB := tb_in3 (i := 141) rfl rfl
theorem t_3_142 : Jvm.Cond.selects "DropsDance$Rules" ({ cls := "DropsDance$Rules", name := "floatsAt", desc := "(IZ)Z" } : Jvm.MethodName) ({ cls := "DropsDance$Rules", name := "floatsAt", desc := "(IZ)Z" } : Jvm.MethodName) ∈ TB := tb_in3 (i := 142) rfl rfl
theorem t_3_143 : Jvm.Cond.code ({ cls := "DropsDance$Rules", name := "floatsAt", desc := "(IZ)Z" } : Jvm.MethodName) prog_7_method_6_code (3 : Nat) (Option.some Jvm.ClassFile.FieldType.boolean) ∈ TB := tb_in3 (i := 143) rfl rfl
theorem t_3_144 : Jvm.Cond.methodLink "DropsDanceLaw" (51 : Nat) ({ cls := "DropsDance", name := "drop", desc := "(III)I" } : Jvm.MethodName) ∈ TB := tb_in3 (i := 144) rfl rfl
theorem t_3_145 : Jvm.Cond.instanceMethod ({ cls := "DropsDance", name := "drop", desc := "(III)I" } : Jvm.MethodName) ∈ TB := tb_in3 (i := 145) rfl rfl
theorem t_3_146 : Jvm.Cond.selects "DropsDance" ({ cls := "DropsDance", name := "drop", desc := "(III)I" } : Jvm.MethodName) ({ cls := "DropsDance", name := "drop", desc := "(III)I" } : Jvm.MethodName) ∈ TB := tb_in3 (i := 146) rfl rfl
theorem t_3_147 : Jvm.Cond.code ({ cls := "DropsDance", name := "drop", desc := "(III)I" } : Jvm.MethodName) prog_1_method_10_code (4 : Nat) (Option.some Jvm.ClassFile.FieldType.int) ∈ TB := tb_in3 (i := 147) rfl rfl
theorem t_3_148 : Jvm.Cond.methodLink "DropsDance" (151 : Nat) ({ cls := "DropsDance", name := "setDown", desc := "(III)I" } : Jvm.MethodName) ∈ TB := tb_in3 (i := 148) rfl rfl
theorem t_3_150 : Jvm.Cond.instanceMethod ({ cls := "DropsDance", name := "setDown", desc := "(III)I" } : Jvm.MethodName) ∈ TB := tb_in3 (i := 150) rfl rfl
theorem t_3_151 : Jvm.Cond.code ({ cls := "DropsDance", name := "setDown", desc := "(III)I" } : Jvm.MethodName) prog_1_method_38_code (4 : Nat) (Option.some Jvm.ClassFile.FieldType.int) ∈ TB := tb_in3 (i := 151) rfl rfl
theorem t_3_152 : Jvm.Cond.methodLink "DropsDance" (222 : Nat) ({ cls := "DropsDance", name := "isDropToBe", desc := "(III)Z" } : Jvm.MethodName) ∈ TB := tb_in3 (i := 152) rfl rfl
theorem t_3_153 : Jvm.Cond.static ({ cls := "DropsDance", name := "isDropToBe", desc := "(III)Z" } : Jvm.MethodName) ∈ TB := tb_in3 (i := 153) rfl rfl
theorem t_3_154 : Jvm.Cond.code ({ cls := "DropsDance", name := "isDropToBe", desc := "(III)Z" } : Jvm.MethodName) prog_1_method_47_code (3 : Nat) (Option.some Jvm.ClassFile.FieldType.boolean) ∈ TB := tb_in3 (i := 154) rfl rfl
theorem t_3_155 : Jvm.Cond.methodLink "DropsDance" (276 : Nat) ({ cls := "DropsDance", name := "isSize", desc := "(I)Z" } : Jvm.MethodName) ∈ TB := tb_in3 (i := 155) rfl rfl
theorem t_3_156 : Jvm.Cond.static ({ cls := "DropsDance", name := "isSize", desc := "(I)Z" } : Jvm.MethodName) ∈ TB := tb_in3 (i := 156) rfl rfl
theorem t_3_157 : Jvm.Cond.code ({ cls := "DropsDance", name := "isSize", desc := "(I)Z" } : Jvm.MethodName) prog_1_method_43_code (1 : Nat) (Option.some Jvm.ClassFile.FieldType.boolean) ∈ TB := tb_in3 (i := 157) rfl rfl
theorem t_3_158 : Jvm.Cond.methodLink "DropsDance" (253 : Nat) ({ cls := "DropsDance", name := "isWay", desc := "(I)Z" } : Jvm.MethodName) ∈ TB := tb_in3 (i := 158) rfl rfl
theorem t_3_159 : Jvm.Cond.static ({ cls := "DropsDance", name := "isWay", desc := "(I)Z" } : Jvm.MethodName) ∈ TB := tb_in3 (i := 159) rfl rfl
theorem t_3_160 : Jvm.Cond.code ({ cls := "DropsDance", name := "isWay", desc := "(I)Z" } : Jvm.MethodName) prog_1_method_42_code (1 : Nat) (Option.some Jvm.ClassFile.FieldType.boolean) ∈ TB := tb_in3 (i := 160) rfl rfl
theorem t_3_161 : Jvm.Cond.methodLink "DropsDance" (225 : Nat) ({ cls := "DropsDance$Scene", name := "isOpen", desc := "(I)Z" } : Jvm.MethodName) ∈ TB := tb_in3 (i := 161) rfl rfl
theorem t_3_162 : Jvm.Cond.instanceMethod ({ cls := "DropsDance$Scene", name := "isOpen", desc := "(I)Z" } : Jvm.MethodName) ∈ TB := tb_in3 (i := 162) rfl rfl
theorem t_3_163 : Jvm.Cond.selects "DropsDance$Scene" ({ cls := "DropsDance$Scene", name := "isOpen", desc := "(I)Z" } : Jvm.MethodName) ({ cls := "DropsDance$Scene", name := "isOpen", desc := "(I)Z" } : Jvm.MethodName) ∈ TB := tb_in3 (i := 163) rfl rfl
theorem t_3_164 : Jvm.Cond.code ({ cls := "DropsDance$Scene", name := "isOpen", desc := "(I)Z" } : Jvm.MethodName) prog_8_method_8_code (3 : Nat) (Option.some Jvm.ClassFile.FieldType.boolean) ∈ TB := tb_in3 (i := 164) rfl rfl
theorem t_3_165 : Jvm.Cond.methodLink "DropsDance$Scene" (84 : Nat) ({ cls := "DropsDance$Scene", name := "kindAt", desc := "(I)I" } : Jvm.MethodName) ∈ TB := tb_in3 (i := 165) rfl rfl
theorem t_3_166 : Jvm.Cond.methodLink "DropsDance" (358 : Nat) ({ cls := "DropsDance$Scene", name := "addDrop", desc := "(III)I" } : Jvm.MethodName) ∈ TB := tb_in3 (i := 166) rfl rfl
theorem t_3_167 : Jvm.Cond.instanceMethod ({ cls := "DropsDance$Scene", name := "addDrop", desc := "(III)I" } : Jvm.MethodName) ∈ TB := tb_in3 (i := 167) rfl rfl
theorem t_3_168 : Jvm.Cond.selects "DropsDance$Scene" ({ cls := "DropsDance$Scene", name := "addDrop", desc := "(III)I" } : Jvm.MethodName) ({ cls := "DropsDance$Scene", name := "addDrop", desc := "(III)I" } : Jvm.MethodName) ∈ TB := tb_in3 (i := 168) rfl rfl
theorem t_3_169 : Jvm.Cond.code ({ cls := "DropsDance$Scene", name := "addDrop", desc := "(III)I" } : Jvm.MethodName) prog_8_method_6_code (4 : Nat) (Option.some Jvm.ClassFile.FieldType.int) ∈ TB := tb_in3 (i := 169) rfl rfl
theorem t_3_170 : Jvm.Cond.methodLink "DropsDance$Scene" (80 : Nat) ({ cls := "DropsDance$Drop", name := "begin", desc := "(III)V" } : Jvm.MethodName) ∈ TB := tb_in3 (i := 170) rfl rfl
theorem t_3_171 : Jvm.Cond.instanceMethod ({ cls := "DropsDance$Drop", name := "begin", desc := "(III)V" } : Jvm.MethodName) ∈ TB := tb_in3 (i := 171) rfl rfl
theorem t_3_172 : Jvm.Cond.selects "DropsDance$Drop" ({ cls := "DropsDance$Drop", name := "begin", desc := "(III)V" } : Jvm.MethodName) ({ cls := "DropsDance$Drop", name := "begin", desc := "(III)V" } : Jvm.MethodName) ∈ TB := tb_in3 (i := 172) rfl rfl
theorem t_3_173 : Jvm.Cond.code ({ cls := "DropsDance$Drop", name := "begin", desc := "(III)V" } : Jvm.MethodName) prog_2_method_2_code (4 : Nat) (Option.none : Option Jvm.ClassFile.FieldType) ∈ TB := tb_in3 (i := 173) rfl rfl
theorem t_3_174 : Jvm.Cond.methodLink "DropsDanceLaw" (56 : Nat) ({ cls := "DropsDance", name := "go", desc := "(I)I" } : Jvm.MethodName) ∈ TB := tb_in3 (i := 174) rfl rfl
theorem t_3_175 : Jvm.Cond.instanceMethod ({ cls := "DropsDance", name := "go", desc := "(I)I" } : Jvm.MethodName) ∈ TB := tb_in3 (i := 175) rfl rfl
theorem t_3_176 : Jvm.Cond.selects "DropsDance" ({ cls := "DropsDance", name := "go", desc := "(I)I" } : Jvm.MethodName) ({ cls := "DropsDance", name := "go", desc := "(I)I" } : Jvm.MethodName) ∈ TB := tb_in3 (i := 176) rfl rfl
theorem t_3_177 : Jvm.Cond.code ({ cls := "DropsDance", name := "go", desc := "(I)I" } : Jvm.MethodName) prog_1_method_11_code (4 : Nat) (Option.some Jvm.ClassFile.FieldType.int) ∈ TB := tb_in3 (i := 177) rfl rfl
theorem t_3_178 : Jvm.Cond.methodLink "DropsDance" (155 : Nat) ({ cls := "DropsDance$Scene", name := "passTick", desc := "(LDropsDance$Rules;I)V" } : Jvm.MethodName) ∈ TB := tb_in3 (i := 178) rfl rfl
theorem t_3_179 : Jvm.Cond.instanceMethod ({ cls := "DropsDance$Scene", name := "passTick", desc := "(LDropsDance$Rules;I)V" } : Jvm.MethodName) ∈ TB := tb_in3 (i := 179) rfl rfl
theorem t_3_180 : Jvm.Cond.selects "DropsDance$Scene" ({ cls := "DropsDance$Scene", name := "passTick", desc := "(LDropsDance$Rules;I)V" } : Jvm.MethodName) ({ cls := "DropsDance$Scene", name := "passTick", desc := "(LDropsDance$Rules;I)V" } : Jvm.MethodName) ∈ TB := tb_in3 (i := 180) rfl rfl
theorem t_3_181 : Jvm.Cond.code ({ cls := "DropsDance$Scene", name := "passTick", desc := "(LDropsDance$Rules;I)V" } : Jvm.MethodName) prog_8_method_15_code (5 : Nat) (Option.none : Option Jvm.ClassFile.FieldType) ∈ TB := tb_in3 (i := 181) rfl rfl
theorem t_3_182 : Jvm.Cond.methodLink "DropsDance$Scene" (97 : Nat) ({ cls := "DropsDance$Scene", name := "touches", desc := "(LDropsDance$Drop;)Z" } : Jvm.MethodName) ∈ TB := tb_in3 (i := 182) rfl rfl
theorem t_3_183 : Jvm.Cond.instanceMethod ({ cls := "DropsDance$Scene", name := "touches", desc := "(LDropsDance$Drop;)Z" } : Jvm.MethodName) ∈ TB := tb_in3 (i := 183) rfl rfl
theorem t_3_184 : Jvm.Cond.selects "DropsDance$Scene" ({ cls := "DropsDance$Scene", name := "touches", desc := "(LDropsDance$Drop;)Z" } : Jvm.MethodName) ({ cls := "DropsDance$Scene", name := "touches", desc := "(LDropsDance$Drop;)Z" } : Jvm.MethodName) ∈ TB := tb_in3 (i := 184) rfl rfl
theorem t_3_185 : Jvm.Cond.code ({ cls := "DropsDance$Scene", name := "touches", desc := "(LDropsDance$Drop;)Z" } : Jvm.MethodName) prog_8_method_14_code (2 : Nat) (Option.some Jvm.ClassFile.FieldType.boolean) ∈ TB := tb_in3 (i := 185) rfl rfl
theorem t_3_186 : Jvm.Cond.methodLink "DropsDance$Scene" (101 : Nat) ({ cls := "DropsDance$Rules", name := "lossTouching", desc := "(I)I" } : Jvm.MethodName) ∈ TB := tb_in3 (i := 186) rfl rfl
theorem t_3_187 : Jvm.Cond.instanceMethod ({ cls := "DropsDance$Rules", name := "lossTouching", desc := "(I)I" } : Jvm.MethodName) ∈ TB := tb_in3 (i := 187) rfl rfl
theorem t_3_188 : Jvm.Cond.selects "DropsDance$Rules" ({ cls := "DropsDance$Rules", name := "lossTouching", desc := "(I)I" } : Jvm.MethodName) ({ cls := "DropsDance$Rules", name := "lossTouching", desc := "(I)I" } : Jvm.MethodName) ∈ TB := tb_in3 (i := 188) rfl rfl
theorem t_3_189 : Jvm.Cond.code ({ cls := "DropsDance$Rules", name := "lossTouching", desc := "(I)I" } : Jvm.MethodName) prog_7_method_11_code (3 : Nat) (Option.some Jvm.ClassFile.FieldType.int) ∈ TB := tb_in3 (i := 189) rfl rfl
theorem t_3_190 : Jvm.Cond.methodLink "DropsDance$Scene" (106 : Nat) ({ cls := "DropsDance$Scene", name := "loseSteam", desc := "(LDropsDance$Drop;I)V" } : Jvm.MethodName) ∈ TB := tb_in3 (i := 190) rfl rfl
theorem t_3_192 : Jvm.Cond.instanceMethod ({ cls := "DropsDance$Scene", name := "loseSteam", desc := "(LDropsDance$Drop;I)V" } : Jvm.MethodName) ∈ TB := tb_in3 (i := 192) rfl rfl
theorem t_3_193 : Jvm.Cond.code ({ cls := "DropsDance$Scene", name := "loseSteam", desc := "(LDropsDance$Drop;I)V" } : Jvm.MethodName) prog_8_method_16_code (4 : Nat) (Option.none : Option Jvm.ClassFile.FieldType) ∈ TB := tb_in3 (i := 193) rfl rfl
theorem t_3_194 : Jvm.Cond.methodLink "DropsDance$Scene" (114 : Nat) ({ cls := "DropsDance$Scene", name := "leave", desc := "(LDropsDance$Drop;I)V" } : Jvm.MethodName) ∈ TB := tb_in3 (i := 194) rfl rfl
theorem t_3_196 : Jvm.Cond.instanceMethod ({ cls := "DropsDance$Scene", name := "leave", desc := "(LDropsDance$Drop;I)V" } : Jvm.MethodName) ∈ TB := tb_in3 (i := 196) rfl rfl
theorem t_3_197 : Jvm.Cond.code ({ cls := "DropsDance$Scene", name := "leave", desc := "(LDropsDance$Drop;I)V" } : Jvm.MethodName) prog_8_method_17_code (3 : Nat) (Option.none : Option Jvm.ClassFile.FieldType) ∈ TB := tb_in3 (i := 197) rfl rfl
theorem t_3_198 : Jvm.Cond.methodLink "DropsDance$Scene" (110 : Nat) ({ cls := "DropsDance$Scene", name := "floatOn", desc := "(LDropsDance$Drop;LDropsDance$Rules;I)V" } : Jvm.MethodName) ∈ TB := tb_in3 (i := 198) rfl rfl
theorem t_3_200 : Jvm.Cond.instanceMethod ({ cls := "DropsDance$Scene", name := "floatOn", desc := "(LDropsDance$Drop;LDropsDance$Rules;I)V" } : Jvm.MethodName) ∈ TB := tb_in3 (i := 200) rfl rfl
theorem t_3_201 : Jvm.Cond.code ({ cls := "DropsDance$Scene", name := "floatOn", desc := "(LDropsDance$Drop;LDropsDance$Rules;I)V" } : Jvm.MethodName) prog_8_method_18_code (4 : Nat) (Option.none : Option Jvm.ClassFile.FieldType) ∈ TB := tb_in3 (i := 201) rfl rfl
theorem t_3_202 : Jvm.Cond.methodLink "DropsDance$Scene" (120 : Nat) ({ cls := "DropsDance$Rules", name := "losesFloatingAt", desc := "(I)Z" } : Jvm.MethodName) ∈ TB := tb_in3 (i := 202) rfl rfl
theorem t_3_203 : Jvm.Cond.instanceMethod ({ cls := "DropsDance$Rules", name := "losesFloatingAt", desc := "(I)Z" } : Jvm.MethodName) ∈ TB := tb_in3 (i := 203) rfl rfl
theorem t_3_204 : Jvm.Cond.selects "DropsDance$Rules" ({ cls := "DropsDance$Rules", name := "losesFloatingAt", desc := "(I)Z" } : Jvm.MethodName) ({ cls := "DropsDance$Rules", name := "losesFloatingAt", desc := "(I)Z" } : Jvm.MethodName) ∈ TB := tb_in3 (i := 204) rfl rfl
theorem t_3_205 : Jvm.Cond.code ({ cls := "DropsDance$Rules", name := "losesFloatingAt", desc := "(I)Z" } : Jvm.MethodName) prog_7_method_9_code (3 : Nat) (Option.some Jvm.ClassFile.FieldType.boolean) ∈ TB := tb_in3 (i := 205) rfl rfl
theorem t_3_206 : Jvm.Cond.methodLink "DropsDance$Scene" (124 : Nat) ({ cls := "DropsDance$Rules", name := "lossFloating", desc := "(I)I" } : Jvm.MethodName) ∈ TB := tb_in3 (i := 206) rfl rfl
theorem t_3_207 : Jvm.Cond.instanceMethod ({ cls := "DropsDance$Rules", name := "lossFloating", desc := "(I)I" } : Jvm.MethodName) ∈ TB := tb_in3 (i := 207) rfl rfl
theorem t_3_208 : Jvm.Cond.selects "DropsDance$Rules" ({ cls := "DropsDance$Rules", name := "lossFloating", desc := "(I)I" } : Jvm.MethodName) ({ cls := "DropsDance$Rules", name := "lossFloating", desc := "(I)I" } : Jvm.MethodName) ∈ TB := tb_in3 (i := 208) rfl rfl
theorem t_3_209 : Jvm.Cond.code ({ cls := "DropsDance$Rules", name := "lossFloating", desc := "(I)I" } : Jvm.MethodName) prog_7_method_10_code (2 : Nat) (Option.some Jvm.ClassFile.FieldType.int) ∈ TB := tb_in3 (i := 209) rfl rfl
theorem t_3_210 : Jvm.Cond.methodLink "DropsDance$Rules" (27 : Nat) ({ cls := "DropsDance$Rules", name := "hasChimney", desc := "(I)Z" } : Jvm.MethodName) ∈ TB := tb_in3 (i := 210) rfl rfl
theorem t_3_211 : Jvm.Cond.instanceMethod ({ cls := "DropsDance$Rules", name := "hasChimney", desc := "(I)Z" } : Jvm.MethodName) ∈ TB := tb_in3 (i := 211) rfl rfl
theorem t_3_212 : Jvm.Cond.selects "DropsDance$Rules" ({ cls := "DropsDance$Rules", name := "hasChimney", desc := "(I)Z" } : Jvm.MethodName) ({ cls := "DropsDance$Rules", name := "hasChimney", desc := "(I)Z" } : Jvm.MethodName) ∈ TB := tb_in3 (i := 212) rfl rfl
theorem t_3_213 : Jvm.Cond.code ({ cls := "DropsDance$Rules", name := "hasChimney", desc := "(I)Z" } : Jvm.MethodName) prog_7_method_8_code (2 : Nat) (Option.some Jvm.ClassFile.FieldType.boolean) ∈ TB := tb_in3 (i := 213) rfl rfl
theorem t_3_214 : Jvm.Cond.methodLink "DropsDance$Scene" (127 : Nat) ({ cls := "DropsDance$Rules", name := "value", desc := "(I)I" } : Jvm.MethodName) ∈ TB := tb_in3 (i := 214) rfl rfl
theorem t_3_215 : Jvm.Cond.methodLink "DropsDance$Scene" (130 : Nat) ({ cls := "DropsDance$Scene", name := "wayOf", desc := "(LDropsDance$Drop;LDropsDance$Rules;I)I" } : Jvm.MethodName) ∈ TB := tb_in3 (i := 215) rfl rfl
theorem t_3_216 : Jvm.Cond.instanceMethod ({ cls := "DropsDance$Scene", name := "wayOf", desc := "(LDropsDance$Drop;LDropsDance$Rules;I)I" } : Jvm.MethodName) ∈ TB := tb_in3 (i := 216) rfl rfl
theorem t_3_217 : Jvm.Cond.selects "DropsDance$Scene" ({ cls := "DropsDance$Scene", name := "wayOf", desc := "(LDropsDance$Drop;LDropsDance$Rules;I)I" } : Jvm.MethodName) ({ cls := "DropsDance$Scene", name := "wayOf", desc := "(LDropsDance$Drop;LDropsDance$Rules;I)I" } : Jvm.MethodName) ∈ TB := tb_in3 (i := 217) rfl rfl
theorem t_3_218 : Jvm.Cond.code ({ cls := "DropsDance$Scene", name := "wayOf", desc := "(LDropsDance$Drop;LDropsDance$Rules;I)I" } : Jvm.MethodName) prog_8_method_20_code (5 : Nat) (Option.some Jvm.ClassFile.FieldType.int) ∈ TB := tb_in3 (i := 218) rfl rfl
theorem t_3_219 : Jvm.Cond.methodLink "DropsDance$Scene" (143 : Nat) ({ cls := "DropsDance$Rules", name := "teethSend", desc := "(I)Z" } : Jvm.MethodName) ∈ TB := tb_in3 (i := 219) rfl rfl
theorem t_3_220 : Jvm.Cond.instanceMethod ({ cls := "DropsDance$Rules", name := "teethSend", desc := "(I)Z" } : Jvm.MethodName) ∈ TB := tb_in3 (i := 220) rfl rfl
theorem t_3_221 : Jvm.Cond.selects "DropsDance$Rules" ({ cls := "DropsDance$Rules", name := "teethSend", desc := "(I)Z" } : Jvm.MethodName) ({ cls := "DropsDance$Rules", name := "teethSend", desc := "(I)Z" } : Jvm.MethodName) ∈ TB := tb_in3 (i := 221) rfl rfl
theorem t_3_222 : Jvm.Cond.code ({ cls := "DropsDance$Rules", name := "teethSend", desc := "(I)Z" } : Jvm.MethodName) prog_7_method_7_code (2 : Nat) (Option.some Jvm.ClassFile.FieldType.boolean) ∈ TB := tb_in3 (i := 222) rfl rfl
theorem t_3_223 : Jvm.Cond.methodLink "DropsDance$Scene" (149 : Nat) ({ cls := "DropsDance$Scene", name := "drawWay", desc := "()I" } : Jvm.MethodName) ∈ TB := tb_in3 (i := 223) rfl rfl
theorem t_3_225 : Jvm.Cond.instanceMethod ({ cls := "DropsDance$Scene", name := "drawWay", desc := "()I" } : Jvm.MethodName) ∈ TB := tb_in3 (i := 225) rfl rfl
theorem t_3_226 : Jvm.Cond.code ({ cls := "DropsDance$Scene", name := "drawWay", desc := "()I" } : Jvm.MethodName) prog_8_method_21_code (1 : Nat) (Option.some Jvm.ClassFile.FieldType.int) ∈ TB := tb_in3 (i := 226) rfl rfl
theorem t_3_227 : Jvm.Cond.constant "DropsDance$Scene" (153 : Nat) (1103515245 : Int32) ∈ TB := tb_in3 (i := 227) rfl rfl
theorem t_3_228 : Jvm.Cond.methodLink "DropsDance$Scene" (134 : Nat) ({ cls := "DropsDance$Scene", name := "stepOn", desc := "(LDropsDance$Drop;I)V" } : Jvm.MethodName) ∈ TB := tb_in3 (i := 228) rfl rfl
theorem t_3_229 : Jvm.Cond.instanceMethod ({ cls := "DropsDance$Scene", name := "stepOn", desc := "(LDropsDance$Drop;I)V" } : Jvm.MethodName) ∈ TB := tb_in3 (i := 229) rfl rfl
theorem t_3_230 : Jvm.Cond.selects "DropsDance$Scene" ({ cls := "DropsDance$Scene", name := "stepOn", desc := "(LDropsDance$Drop;I)V" } : Jvm.MethodName) ({ cls := "DropsDance$Scene", name := "stepOn", desc := "(LDropsDance$Drop;I)V" } : Jvm.MethodName) ∈ TB := tb_in3 (i := 230) rfl rfl
theorem t_3_231 : Jvm.Cond.code ({ cls := "DropsDance$Scene", name := "stepOn", desc := "(LDropsDance$Drop;I)V" } : Jvm.MethodName) prog_8_method_22_code (4 : Nat) (Option.none : Option Jvm.ClassFile.FieldType) ∈ TB := tb_in3 (i := 231) rfl rfl
theorem t_3_233 : Jvm.Cond.static ({ cls := "DropsDance", name := "nextCell", desc := "(II)I" } : Jvm.MethodName) ∈ TB := tb_in3 (i := 233) rfl rfl
theorem t_3_234 : Jvm.Cond.code ({ cls := "DropsDance", name := "nextCell", desc := "(II)I" } : Jvm.MethodName) prog_1_method_48_code (4 : Nat) (Option.some Jvm.ClassFile.FieldType.int) ∈ TB := tb_in3 (i := 234) rfl rfl
theorem t_3_235 : Jvm.Cond.methodLink "DropsDance$Scene" (137 : Nat) ({ cls := "DropsDance$Scene", name := "joinWhoIsThere", desc := "(LDropsDance$Drop;)V" } : Jvm.MethodName) ∈ TB := tb_in3 (i := 235) rfl rfl
theorem t_3_237 : Jvm.Cond.instanceMethod ({ cls := "DropsDance$Scene", name := "joinWhoIsThere", desc := "(LDropsDance$Drop;)V" } : Jvm.MethodName) ∈ TB := tb_in3 (i := 237) rfl rfl
theorem t_3_238 : Jvm.Cond.code ({ cls := "DropsDance$Scene", name := "joinWhoIsThere", desc := "(LDropsDance$Drop;)V" } : Jvm.MethodName) prog_8_method_19_code (4 : Nat) (Option.none : Option Jvm.ClassFile.FieldType) ∈ TB := tb_in3 (i := 238) rfl rfl
theorem t_3_239 : Jvm.Cond.methodLink "DropsDance" (159 : Nat) ({ cls := "DropsDance$Scene", name := "howManyThere", desc := "()I" } : Jvm.MethodName) ∈ TB := tb_in3 (i := 239) rfl rfl
theorem t_4_0 : Jvm.Cond.instanceMethod ({ cls := "DropsDance$Scene", name := "howManyThere", desc := "()I" } : Jvm.MethodName) ∈ TB := tb_in4 (i := 0) rfl rfl
theorem t_4_1 : Jvm.Cond.selects "DropsDance$Scene" ({ cls := "DropsDance$Scene", name := "howManyThere", desc := "()I" } : Jvm.MethodName) ({ cls := "DropsDance$Scene", name := "howManyThere", desc := "()I" } : Jvm.MethodName) ∈ TB := tb_in4 (i := 1) rfl rfl
theorem t_4_2 : Jvm.Cond.code ({ cls := "DropsDance$Scene", name := "howManyThere", desc := "()I" } : Jvm.MethodName) prog_8_method_11_code (3 : Nat) (Option.some Jvm.ClassFile.FieldType.int) ∈ TB := tb_in4 (i := 2) rfl rfl
theorem t_4_3 : Jvm.Cond.methodLink "DropsDanceLaw" (60 : Nat) ({ cls := "DropsDance", name := "seed", desc := "(I)I" } : Jvm.MethodName) ∈ TB := tb_in4 (i := 3) rfl rfl
theorem t_4_4 : Jvm.Cond.instanceMethod ({ cls := "DropsDance", name := "seed", desc := "(I)I" } : Jvm.MethodName) ∈ TB := tb_in4 (i := 4) rfl rfl
theorem t_4_5 : Jvm.Cond.selects "DropsDance" ({ cls := "DropsDance", name := "seed", desc := "(I)I" } : Jvm.MethodName) ({ cls := "DropsDance", name := "seed", desc := "(I)I" } : Jvm.MethodName) ∈ TB := tb_in4 (i := 5) rfl rfl
theorem t_4_6 : Jvm.Cond.code ({ cls := "DropsDance", name := "seed", desc := "(I)I" } : Jvm.MethodName) prog_1_method_12_code (3 : Nat) (Option.some Jvm.ClassFile.FieldType.int) ∈ TB := tb_in4 (i := 6) rfl rfl
theorem t_4_7 : Jvm.Cond.methodLink "DropsDanceLaw" (64 : Nat) ({ cls := "DropsDance", name := "of", desc := "(II)I" } : Jvm.MethodName) ∈ TB := tb_in4 (i := 7) rfl rfl
theorem t_4_8 : Jvm.Cond.instanceMethod ({ cls := "DropsDance", name := "of", desc := "(II)I" } : Jvm.MethodName) ∈ TB := tb_in4 (i := 8) rfl rfl
theorem t_4_9 : Jvm.Cond.selects "DropsDance" ({ cls := "DropsDance", name := "of", desc := "(II)I" } : Jvm.MethodName) ({ cls := "DropsDance", name := "of", desc := "(II)I" } : Jvm.MethodName) ∈ TB := tb_in4 (i := 9) rfl rfl
theorem t_4_10 : Jvm.Cond.code ({ cls := "DropsDance", name := "of", desc := "(II)I" } : Jvm.MethodName) prog_1_method_13_code (4 : Nat) (Option.some Jvm.ClassFile.FieldType.int) ∈ TB := tb_in4 (i := 10) rfl rfl
theorem t_4_11 : Jvm.Cond.methodLink "DropsDance" (166 : Nat) ({ cls := "DropsDance$Scene", name := "isDrop", desc := "(I)Z" } : Jvm.MethodName) ∈ TB := tb_in4 (i := 11) rfl rfl
theorem t_4_12 : Jvm.Cond.instanceMethod ({ cls := "DropsDance$Scene", name := "isDrop", desc := "(I)Z" } : Jvm.MethodName) ∈ TB := tb_in4 (i := 12) rfl rfl
theorem t_4_13 : Jvm.Cond.selects "DropsDance$Scene" ({ cls := "DropsDance$Scene", name := "isDrop", desc := "(I)Z" } : Jvm.MethodName) ({ cls := "DropsDance$Scene", name := "isDrop", desc := "(I)Z" } : Jvm.MethodName) ∈ TB := tb_in4 (i := 13) rfl rfl
theorem t_4_14 : Jvm.Cond.code ({ cls := "DropsDance$Scene", name := "isDrop", desc := "(I)Z" } : Jvm.MethodName) prog_8_method_9_code (2 : Nat) (Option.some Jvm.ClassFile.FieldType.boolean) ∈ TB := tb_in4 (i := 14) rfl rfl
theorem t_4_15 : Jvm.Cond.methodLink "DropsDanceLaw" (68 : Nat) ({ cls := "DropsDance", name := "at", desc := "(I)I" } : Jvm.MethodName) ∈ TB := tb_in4 (i := 15) rfl rfl
theorem t_4_16 : Jvm.Cond.instanceMethod ({ cls := "DropsDance", name := "at", desc := "(I)I" } : Jvm.MethodName) ∈ TB := tb_in4 (i := 16) rfl rfl
theorem t_4_17 : Jvm.Cond.selects "DropsDance" ({ cls := "DropsDance", name := "at", desc := "(I)I" } : Jvm.MethodName) ({ cls := "DropsDance", name := "at", desc := "(I)I" } : Jvm.MethodName) ∈ TB := tb_in4 (i := 17) rfl rfl
theorem t_4_18 : Jvm.Cond.code ({ cls := "DropsDance", name := "at", desc := "(I)I" } : Jvm.MethodName) prog_1_method_14_code (2 : Nat) (Option.some Jvm.ClassFile.FieldType.int) ∈ TB := tb_in4 (i := 18) rfl rfl
theorem t_4_19 : Jvm.Cond.methodLink "DropsDanceLaw" (72 : Nat) ({ cls := "DropsDance", name := "now", desc := "(I)I" } : Jvm.MethodName) ∈ TB := tb_in4 (i := 19) rfl rfl
theorem t_4_20 : Jvm.Cond.instanceMethod ({ cls := "DropsDance", name := "now", desc := "(I)I" } : Jvm.MethodName) ∈ TB := tb_in4 (i := 20) rfl rfl
theorem t_4_21 : Jvm.Cond.selects "DropsDance" ({ cls := "DropsDance", name := "now", desc := "(I)I" } : Jvm.MethodName) ({ cls := "DropsDance", name := "now", desc := "(I)I" } : Jvm.MethodName) ∈ TB := tb_in4 (i := 21) rfl rfl
theorem t_4_22 : Jvm.Cond.code ({ cls := "DropsDance", name := "now", desc := "(I)I" } : Jvm.MethodName) prog_1_method_15_code (2 : Nat) (Option.some Jvm.ClassFile.FieldType.int) ∈ TB := tb_in4 (i := 22) rfl rfl
theorem t_4_23 : Jvm.Cond.methodLink "DropsDance" (196 : Nat) ({ cls := "DropsDance$Scene", name := "sizesThere", desc := "()I" } : Jvm.MethodName) ∈ TB := tb_in4 (i := 23) rfl rfl
theorem t_4_24 : Jvm.Cond.instanceMethod ({ cls := "DropsDance$Scene", name := "sizesThere", desc := "()I" } : Jvm.MethodName) ∈ TB := tb_in4 (i := 24) rfl rfl
theorem t_4_25 : Jvm.Cond.selects "DropsDance$Scene" ({ cls := "DropsDance$Scene", name := "sizesThere", desc := "()I" } : Jvm.MethodName) ({ cls := "DropsDance$Scene", name := "sizesThere", desc := "()I" } : Jvm.MethodName) ∈ TB := tb_in4 (i := 25) rfl rfl
theorem t_4_26 : Jvm.Cond.code ({ cls := "DropsDance$Scene", name := "sizesThere", desc := "()I" } : Jvm.MethodName) prog_8_method_12_code (3 : Nat) (Option.some Jvm.ClassFile.FieldType.int) ∈ TB := tb_in4 (i := 26) rfl rfl
theorem t_4_27 : Jvm.Cond.methodLink "DropsDanceLaw" (76 : Nat) ({ cls := "DropsDance", name := "points", desc := "(I)I" } : Jvm.MethodName) ∈ TB := tb_in4 (i := 27) rfl rfl
theorem t_4_28 : Jvm.Cond.instanceMethod ({ cls := "DropsDance", name := "points", desc := "(I)I" } : Jvm.MethodName) ∈ TB := tb_in4 (i := 28) rfl rfl
theorem t_4_29 : Jvm.Cond.selects "DropsDance" ({ cls := "DropsDance", name := "points", desc := "(I)I" } : Jvm.MethodName) ({ cls := "DropsDance", name := "points", desc := "(I)I" } : Jvm.MethodName) ∈ TB := tb_in4 (i := 29) rfl rfl
theorem t_4_30 : Jvm.Cond.code ({ cls := "DropsDance", name := "points", desc := "(I)I" } : Jvm.MethodName) prog_1_method_16_code (3 : Nat) (Option.some Jvm.ClassFile.FieldType.int) ∈ TB := tb_in4 (i := 30) rfl rfl
theorem t_4_31 : Jvm.Cond.methodLink "DropsDance" (211 : Nat) ({ cls := "DropsDance$Scene", name := "touches", desc := "(LDropsDance$Drop;)Z" } : Jvm.MethodName) ∈ TB := tb_in4 (i := 31) rfl rfl
theorem t_4_32 : Jvm.Cond.methodLink "DropsDance" (215 : Nat) ({ cls := "DropsDance$Rules", name := "hasChimney", desc := "(I)Z" } : Jvm.MethodName) ∈ TB := tb_in4 (i := 32) rfl rfl
theorem t_4_33 : Jvm.Cond.methodLink "DropsDanceLaw" (80 : Nat) ({ cls := "DropsDance", name := "keep", desc := "(I)I" } : Jvm.MethodName) ∈ TB := tb_in4 (i := 33) rfl rfl
theorem t_4_34 : Jvm.Cond.instanceMethod ({ cls := "DropsDance", name := "keep", desc := "(I)I" } : Jvm.MethodName) ∈ TB := tb_in4 (i := 34) rfl rfl
theorem t_4_35 : Jvm.Cond.selects "DropsDance" ({ cls := "DropsDance", name := "keep", desc := "(I)I" } : Jvm.MethodName) ({ cls := "DropsDance", name := "keep", desc := "(I)I" } : Jvm.MethodName) ∈ TB := tb_in4 (i := 35) rfl rfl
theorem t_4_36 : Jvm.Cond.code ({ cls := "DropsDance", name := "keep", desc := "(I)I" } : Jvm.MethodName) prog_1_method_17_code (4 : Nat) (Option.some Jvm.ClassFile.FieldType.int) ∈ TB := tb_in4 (i := 36) rfl rfl
theorem t_4_37 : Jvm.Cond.methodLink "DropsDance" (219 : Nat) ({ cls := "DropsDance$Scene", name := "takeAll", desc := "(LDropsDance$Scene;)V" } : Jvm.MethodName) ∈ TB := tb_in4 (i := 37) rfl rfl
theorem t_4_38 : Jvm.Cond.instanceMethod ({ cls := "DropsDance$Scene", name := "takeAll", desc := "(LDropsDance$Scene;)V" } : Jvm.MethodName) ∈ TB := tb_in4 (i := 38) rfl rfl
theorem t_4_39 : Jvm.Cond.selects "DropsDance$Scene" ({ cls := "DropsDance$Scene", name := "takeAll", desc := "(LDropsDance$Scene;)V" } : Jvm.MethodName) ({ cls := "DropsDance$Scene", name := "takeAll", desc := "(LDropsDance$Scene;)V" } : Jvm.MethodName) ∈ TB := tb_in4 (i := 39) rfl rfl
theorem t_4_40 : Jvm.Cond.code ({ cls := "DropsDance$Scene", name := "takeAll", desc := "(LDropsDance$Scene;)V" } : Jvm.MethodName) prog_8_method_2_code (3 : Nat) (Option.none : Option Jvm.ClassFile.FieldType) ∈ TB := tb_in4 (i := 40) rfl rfl
theorem t_4_41 : Jvm.Cond.methodLink "DropsDance$Scene" (63 : Nat) ({ cls := "DropsDance$Drop", name := "takeAll", desc := "(LDropsDance$Drop;)V" } : Jvm.MethodName) ∈ TB := tb_in4 (i := 41) rfl rfl
theorem t_4_42 : Jvm.Cond.instanceMethod ({ cls := "DropsDance$Drop", name := "takeAll", desc := "(LDropsDance$Drop;)V" } : Jvm.MethodName) ∈ TB := tb_in4 (i := 42) rfl rfl
theorem t_4_43 : Jvm.Cond.selects "DropsDance$Drop" ({ cls := "DropsDance$Drop", name := "takeAll", desc := "(LDropsDance$Drop;)V" } : Jvm.MethodName) ({ cls := "DropsDance$Drop", name := "takeAll", desc := "(LDropsDance$Drop;)V" } : Jvm.MethodName) ∈ TB := tb_in4 (i := 43) rfl rfl
theorem t_4_44 : Jvm.Cond.code ({ cls := "DropsDance$Drop", name := "takeAll", desc := "(LDropsDance$Drop;)V" } : Jvm.MethodName) prog_2_method_3_code (2 : Nat) (Option.none : Option Jvm.ClassFile.FieldType) ∈ TB := tb_in4 (i := 44) rfl rfl
theorem t_4_45 : Jvm.Cond.methodLink "DropsDanceLaw" (84 : Nat) ({ cls := "DropsDance", name := "back", desc := "(I)I" } : Jvm.MethodName) ∈ TB := tb_in4 (i := 45) rfl rfl
theorem t_4_46 : Jvm.Cond.instanceMethod ({ cls := "DropsDance", name := "back", desc := "(I)I" } : Jvm.MethodName) ∈ TB := tb_in4 (i := 46) rfl rfl
theorem t_4_47 : Jvm.Cond.selects "DropsDance" ({ cls := "DropsDance", name := "back", desc := "(I)I" } : Jvm.MethodName) ({ cls := "DropsDance", name := "back", desc := "(I)I" } : Jvm.MethodName) ∈ TB := tb_in4 (i := 47) rfl rfl
theorem t_4_48 : Jvm.Cond.code ({ cls := "DropsDance", name := "back", desc := "(I)I" } : Jvm.MethodName) prog_1_method_18_code (3 : Nat) (Option.some Jvm.ClassFile.FieldType.int) ∈ TB := tb_in4 (i := 48) rfl rfl
theorem t_4_49 : Jvm.Cond.methodLink "DropsDanceLaw" (88 : Nat) ({ cls := "DropsDance", name := "alone", desc := "(IIIII)I" } : Jvm.MethodName) ∈ TB := tb_in4 (i := 49) rfl rfl
theorem t_4_50 : Jvm.Cond.instanceMethod ({ cls := "DropsDance", name := "alone", desc := "(IIIII)I" } : Jvm.MethodName) ∈ TB := tb_in4 (i := 50) rfl rfl
theorem t_4_51 : Jvm.Cond.selects "DropsDance" ({ cls := "DropsDance", name := "alone", desc := "(IIIII)I" } : Jvm.MethodName) ({ cls := "DropsDance", name := "alone", desc := "(IIIII)I" } : Jvm.MethodName) ∈ TB := tb_in4 (i := 51) rfl rfl
theorem t_4_52 : Jvm.Cond.code ({ cls := "DropsDance", name := "alone", desc := "(IIIII)I" } : Jvm.MethodName) prog_1_method_19_code (7 : Nat) (Option.some Jvm.ClassFile.FieldType.int) ∈ TB := tb_in4 (i := 52) rfl rfl
theorem t_4_53 : Jvm.Cond.methodLink "DropsDance" (228 : Nat) ({ cls := "DropsDance$Loner", name := "begin", desc := "(LDropsDance$Scene;III)V" } : Jvm.MethodName) ∈ TB := tb_in4 (i := 53) rfl rfl
theorem t_4_54 : Jvm.Cond.instanceMethod ({ cls := "DropsDance$Loner", name := "begin", desc := "(LDropsDance$Scene;III)V" } : Jvm.MethodName) ∈ TB := tb_in4 (i := 54) rfl rfl
theorem t_4_55 : Jvm.Cond.selects "DropsDance$Loner" ({ cls := "DropsDance$Loner", name := "begin", desc := "(LDropsDance$Scene;III)V" } : Jvm.MethodName) ({ cls := "DropsDance$Loner", name := "begin", desc := "(LDropsDance$Scene;III)V" } : Jvm.MethodName) ∈ TB := tb_in4 (i := 55) rfl rfl
theorem t_4_56 : Jvm.Cond.code ({ cls := "DropsDance$Loner", name := "begin", desc := "(LDropsDance$Scene;III)V" } : Jvm.MethodName) prog_4_method_2_code (5 : Nat) (Option.none : Option Jvm.ClassFile.FieldType) ∈ TB := tb_in4 (i := 56) rfl rfl
theorem t_4_57 : Jvm.Cond.methodLink "DropsDance$Loner" (44 : Nat) ({ cls := "DropsDance$Scene", name := "beginAlone", desc := "(LDropsDance$Scene;III)V" } : Jvm.MethodName) ∈ TB := tb_in4 (i := 57) rfl rfl
theorem t_4_58 : Jvm.Cond.instanceMethod ({ cls := "DropsDance$Scene", name := "beginAlone", desc := "(LDropsDance$Scene;III)V" } : Jvm.MethodName) ∈ TB := tb_in4 (i := 58) rfl rfl
theorem t_4_59 : Jvm.Cond.selects "DropsDance$Scene" ({ cls := "DropsDance$Scene", name := "beginAlone", desc := "(LDropsDance$Scene;III)V" } : Jvm.MethodName) ({ cls := "DropsDance$Scene", name := "beginAlone", desc := "(LDropsDance$Scene;III)V" } : Jvm.MethodName) ∈ TB := tb_in4 (i := 59) rfl rfl
theorem t_4_60 : Jvm.Cond.code ({ cls := "DropsDance$Scene", name := "beginAlone", desc := "(LDropsDance$Scene;III)V" } : Jvm.MethodName) prog_8_method_4_code (5 : Nat) (Option.none : Option Jvm.ClassFile.FieldType) ∈ TB := tb_in4 (i := 60) rfl rfl
theorem t_4_61 : Jvm.Cond.methodLink "DropsDance$Scene" (76 : Nat) ({ cls := "DropsDance$Scene", name := "addDrop", desc := "(III)I" } : Jvm.MethodName) ∈ TB := tb_in4 (i := 61) rfl rfl
theorem t_4_62 : Jvm.Cond.methodLink "DropsDance" (232 : Nat) ({ cls := "DropsDance$Loner", name := "runOn", desc := "(LDropsDance$Rules;I)LDropsDance$Drop;" } : Jvm.MethodName) ∈ TB := tb_in4 (i := 62) rfl rfl
theorem t_4_63 : Jvm.Cond.instanceMethod ({ cls := "DropsDance$Loner", name := "runOn", desc := "(LDropsDance$Rules;I)LDropsDance$Drop;" } : Jvm.MethodName) ∈ TB := tb_in4 (i := 63) rfl rfl
theorem t_4_64 : Jvm.Cond.selects "DropsDance$Loner" ({ cls := "DropsDance$Loner", name := "runOn", desc := "(LDropsDance$Rules;I)LDropsDance$Drop;" } : Jvm.MethodName) ({ cls := "DropsDance$Loner", name := "runOn", desc := "(LDropsDance$Rules;I)LDropsDance$Drop;" } : Jvm.MethodName) ∈ TB := tb_in4 (i := 64) rfl rfl
theorem t_4_65 : Jvm.Cond.code ({ cls := "DropsDance$Loner", name := "runOn", desc := "(LDropsDance$Rules;I)LDropsDance$Drop;" } : Jvm.MethodName) prog_4_method_3_code (4 : Nat) (Option.some (Jvm.ClassFile.FieldType.object "DropsDance$Drop")) ∈ TB := tb_in4 (i := 65) rfl rfl
theorem t_4_66 : Jvm.Cond.methodLink "DropsDance$Loner" (48 : Nat) ({ cls := "DropsDance$Scene", name := "passTick", desc := "(LDropsDance$Rules;I)V" } : Jvm.MethodName) ∈ TB := tb_in4 (i := 66) rfl rfl
theorem t_4_67 : Jvm.Cond.methodLink "DropsDanceLaw" (93 : Nat) ({ cls := "DropsDance", name := "reach", desc := "(IIII)I" } : Jvm.MethodName) ∈ TB := tb_in4 (i := 67) rfl rfl
theorem t_4_68 : Jvm.Cond.instanceMethod ({ cls := "DropsDance", name := "reach", desc := "(IIII)I" } : Jvm.MethodName) ∈ TB := tb_in4 (i := 68) rfl rfl
theorem t_4_69 : Jvm.Cond.selects "DropsDance" ({ cls := "DropsDance", name := "reach", desc := "(IIII)I" } : Jvm.MethodName) ({ cls := "DropsDance", name := "reach", desc := "(IIII)I" } : Jvm.MethodName) ∈ TB := tb_in4 (i := 69) rfl rfl
theorem t_4_70 : Jvm.Cond.code ({ cls := "DropsDance", name := "reach", desc := "(IIII)I" } : Jvm.MethodName) prog_1_method_20_code (5 : Nat) (Option.some Jvm.ClassFile.FieldType.int) ∈ TB := tb_in4 (i := 70) rfl rfl
theorem t_4_71 : Jvm.Cond.methodLink "DropsDance" (236 : Nat) ({ cls := "DropsDance$Loner", name := "ticksTill", desc := "(LDropsDance$Rules;II)I" } : Jvm.MethodName) ∈ TB := tb_in4 (i := 71) rfl rfl
theorem t_4_72 : Jvm.Cond.instanceMethod ({ cls := "DropsDance$Loner", name := "ticksTill", desc := "(LDropsDance$Rules;II)I" } : Jvm.MethodName) ∈ TB := tb_in4 (i := 72) rfl rfl
theorem t_4_73 : Jvm.Cond.selects "DropsDance$Loner" ({ cls := "DropsDance$Loner", name := "ticksTill", desc := "(LDropsDance$Rules;II)I" } : Jvm.MethodName) ({ cls := "DropsDance$Loner", name := "ticksTill", desc := "(LDropsDance$Rules;II)I" } : Jvm.MethodName) ∈ TB := tb_in4 (i := 73) rfl rfl
theorem t_4_74 : Jvm.Cond.code ({ cls := "DropsDance$Loner", name := "ticksTill", desc := "(LDropsDance$Rules;II)I" } : Jvm.MethodName) prog_4_method_4_code (6 : Nat) (Option.some Jvm.ClassFile.FieldType.int) ∈ TB := tb_in4 (i := 74) rfl rfl
theorem t_4_76 : Jvm.Cond.methodLink "DropsDanceLaw" (98 : Nat) ({ cls := "DropsDance", name := "ring", desc := "(IIII)I" } : Jvm.MethodName) ∈ TB := tb_in4 (i := 76) rfl rfl
theorem t_4_77 : Jvm.Cond.instanceMethod ({ cls := "DropsDance", name := "ring", desc := "(IIII)I" } : Jvm.MethodName) ∈ TB := tb_in4 (i := 77) rfl rfl
theorem t_4_78 : Jvm.Cond.selects "DropsDance" ({ cls := "DropsDance", name := "ring", desc := "(IIII)I" } : Jvm.MethodName) ({ cls := "DropsDance", name := "ring", desc := "(IIII)I" } : Jvm.MethodName) ∈ TB := tb_in4 (i := 78) rfl rfl
theorem t_4_79 : Jvm.Cond.code ({ cls := "DropsDance", name := "ring", desc := "(IIII)I" } : Jvm.MethodName) prog_1_method_21_code (5 : Nat) (Option.some Jvm.ClassFile.FieldType.int) ∈ TB := tb_in4 (i := 79) rfl rfl
theorem t_4_80 : Jvm.Cond.methodLink "DropsDance" (240 : Nat) ({ cls := "DropsDance$Path", name := "follow", desc := "(LDropsDance$Scene;LDropsDance$Rules;III)I" } : Jvm.MethodName) ∈ TB := tb_in4 (i := 80) rfl rfl
theorem t_4_81 : Jvm.Cond.instanceMethod ({ cls := "DropsDance$Path", name := "follow", desc := "(LDropsDance$Scene;LDropsDance$Rules;III)I" } : Jvm.MethodName) ∈ TB := tb_in4 (i := 81) rfl rfl
theorem t_4_82 : Jvm.Cond.selects "DropsDance$Path" ({ cls := "DropsDance$Path", name := "follow", desc := "(LDropsDance$Scene;LDropsDance$Rules;III)I" } : Jvm.MethodName) ({ cls := "DropsDance$Path", name := "follow", desc := "(LDropsDance$Scene;LDropsDance$Rules;III)I" } : Jvm.MethodName) ∈ TB := tb_in4 (i := 82) rfl rfl
theorem t_4_83 : Jvm.Cond.code ({ cls := "DropsDance$Path", name := "follow", desc := "(LDropsDance$Scene;LDropsDance$Rules;III)I" } : Jvm.MethodName) prog_5_method_2_code (8 : Nat) (Option.some Jvm.ClassFile.FieldType.int) ∈ TB := tb_in4 (i := 83) rfl rfl
theorem t_4_84 : Jvm.Cond.methodLink "DropsDance$Path" (29 : Nat) ({ cls := "java/util/Arrays", name := "fill", desc := "([II)V" } : Jvm.MethodName) ∈ TB := tb_in4 (i := 84) rfl rfl
theorem t_4_85 : Jvm.Cond.methodLink "DropsDance$Path" (35 : Nat) ({ cls := "DropsDance$Drop", name := "begin", desc := "(III)V" } : Jvm.MethodName) ∈ TB := tb_in4 (i := 85) rfl rfl
theorem t_4_87 : Jvm.Cond.methodLink "DropsDance$Path" (49 : Nat) ({ cls := "DropsDance$Scene", name := "wayOf", desc := "(LDropsDance$Drop;LDropsDance$Rules;I)I" } : Jvm.MethodName) ∈ TB := tb_in4 (i := 87) rfl rfl
theorem t_4_88 : Jvm.Cond.methodLink "DropsDance$Path" (55 : Nat) ({ cls := "DropsDance$Scene", name := "stepOn", desc := "(LDropsDance$Drop;I)V" } : Jvm.MethodName) ∈ TB := tb_in4 (i := 88) rfl rfl
theorem t_4_89 : Jvm.Cond.methodLink "DropsDance$Path" (59 : Nat) ({ cls := "DropsDance$Scene", name := "kindAt", desc := "(I)I" } : Jvm.MethodName) ∈ TB := tb_in4 (i := 89) rfl rfl
theorem t_4_90 : Jvm.Cond.methodLink "DropsDance" (250 : Nat) ({ cls := "DropsDance$Path", name := "cellsRound", desc := "()I" } : Jvm.MethodName) ∈ TB := tb_in4 (i := 90) rfl rfl
theorem t_4_91 : Jvm.Cond.instanceMethod ({ cls := "DropsDance$Path", name := "cellsRound", desc := "()I" } : Jvm.MethodName) ∈ TB := tb_in4 (i := 91) rfl rfl
theorem t_4_92 : Jvm.Cond.selects "DropsDance$Path" ({ cls := "DropsDance$Path", name := "cellsRound", desc := "()I" } : Jvm.MethodName) ({ cls := "DropsDance$Path", name := "cellsRound", desc := "()I" } : Jvm.MethodName) ∈ TB := tb_in4 (i := 92) rfl rfl
theorem t_4_93 : Jvm.Cond.code ({ cls := "DropsDance$Path", name := "cellsRound", desc := "()I" } : Jvm.MethodName) prog_5_method_3_code (5 : Nat) (Option.some Jvm.ClassFile.FieldType.int) ∈ TB := tb_in4 (i := 93) rfl rfl
theorem t_4_94 : Jvm.Cond.methodLink "DropsDanceLaw" (102 : Nat) ({ cls := "DropsDance", name := "falls", desc := "(III)J" } : Jvm.MethodName) ∈ TB := tb_in4 (i := 94) rfl rfl
theorem t_4_95 : Jvm.Cond.instanceMethod ({ cls := "DropsDance", name := "falls", desc := "(III)J" } : Jvm.MethodName) ∈ TB := tb_in4 (i := 95) rfl rfl
theorem t_4_96 : Jvm.Cond.selects "DropsDance" ({ cls := "DropsDance", name := "falls", desc := "(III)J" } : Jvm.MethodName) ({ cls := "DropsDance", name := "falls", desc := "(III)J" } : Jvm.MethodName) ∈ TB := tb_in4 (i := 96) rfl rfl
theorem t_4_97 : Jvm.Cond.code ({ cls := "DropsDance", name := "falls", desc := "(III)J" } : Jvm.MethodName) prog_1_method_22_code (11 : Nat) (Option.some Jvm.ClassFile.FieldType.long) ∈ TB := tb_in4 (i := 97) rfl rfl
theorem t_4_98 : Jvm.Cond.constantLong "DropsDance" (256 : Nat) (-1 : Int64) ∈ TB := tb_in4 (i := 98) rfl rfl
theorem t_4_99 : Jvm.Cond.constantLong "DropsDance" (258 : Nat) (-2 : Int64) ∈ TB := tb_in4 (i := 99) rfl rfl
theorem t_4_100 : Jvm.Cond.methodLink "DropsDance" (260 : Nat) ({ cls := "DropsDance$Rules", name := "teethSend", desc := "(I)Z" } : Jvm.MethodName) ∈ TB := tb_in4 (i := 100) rfl rfl
theorem t_4_101 : Jvm.Cond.methodLink "DropsDanceLaw" (107 : Nat) ({ cls := "DropsDance", name := "mend", desc := "(IIIII)I" } : Jvm.MethodName) ∈ TB := tb_in4 (i := 101) rfl rfl
theorem t_4_102 : Jvm.Cond.instanceMethod ({ cls := "DropsDance", name := "mend", desc := "(IIIII)I" } : Jvm.MethodName) ∈ TB := tb_in4 (i := 102) rfl rfl
theorem t_4_103 : Jvm.Cond.selects "DropsDance" ({ cls := "DropsDance", name := "mend", desc := "(IIIII)I" } : Jvm.MethodName) ({ cls := "DropsDance", name := "mend", desc := "(IIIII)I" } : Jvm.MethodName) ∈ TB := tb_in4 (i := 103) rfl rfl
theorem t_4_104 : Jvm.Cond.code ({ cls := "DropsDance", name := "mend", desc := "(IIIII)I" } : Jvm.MethodName) prog_1_method_23_code (6 : Nat) (Option.some Jvm.ClassFile.FieldType.int) ∈ TB := tb_in4 (i := 104) rfl rfl
theorem t_4_105 : Jvm.Cond.methodLink "DropsDance" (263 : Nat) ({ cls := "DropsDance$Loner", name := "findMend", desc := "(LDropsDance$Rules;I)Z" } : Jvm.MethodName) ∈ TB := tb_in4 (i := 105) rfl rfl
theorem t_4_106 : Jvm.Cond.instanceMethod ({ cls := "DropsDance$Loner", name := "findMend", desc := "(LDropsDance$Rules;I)Z" } : Jvm.MethodName) ∈ TB := tb_in4 (i := 106) rfl rfl
theorem t_4_107 : Jvm.Cond.selects "DropsDance$Loner" ({ cls := "DropsDance$Loner", name := "findMend", desc := "(LDropsDance$Rules;I)Z" } : Jvm.MethodName) ({ cls := "DropsDance$Loner", name := "findMend", desc := "(LDropsDance$Rules;I)Z" } : Jvm.MethodName) ∈ TB := tb_in4 (i := 107) rfl rfl
theorem t_4_108 : Jvm.Cond.code ({ cls := "DropsDance$Loner", name := "findMend", desc := "(LDropsDance$Rules;I)Z" } : Jvm.MethodName) prog_4_method_5_code (9 : Nat) (Option.some Jvm.ClassFile.FieldType.boolean) ∈ TB := tb_in4 (i := 108) rfl rfl
theorem t_4_109 : Jvm.Cond.methodLink "DropsDance$Loner" (68 : Nat) ({ cls := "java/util/Arrays", name := "fill", desc := "([II)V" } : Jvm.MethodName) ∈ TB := tb_in4 (i := 109) rfl rfl
theorem t_4_110 : Jvm.Cond.methodLink "DropsDance$Loner" (74 : Nat) ({ cls := "DropsDance$Loner", name := "ticksTill", desc := "(LDropsDance$Rules;II)I" } : Jvm.MethodName) ∈ TB := tb_in4 (i := 110) rfl rfl
theorem t_4_111 : Jvm.Cond.methodLink "DropsDance$Loner" (78 : Nat) ({ cls := "java/lang/System", name := "arraycopy", desc := "(Ljava/lang/Object;ILjava/lang/Object;II)V" } : Jvm.MethodName) ∈ TB := tb_in4 (i := 111) rfl rfl
theorem t_4_112 : Jvm.Cond.methodLink "DropsDance$Loner" (87 : Nat) ({ cls := "DropsDance$Scene", name := "clearDrops", desc := "()V" } : Jvm.MethodName) ∈ TB := tb_in4 (i := 112) rfl rfl
theorem t_4_113 : Jvm.Cond.methodLink "DropsDance$Loner" (90 : Nat) ({ cls := "DropsDance$Scene", name := "addDrop", desc := "(III)I" } : Jvm.MethodName) ∈ TB := tb_in4 (i := 113) rfl rfl
theorem t_4_114 : Jvm.Cond.methodLink "DropsDanceLaw" (111 : Nat) ({ cls := "DropsDance", name := "life", desc := "(IIZ)I" } : Jvm.MethodName) ∈ TB := tb_in4 (i := 114) rfl rfl
theorem t_4_115 : Jvm.Cond.instanceMethod ({ cls := "DropsDance", name := "life", desc := "(IIZ)I" } : Jvm.MethodName) ∈ TB := tb_in4 (i := 115) rfl rfl
theorem t_4_116 : Jvm.Cond.selects "DropsDance" ({ cls := "DropsDance", name := "life", desc := "(IIZ)I" } : Jvm.MethodName) ({ cls := "DropsDance", name := "life", desc := "(IIZ)I" } : Jvm.MethodName) ∈ TB := tb_in4 (i := 116) rfl rfl
theorem t_4_117 : Jvm.Cond.code ({ cls := "DropsDance", name := "life", desc := "(IIZ)I" } : Jvm.MethodName) prog_1_method_24_code (4 : Nat) (Option.some Jvm.ClassFile.FieldType.int) ∈ TB := tb_in4 (i := 117) rfl rfl
theorem t_4_118 : Jvm.Cond.methodLink "DropsDance" (279 : Nat) ({ cls := "DropsDance$Rules", name := "lifeOf", desc := "(IIZ)I" } : Jvm.MethodName) ∈ TB := tb_in4 (i := 118) rfl rfl
theorem t_4_119 : Jvm.Cond.instanceMethod ({ cls := "DropsDance$Rules", name := "lifeOf", desc := "(IIZ)I" } : Jvm.MethodName) ∈ TB := tb_in4 (i := 119) rfl rfl
theorem t_4_120 : Jvm.Cond.selects "DropsDance$Rules" ({ cls := "DropsDance$Rules", name := "lifeOf", desc := "(IIZ)I" } : Jvm.MethodName) ({ cls := "DropsDance$Rules", name := "lifeOf", desc := "(IIZ)I" } : Jvm.MethodName) ∈ TB := tb_in4 (i := 120) rfl rfl
theorem t_4_121 : Jvm.Cond.code ({ cls := "DropsDance$Rules", name := "lifeOf", desc := "(IIZ)I" } : Jvm.MethodName) prog_7_method_12_code (4 : Nat) (Option.some Jvm.ClassFile.FieldType.int) ∈ TB := tb_in4 (i := 121) rfl rfl
theorem t_4_122 : Jvm.Cond.methodLink "DropsDance$Rules" (31 : Nat) ({ cls := "DropsDance$Rules", name := "floatsAt", desc := "(IZ)Z" } : Jvm.MethodName) ∈ TB := tb_in4 (i := 122) rfl rfl
theorem t_4_123 : Jvm.Cond.methodLink "DropsDance$Rules" (35 : Nat) ({ cls := "DropsDance$Rules", name := "lifeBy", desc := "(IIZ)I" } : Jvm.MethodName) ∈ TB := tb_in4 (i := 123) rfl rfl
theorem t_4_124 : Jvm.Cond.instanceMethod ({ cls := "DropsDance$Rules", name := "lifeBy", desc := "(IIZ)I" } : Jvm.MethodName) ∈ TB := tb_in4 (i := 124) rfl rfl
theorem t_4_125 : Jvm.Cond.selects "DropsDance$Rules" ({ cls := "DropsDance$Rules", name := "lifeBy", desc := "(IIZ)I" } : Jvm.MethodName) ({ cls := "DropsDance$Rules", name := "lifeBy", desc := "(IIZ)I" } : Jvm.MethodName) ∈ TB := tb_in4 (i := 125) rfl rfl
theorem t_4_126 : Jvm.Cond.code ({ cls := "DropsDance$Rules", name := "lifeBy", desc := "(IIZ)I" } : Jvm.MethodName) prog_7_method_13_code (4 : Nat) (Option.some Jvm.ClassFile.FieldType.int) ∈ TB := tb_in4 (i := 126) rfl rfl
theorem t_4_127 : Jvm.Cond.methodLink "DropsDance$Rules" (39 : Nat) ({ cls := "DropsDance$Rules", name := "lifeFloating", desc := "(I)I" } : Jvm.MethodName) ∈ TB := tb_in4 (i := 127) rfl rfl
theorem t_4_129 : Jvm.Cond.instanceMethod ({ cls := "DropsDance$Rules", name := "lifeFloating", desc := "(I)I" } : Jvm.MethodName) ∈ TB := tb_in4 (i := 129) rfl rfl
theorem t_4_130 : Jvm.Cond.code ({ cls := "DropsDance$Rules", name := "lifeFloating", desc := "(I)I" } : Jvm.MethodName) prog_7_method_15_code (4 : Nat) (Option.some Jvm.ClassFile.FieldType.int) ∈ TB := tb_in4 (i := 130) rfl rfl
theorem t_4_131 : Jvm.Cond.methodLink "DropsDance$Rules" (50 : Nat) ({ cls := "DropsDance$Rules", name := "lossFloating", desc := "(I)I" } : Jvm.MethodName) ∈ TB := tb_in4 (i := 131) rfl rfl
theorem t_4_132 : Jvm.Cond.methodLink "DropsDance$Rules" (43 : Nat) ({ cls := "DropsDance$Rules", name := "lifeTouching", desc := "(II)I" } : Jvm.MethodName) ∈ TB := tb_in4 (i := 132) rfl rfl
theorem t_4_134 : Jvm.Cond.instanceMethod ({ cls := "DropsDance$Rules", name := "lifeTouching", desc := "(II)I" } : Jvm.MethodName) ∈ TB := tb_in4 (i := 134) rfl rfl
theorem t_4_135 : Jvm.Cond.code ({ cls := "DropsDance$Rules", name := "lifeTouching", desc := "(II)I" } : Jvm.MethodName) prog_7_method_14_code (4 : Nat) (Option.some Jvm.ClassFile.FieldType.int) ∈ TB := tb_in4 (i := 135) rfl rfl
theorem t_4_136 : Jvm.Cond.methodLink "DropsDance$Rules" (47 : Nat) ({ cls := "DropsDance$Rules", name := "lossTouching", desc := "(I)I" } : Jvm.MethodName) ∈ TB := tb_in4 (i := 136) rfl rfl
theorem t_4_137 : Jvm.Cond.methodLink "DropsDanceLaw" (116 : Nat) ({ cls := "DropsDance", name := "hump", desc := "(IZI)I" } : Jvm.MethodName) ∈ TB := tb_in4 (i := 137) rfl rfl
theorem t_4_138 : Jvm.Cond.instanceMethod ({ cls := "DropsDance", name := "hump", desc := "(IZI)I" } : Jvm.MethodName) ∈ TB := tb_in4 (i := 138) rfl rfl
theorem t_4_139 : Jvm.Cond.selects "DropsDance" ({ cls := "DropsDance", name := "hump", desc := "(IZI)I" } : Jvm.MethodName) ({ cls := "DropsDance", name := "hump", desc := "(IZI)I" } : Jvm.MethodName) ∈ TB := tb_in4 (i := 139) rfl rfl
theorem t_4_140 : Jvm.Cond.code ({ cls := "DropsDance", name := "hump", desc := "(IZI)I" } : Jvm.MethodName) prog_1_method_25_code (4 : Nat) (Option.some Jvm.ClassFile.FieldType.int) ∈ TB := tb_in4 (i := 140) rfl rfl
theorem t_4_141 : Jvm.Cond.methodLink "DropsDance" (283 : Nat) ({ cls := "DropsDance$Rules", name := "longestHeat", desc := "(IZ)I" } : Jvm.MethodName) ∈ TB := tb_in4 (i := 141) rfl rfl
theorem t_4_142 : Jvm.Cond.instanceMethod ({ cls := "DropsDance$Rules", name := "longestHeat", desc := "(IZ)I" } : Jvm.MethodName) ∈ TB := tb_in4 (i := 142) rfl rfl
theorem t_4_143 : Jvm.Cond.selects "DropsDance$Rules" ({ cls := "DropsDance$Rules", name := "longestHeat", desc := "(IZ)I" } : Jvm.MethodName) ({ cls := "DropsDance$Rules", name := "longestHeat", desc := "(IZ)I" } : Jvm.MethodName) ∈ TB := tb_in4 (i := 143) rfl rfl
theorem t_4_144 : Jvm.Cond.code ({ cls := "DropsDance$Rules", name := "longestHeat", desc := "(IZ)I" } : Jvm.MethodName) prog_7_method_16_code (5 : Nat) (Option.some Jvm.ClassFile.FieldType.int) ∈ TB := tb_in4 (i := 144) rfl rfl
theorem t_4_145 : Jvm.Cond.methodLink "DropsDance$Rules" (53 : Nat) ({ cls := "DropsDance$Rules", name := "lifeOf", desc := "(IIZ)I" } : Jvm.MethodName) ∈ TB := tb_in4 (i := 145) rfl rfl
theorem t_4_146 : Jvm.Cond.methodLink "DropsDance" (287 : Nat) ({ cls := "DropsDance$Rules", name := "shortestLife", desc := "(IZ)I" } : Jvm.MethodName) ∈ TB := tb_in4 (i := 146) rfl rfl
theorem t_4_147 : Jvm.Cond.instanceMethod ({ cls := "DropsDance$Rules", name := "shortestLife", desc := "(IZ)I" } : Jvm.MethodName) ∈ TB := tb_in4 (i := 147) rfl rfl
theorem t_4_148 : Jvm.Cond.selects "DropsDance$Rules" ({ cls := "DropsDance$Rules", name := "shortestLife", desc := "(IZ)I" } : Jvm.MethodName) ({ cls := "DropsDance$Rules", name := "shortestLife", desc := "(IZ)I" } : Jvm.MethodName) ∈ TB := tb_in4 (i := 148) rfl rfl
theorem t_4_149 : Jvm.Cond.code ({ cls := "DropsDance$Rules", name := "shortestLife", desc := "(IZ)I" } : Jvm.MethodName) prog_7_method_17_code (5 : Nat) (Option.some Jvm.ClassFile.FieldType.int) ∈ TB := tb_in4 (i := 149) rfl rfl
theorem t_4_150 : Jvm.Cond.methodLink "DropsDance$Rules" (56 : Nat) ({ cls := "java/lang/Math", name := "min", desc := "(II)I" } : Jvm.MethodName) ∈ TB := tb_in4 (i := 150) rfl rfl
theorem t_4_151 : Jvm.Cond.methodLink "DropsDance" (290 : Nat) ({ cls := "DropsDance$Rules", name := "firstLonger", desc := "(IZ)I" } : Jvm.MethodName) ∈ TB := tb_in4 (i := 151) rfl rfl
theorem t_4_152 : Jvm.Cond.instanceMethod ({ cls := "DropsDance$Rules", name := "firstLonger", desc := "(IZ)I" } : Jvm.MethodName) ∈ TB := tb_in4 (i := 152) rfl rfl
theorem t_4_153 : Jvm.Cond.selects "DropsDance$Rules" ({ cls := "DropsDance$Rules", name := "firstLonger", desc := "(IZ)I" } : Jvm.MethodName) ({ cls := "DropsDance$Rules", name := "firstLonger", desc := "(IZ)I" } : Jvm.MethodName) ∈ TB := tb_in4 (i := 153) rfl rfl
theorem t_4_154 : Jvm.Cond.code ({ cls := "DropsDance$Rules", name := "firstLonger", desc := "(IZ)I" } : Jvm.MethodName) prog_7_method_18_code (4 : Nat) (Option.some Jvm.ClassFile.FieldType.int) ∈ TB := tb_in4 (i := 154) rfl rfl
theorem t_4_155 : Jvm.Cond.methodLink "DropsDanceLaw" (121 : Nat) ({ cls := "DropsDance", name := "hot", desc := "(IIZI)I" } : Jvm.MethodName) ∈ TB := tb_in4 (i := 155) rfl rfl
theorem t_4_156 : Jvm.Cond.instanceMethod ({ cls := "DropsDance", name := "hot", desc := "(IIZI)I" } : Jvm.MethodName) ∈ TB := tb_in4 (i := 156) rfl rfl
theorem t_4_157 : Jvm.Cond.selects "DropsDance" ({ cls := "DropsDance", name := "hot", desc := "(IIZI)I" } : Jvm.MethodName) ({ cls := "DropsDance", name := "hot", desc := "(IIZI)I" } : Jvm.MethodName) ∈ TB := tb_in4 (i := 157) rfl rfl
theorem t_4_158 : Jvm.Cond.code ({ cls := "DropsDance", name := "hot", desc := "(IIZI)I" } : Jvm.MethodName) prog_1_method_26_code (9 : Nat) (Option.some Jvm.ClassFile.FieldType.int) ∈ TB := tb_in4 (i := 158) rfl rfl
theorem t_4_159 : Jvm.Cond.methodLink "DropsDanceLaw" (126 : Nat) ({ cls := "DropsDance", name := "odds", desc := "(IIII)J" } : Jvm.MethodName) ∈ TB := tb_in4 (i := 159) rfl rfl
theorem t_4_160 : Jvm.Cond.instanceMethod ({ cls := "DropsDance", name := "odds", desc := "(IIII)J" } : Jvm.MethodName) ∈ TB := tb_in4 (i := 160) rfl rfl
theorem t_4_161 : Jvm.Cond.selects "DropsDance" ({ cls := "DropsDance", name := "odds", desc := "(IIII)J" } : Jvm.MethodName) ({ cls := "DropsDance", name := "odds", desc := "(IIII)J" } : Jvm.MethodName) ∈ TB := tb_in4 (i := 161) rfl rfl
theorem t_4_162 : Jvm.Cond.code ({ cls := "DropsDance", name := "odds", desc := "(IIII)J" } : Jvm.MethodName) prog_1_method_27_code (10 : Nat) (Option.some Jvm.ClassFile.FieldType.long) ∈ TB := tb_in4 (i := 162) rfl rfl
theorem t_4_163 : Jvm.Cond.methodLink "DropsDance" (293 : Nat) ({ cls := "DropsDance$Roller", name := "beenIn", desc := "(LDropsDance$Scene;III)J" } : Jvm.MethodName) ∈ TB := tb_in4 (i := 163) rfl rfl
theorem t_4_164 : Jvm.Cond.instanceMethod ({ cls := "DropsDance$Roller", name := "beenIn", desc := "(LDropsDance$Scene;III)J" } : Jvm.MethodName) ∈ TB := tb_in4 (i := 164) rfl rfl
theorem t_4_165 : Jvm.Cond.selects "DropsDance$Roller" ({ cls := "DropsDance$Roller", name := "beenIn", desc := "(LDropsDance$Scene;III)J" } : Jvm.MethodName) ({ cls := "DropsDance$Roller", name := "beenIn", desc := "(LDropsDance$Scene;III)J" } : Jvm.MethodName) ∈ TB := tb_in4 (i := 165) rfl rfl
theorem t_4_166 : Jvm.Cond.code ({ cls := "DropsDance$Roller", name := "beenIn", desc := "(LDropsDance$Scene;III)J" } : Jvm.MethodName) prog_6_method_2_code (8 : Nat) (Option.some Jvm.ClassFile.FieldType.long) ∈ TB := tb_in4 (i := 166) rfl rfl
theorem t_4_168 : Jvm.Cond.methodLink "DropsDance$Roller" (22 : Nat) ({ cls := "java/util/Arrays", name := "fill", desc := "([JJ)V" } : Jvm.MethodName) ∈ TB := tb_in4 (i := 168) rfl rfl
theorem t_4_169 : Jvm.Cond.static ({ cls := "java/util/Arrays", name := "fill", desc := "([JJ)V" } : Jvm.MethodName) ∈ TB := tb_in4 (i := 169) rfl rfl
theorem t_4_170 : Jvm.Cond.code ({ cls := "java/util/Arrays", name := "fill", desc := "([JJ)V" } : Jvm.MethodName) prog_20_method_101_code (5 : Nat) (Option.none : Option Jvm.ClassFile.FieldType) ∈ TB := tb_in4 (i := 170) rfl rfl
theorem t_4_171 : Jvm.Cond.constantLong "DropsDance$Roller" (28 : Nat) (4 : Int64) ∈ TB := tb_in4 (i := 171) rfl rfl
theorem t_4_172 : Jvm.Cond.methodLink "DropsDance$Roller" (30 : Nat) ({ cls := "DropsDance$Roller", name := "takeOut", desc := "(I)J" } : Jvm.MethodName) ∈ TB := tb_in4 (i := 172) rfl rfl
theorem t_4_174 : Jvm.Cond.instanceMethod ({ cls := "DropsDance$Roller", name := "takeOut", desc := "(I)J" } : Jvm.MethodName) ∈ TB := tb_in4 (i := 174) rfl rfl
theorem t_4_175 : Jvm.Cond.code ({ cls := "DropsDance$Roller", name := "takeOut", desc := "(I)J" } : Jvm.MethodName) prog_6_method_3_code (4 : Nat) (Option.some Jvm.ClassFile.FieldType.long) ∈ TB := tb_in4 (i := 175) rfl rfl
theorem t_4_176 : Jvm.Cond.methodLink "DropsDance$Roller" (34 : Nat) ({ cls := "DropsDance$Roller", name := "rollAll", desc := "(LDropsDance$Scene;)V" } : Jvm.MethodName) ∈ TB := tb_in4 (i := 176) rfl rfl
theorem t_4_178 : Jvm.Cond.instanceMethod ({ cls := "DropsDance$Roller", name := "rollAll", desc := "(LDropsDance$Scene;)V" } : Jvm.MethodName) ∈ TB := tb_in4 (i := 178) rfl rfl
theorem t_4_179 : Jvm.Cond.code ({ cls := "DropsDance$Roller", name := "rollAll", desc := "(LDropsDance$Scene;)V" } : Jvm.MethodName) prog_6_method_4_code (5 : Nat) (Option.none : Option Jvm.ClassFile.FieldType) ∈ TB := tb_in4 (i := 179) rfl rfl
theorem t_4_180 : Jvm.Cond.methodLink "DropsDance$Roller" (38 : Nat) ({ cls := "DropsDance$Roller", name := "rolledTo", desc := "(LDropsDance$Scene;II)I" } : Jvm.MethodName) ∈ TB := tb_in4 (i := 180) rfl rfl
theorem t_4_181 : Jvm.Cond.static ({ cls := "DropsDance$Roller", name := "rolledTo", desc := "(LDropsDance$Scene;II)I" } : Jvm.MethodName) ∈ TB := tb_in4 (i := 181) rfl rfl
theorem t_4_182 : Jvm.Cond.code ({ cls := "DropsDance$Roller", name := "rolledTo", desc := "(LDropsDance$Scene;II)I" } : Jvm.MethodName) prog_6_method_5_code (5 : Nat) (Option.some Jvm.ClassFile.FieldType.int) ∈ TB := tb_in4 (i := 182) rfl rfl
theorem t_4_183 : Jvm.Cond.methodLink "DropsDance$Roller" (48 : Nat) ({ cls := "DropsDance$Scene", name := "kindAt", desc := "(I)I" } : Jvm.MethodName) ∈ TB := tb_in4 (i := 183) rfl rfl
theorem t_4_186 : Jvm.Cond.methodLink "DropsDance$Roller" (42 : Nat) ({ cls := "java/lang/System", name := "arraycopy", desc := "(Ljava/lang/Object;ILjava/lang/Object;II)V" } : Jvm.MethodName) ∈ TB := tb_in4 (i := 186) rfl rfl
theorem t_4_187 : Jvm.Cond.methodLink "DropsDanceLaw" (131 : Nat) ({ cls := "DropsDance", name := "cools", desc := "(III)I" } : Jvm.MethodName) ∈ TB := tb_in4 (i := 187) rfl rfl
theorem t_4_188 : Jvm.Cond.instanceMethod ({ cls := "DropsDance", name := "cools", desc := "(III)I" } : Jvm.MethodName) ∈ TB := tb_in4 (i := 188) rfl rfl
theorem t_4_189 : Jvm.Cond.selects "DropsDance" ({ cls := "DropsDance", name := "cools", desc := "(III)I" } : Jvm.MethodName) ({ cls := "DropsDance", name := "cools", desc := "(III)I" } : Jvm.MethodName) ∈ TB := tb_in4 (i := 189) rfl rfl
theorem t_4_190 : Jvm.Cond.code ({ cls := "DropsDance", name := "cools", desc := "(III)I" } : Jvm.MethodName) prog_1_method_28_code (8 : Nat) (Option.some Jvm.ClassFile.FieldType.int) ∈ TB := tb_in4 (i := 190) rfl rfl
theorem t_4_191 : Jvm.Cond.methodLink "DropsDance" (297 : Nat) ({ cls := "DropsDance$Rules", name := "lossTouching", desc := "(I)I" } : Jvm.MethodName) ∈ TB := tb_in4 (i := 191) rfl rfl
theorem t_4_192 : Jvm.Cond.methodLink "DropsDance" (300 : Nat) ({ cls := "java/lang/Math", name := "max", desc := "(II)I" } : Jvm.MethodName) ∈ TB := tb_in4 (i := 192) rfl rfl
theorem t_4_193 : Jvm.Cond.methodLink "DropsDanceLaw" (135 : Nat) ({ cls := "DropsDance", name := "saw", desc := "(IIZI)I" } : Jvm.MethodName) ∈ TB := tb_in4 (i := 193) rfl rfl
theorem t_4_194 : Jvm.Cond.instanceMethod ({ cls := "DropsDance", name := "saw", desc := "(IIZI)I" } : Jvm.MethodName) ∈ TB := tb_in4 (i := 194) rfl rfl
theorem t_4_195 : Jvm.Cond.selects "DropsDance" ({ cls := "DropsDance", name := "saw", desc := "(IIZI)I" } : Jvm.MethodName) ({ cls := "DropsDance", name := "saw", desc := "(IIZI)I" } : Jvm.MethodName) ∈ TB := tb_in4 (i := 195) rfl rfl
theorem t_4_196 : Jvm.Cond.code ({ cls := "DropsDance", name := "saw", desc := "(IIZI)I" } : Jvm.MethodName) prog_1_method_29_code (5 : Nat) (Option.some Jvm.ClassFile.FieldType.int) ∈ TB := tb_in4 (i := 196) rfl rfl
theorem t_4_197 : Jvm.Cond.methodLink "DropsDance" (306 : Nat) ({ cls := "DropsDance$ToldLives", name := "tell", desc := "(IIZI)Z" } : Jvm.MethodName) ∈ TB := tb_in4 (i := 197) rfl rfl
theorem t_4_198 : Jvm.Cond.instanceMethod ({ cls := "DropsDance$ToldLives", name := "tell", desc := "(IIZI)Z" } : Jvm.MethodName) ∈ TB := tb_in4 (i := 198) rfl rfl
theorem t_4_199 : Jvm.Cond.selects "DropsDance$ToldLives" ({ cls := "DropsDance$ToldLives", name := "tell", desc := "(IIZI)Z" } : Jvm.MethodName) ({ cls := "DropsDance$ToldLives", name := "tell", desc := "(IIZI)Z" } : Jvm.MethodName) ∈ TB := tb_in4 (i := 199) rfl rfl
theorem t_4_200 : Jvm.Cond.code ({ cls := "DropsDance$ToldLives", name := "tell", desc := "(IIZI)Z" } : Jvm.MethodName) prog_11_method_2_code (5 : Nat) (Option.some Jvm.ClassFile.FieldType.boolean) ∈ TB := tb_in4 (i := 200) rfl rfl
theorem t_4_201 : Jvm.Cond.methodLink "DropsDanceLaw" (139 : Nat) ({ cls := "DropsDance", name := "forget", desc := "()I" } : Jvm.MethodName) ∈ TB := tb_in4 (i := 201) rfl rfl
theorem t_4_202 : Jvm.Cond.instanceMethod ({ cls := "DropsDance", name := "forget", desc := "()I" } : Jvm.MethodName) ∈ TB := tb_in4 (i := 202) rfl rfl
theorem t_4_203 : Jvm.Cond.selects "DropsDance" ({ cls := "DropsDance", name := "forget", desc := "()I" } : Jvm.MethodName) ({ cls := "DropsDance", name := "forget", desc := "()I" } : Jvm.MethodName) ∈ TB := tb_in4 (i := 203) rfl rfl
theorem t_4_204 : Jvm.Cond.code ({ cls := "DropsDance", name := "forget", desc := "()I" } : Jvm.MethodName) prog_1_method_30_code (2 : Nat) (Option.some Jvm.ClassFile.FieldType.int) ∈ TB := tb_in4 (i := 204) rfl rfl
theorem t_4_205 : Jvm.Cond.methodLink "DropsDanceLaw" (143 : Nat) ({ cls := "DropsDance", name := "fits", desc := "(I)I" } : Jvm.MethodName) ∈ TB := tb_in4 (i := 205) rfl rfl
theorem t_4_206 : Jvm.Cond.instanceMethod ({ cls := "DropsDance", name := "fits", desc := "(I)I" } : Jvm.MethodName) ∈ TB := tb_in4 (i := 206) rfl rfl
theorem t_4_207 : Jvm.Cond.selects "DropsDance" ({ cls := "DropsDance", name := "fits", desc := "(I)I" } : Jvm.MethodName) ({ cls := "DropsDance", name := "fits", desc := "(I)I" } : Jvm.MethodName) ∈ TB := tb_in4 (i := 207) rfl rfl
theorem t_4_208 : Jvm.Cond.code ({ cls := "DropsDance", name := "fits", desc := "(I)I" } : Jvm.MethodName) prog_1_method_31_code (6 : Nat) (Option.some Jvm.ClassFile.FieldType.int) ∈ TB := tb_in4 (i := 208) rfl rfl
theorem t_4_209 : Jvm.Cond.fieldLink "DropsDance" (310 : Nat) "DropsDance" "RULE_LEAST" "[I" ∈ TB := tb_in4 (i := 209) rfl rfl
theorem t_4_210 : Jvm.Cond.fieldLink "DropsDance" (313 : Nat) "DropsDance" "RULE_MOST" "[I" ∈ TB := tb_in4 (i := 210) rfl rfl
theorem t_4_211 : Jvm.Cond.methodLink "DropsDance" (316 : Nat) ({ cls := "DropsDance$ToldLives", name := "allSo", desc := "(LDropsDance$Rules;I)Z" } : Jvm.MethodName) ∈ TB := tb_in4 (i := 211) rfl rfl
theorem t_4_212 : Jvm.Cond.instanceMethod ({ cls := "DropsDance$ToldLives", name := "allSo", desc := "(LDropsDance$Rules;I)Z" } : Jvm.MethodName) ∈ TB := tb_in4 (i := 212) rfl rfl
theorem t_4_213 : Jvm.Cond.selects "DropsDance$ToldLives" ({ cls := "DropsDance$ToldLives", name := "allSo", desc := "(LDropsDance$Rules;I)Z" } : Jvm.MethodName) ({ cls := "DropsDance$ToldLives", name := "allSo", desc := "(LDropsDance$Rules;I)Z" } : Jvm.MethodName) ∈ TB := tb_in4 (i := 213) rfl rfl
theorem t_4_214 : Jvm.Cond.code ({ cls := "DropsDance$ToldLives", name := "allSo", desc := "(LDropsDance$Rules;I)Z" } : Jvm.MethodName) prog_11_method_4_code (4 : Nat) (Option.some Jvm.ClassFile.FieldType.boolean) ∈ TB := tb_in4 (i := 214) rfl rfl
theorem t_4_215 : Jvm.Cond.methodLink "DropsDance$ToldLives" (39 : Nat) ({ cls := "DropsDance$ToldLives", name := "isSo", desc := "(ILDropsDance$Rules;I)Z" } : Jvm.MethodName) ∈ TB := tb_in4 (i := 215) rfl rfl
theorem t_4_216 : Jvm.Cond.instanceMethod ({ cls := "DropsDance$ToldLives", name := "isSo", desc := "(ILDropsDance$Rules;I)Z" } : Jvm.MethodName) ∈ TB := tb_in4 (i := 216) rfl rfl
theorem t_4_217 : Jvm.Cond.selects "DropsDance$ToldLives" ({ cls := "DropsDance$ToldLives", name := "isSo", desc := "(ILDropsDance$Rules;I)Z" } : Jvm.MethodName) ({ cls := "DropsDance$ToldLives", name := "isSo", desc := "(ILDropsDance$Rules;I)Z" } : Jvm.MethodName) ∈ TB := tb_in4 (i := 217) rfl rfl
theorem t_4_218 : Jvm.Cond.code ({ cls := "DropsDance$ToldLives", name := "isSo", desc := "(ILDropsDance$Rules;I)Z" } : Jvm.MethodName) prog_11_method_3_code (5 : Nat) (Option.some Jvm.ClassFile.FieldType.boolean) ∈ TB := tb_in4 (i := 218) rfl rfl
theorem t_4_219 : Jvm.Cond.methodLink "DropsDance$ToldLives" (29 : Nat) ({ cls := "DropsDance$Rules", name := "value", desc := "(I)I" } : Jvm.MethodName) ∈ TB := tb_in4 (i := 219) rfl rfl
theorem t_4_220 : Jvm.Cond.methodLink "DropsDance$ToldLives" (35 : Nat) ({ cls := "DropsDance$Rules", name := "lifeBy", desc := "(IIZ)I" } : Jvm.MethodName) ∈ TB := tb_in4 (i := 220) rfl rfl
theorem t_4_221 : Jvm.Cond.methodLink "DropsDanceLaw" (147 : Nat) ({ cls := "DropsDance", name := "right", desc := "()I" } : Jvm.MethodName) ∈ TB := tb_in4 (i := 221) rfl rfl
theorem t_4_222 : Jvm.Cond.instanceMethod ({ cls := "DropsDance", name := "right", desc := "()I" } : Jvm.MethodName) ∈ TB := tb_in4 (i := 222) rfl rfl
theorem t_4_223 : Jvm.Cond.selects "DropsDance" ({ cls := "DropsDance", name := "right", desc := "()I" } : Jvm.MethodName) ({ cls := "DropsDance", name := "right", desc := "()I" } : Jvm.MethodName) ∈ TB := tb_in4 (i := 223) rfl rfl
theorem t_4_224 : Jvm.Cond.code ({ cls := "DropsDance", name := "right", desc := "()I" } : Jvm.MethodName) prog_1_method_32_code (3 : Nat) (Option.some Jvm.ClassFile.FieldType.int) ∈ TB := tb_in4 (i := 224) rfl rfl
theorem t_4_225 : Jvm.Cond.methodLink "DropsDance" (319 : Nat) ({ cls := "DropsDance$ToldLives", name := "isSo", desc := "(ILDropsDance$Rules;I)Z" } : Jvm.MethodName) ∈ TB := tb_in4 (i := 225) rfl rfl
theorem t_4_226 : Jvm.Cond.methodLink "DropsDanceLaw" (151 : Nat) ({ cls := "DropsDance", name := "sheet", desc := "(III)I" } : Jvm.MethodName) ∈ TB := tb_in4 (i := 226) rfl rfl
theorem t_4_227 : Jvm.Cond.instanceMethod ({ cls := "DropsDance", name := "sheet", desc := "(III)I" } : Jvm.MethodName) ∈ TB := tb_in4 (i := 227) rfl rfl
theorem t_4_228 : Jvm.Cond.selects "DropsDance" ({ cls := "DropsDance", name := "sheet", desc := "(III)I" } : Jvm.MethodName) ({ cls := "DropsDance", name := "sheet", desc := "(III)I" } : Jvm.MethodName) ∈ TB := tb_in4 (i := 228) rfl rfl
theorem t_4_229 : Jvm.Cond.code ({ cls := "DropsDance", name := "sheet", desc := "(III)I" } : Jvm.MethodName) prog_1_method_33_code (4 : Nat) (Option.some Jvm.ClassFile.FieldType.int) ∈ TB := tb_in4 (i := 229) rfl rfl
theorem t_4_230 : Jvm.Cond.methodLink "DropsDance" (323 : Nat) ({ cls := "DropsDance", name := "isSheet", desc := "(I)Z" } : Jvm.MethodName) ∈ TB := tb_in4 (i := 230) rfl rfl
theorem t_4_231 : Jvm.Cond.static ({ cls := "DropsDance", name := "isSheet", desc := "(I)Z" } : Jvm.MethodName) ∈ TB := tb_in4 (i := 231) rfl rfl
theorem t_4_232 : Jvm.Cond.code ({ cls := "DropsDance", name := "isSheet", desc := "(I)Z" } : Jvm.MethodName) prog_1_method_45_code (1 : Nat) (Option.some Jvm.ClassFile.FieldType.boolean) ∈ TB := tb_in4 (i := 232) rfl rfl
theorem t_4_233 : Jvm.Cond.methodLink "DropsDance" (326 : Nat) ({ cls := "DropsDance", name := "isLane", desc := "(I)Z" } : Jvm.MethodName) ∈ TB := tb_in4 (i := 233) rfl rfl
theorem t_4_234 : Jvm.Cond.static ({ cls := "DropsDance", name := "isLane", desc := "(I)Z" } : Jvm.MethodName) ∈ TB := tb_in4 (i := 234) rfl rfl
theorem t_4_235 : Jvm.Cond.code ({ cls := "DropsDance", name := "isLane", desc := "(I)Z" } : Jvm.MethodName) prog_1_method_46_code (1 : Nat) (Option.some Jvm.ClassFile.FieldType.boolean) ∈ TB := tb_in4 (i := 235) rfl rfl
theorem t_4_236 : Jvm.Cond.methodLink "DropsDance" (329 : Nat) ({ cls := "DropsDance$Sheet", name := "becomeNew", desc := "(II)V" } : Jvm.MethodName) ∈ TB := tb_in4 (i := 236) rfl rfl
theorem t_4_237 : Jvm.Cond.instanceMethod ({ cls := "DropsDance$Sheet", name := "becomeNew", desc := "(II)V" } : Jvm.MethodName) ∈ TB := tb_in4 (i := 237) rfl rfl
theorem t_4_238 : Jvm.Cond.selects "DropsDance$Sheet" ({ cls := "DropsDance$Sheet", name := "becomeNew", desc := "(II)V" } : Jvm.MethodName) ({ cls := "DropsDance$Sheet", name := "becomeNew", desc := "(II)V" } : Jvm.MethodName) ∈ TB := tb_in4 (i := 238) rfl rfl
theorem t_4_239 : Jvm.Cond.code ({ cls := "DropsDance$Sheet", name := "becomeNew", desc := "(II)V" } : Jvm.MethodName) prog_9_method_2_code (3 : Nat) (Option.none : Option Jvm.ClassFile.FieldType) ∈ TB := tb_in4 (i := 239) rfl rfl
theorem t_5_0 : Jvm.Cond.methodLink "DropsDance$Sheet" (22 : Nat) ({ cls := "java/util/Arrays", name := "fill", desc := "([II)V" } : Jvm.MethodName) ∈ TB := tb_in5 (i := 0) rfl rfl
theorem t_5_1 : Jvm.Cond.methodLink "DropsDanceLaw" (155 : Nat) ({ cls := "DropsDance", name := "lay", desc := "(III)I" } : Jvm.MethodName) ∈ TB := tb_in5 (i := 1) rfl rfl
theorem t_5_2 : Jvm.Cond.instanceMethod ({ cls := "DropsDance", name := "lay", desc := "(III)I" } : Jvm.MethodName) ∈ TB := tb_in5 (i := 2) rfl rfl
theorem t_5_3 : Jvm.Cond.selects "DropsDance" ({ cls := "DropsDance", name := "lay", desc := "(III)I" } : Jvm.MethodName) ({ cls := "DropsDance", name := "lay", desc := "(III)I" } : Jvm.MethodName) ∈ TB := tb_in5 (i := 3) rfl rfl
theorem t_5_4 : Jvm.Cond.code ({ cls := "DropsDance", name := "lay", desc := "(III)I" } : Jvm.MethodName) prog_1_method_34_code (5 : Nat) (Option.some Jvm.ClassFile.FieldType.int) ∈ TB := tb_in5 (i := 4) rfl rfl
theorem t_5_5 : Jvm.Cond.methodLink "DropsDance" (333 : Nat) ({ cls := "DropsDance$Sheet", name := "faultAt", desc := "(I)I" } : Jvm.MethodName) ∈ TB := tb_in5 (i := 5) rfl rfl
theorem t_5_6 : Jvm.Cond.instanceMethod ({ cls := "DropsDance$Sheet", name := "faultAt", desc := "(I)I" } : Jvm.MethodName) ∈ TB := tb_in5 (i := 6) rfl rfl
theorem t_5_7 : Jvm.Cond.selects "DropsDance$Sheet" ({ cls := "DropsDance$Sheet", name := "faultAt", desc := "(I)I" } : Jvm.MethodName) ({ cls := "DropsDance$Sheet", name := "faultAt", desc := "(I)I" } : Jvm.MethodName) ∈ TB := tb_in5 (i := 7) rfl rfl
theorem t_5_8 : Jvm.Cond.code ({ cls := "DropsDance$Sheet", name := "faultAt", desc := "(I)I" } : Jvm.MethodName) prog_9_method_3_code (2 : Nat) (Option.some Jvm.ClassFile.FieldType.int) ∈ TB := tb_in5 (i := 8) rfl rfl
theorem t_5_9 : Jvm.Cond.methodLink "DropsDance" (336 : Nat) ({ cls := "DropsDance$Sheet", name := "write", desc := "(II)V" } : Jvm.MethodName) ∈ TB := tb_in5 (i := 9) rfl rfl
theorem t_5_10 : Jvm.Cond.instanceMethod ({ cls := "DropsDance$Sheet", name := "write", desc := "(II)V" } : Jvm.MethodName) ∈ TB := tb_in5 (i := 10) rfl rfl
theorem t_5_11 : Jvm.Cond.selects "DropsDance$Sheet" ({ cls := "DropsDance$Sheet", name := "write", desc := "(II)V" } : Jvm.MethodName) ({ cls := "DropsDance$Sheet", name := "write", desc := "(II)V" } : Jvm.MethodName) ∈ TB := tb_in5 (i := 11) rfl rfl
theorem t_5_12 : Jvm.Cond.code ({ cls := "DropsDance$Sheet", name := "write", desc := "(II)V" } : Jvm.MethodName) prog_9_method_5_code (3 : Nat) (Option.none : Option Jvm.ClassFile.FieldType) ∈ TB := tb_in5 (i := 12) rfl rfl
theorem t_5_13 : Jvm.Cond.methodLink "DropsDance$Sheet" (28 : Nat) ({ cls := "DropsDance$Sheet", name := "faultAt", desc := "(I)I" } : Jvm.MethodName) ∈ TB := tb_in5 (i := 13) rfl rfl
theorem t_5_14 : Jvm.Cond.methodLink "DropsDanceLaw" (159 : Nat) ({ cls := "DropsDance", name := "read", desc := "(IIII)I" } : Jvm.MethodName) ∈ TB := tb_in5 (i := 14) rfl rfl
theorem t_5_15 : Jvm.Cond.instanceMethod ({ cls := "DropsDance", name := "read", desc := "(IIII)I" } : Jvm.MethodName) ∈ TB := tb_in5 (i := 15) rfl rfl
theorem t_5_16 : Jvm.Cond.selects "DropsDance" ({ cls := "DropsDance", name := "read", desc := "(IIII)I" } : Jvm.MethodName) ({ cls := "DropsDance", name := "read", desc := "(IIII)I" } : Jvm.MethodName) ∈ TB := tb_in5 (i := 16) rfl rfl
theorem t_5_17 : Jvm.Cond.code ({ cls := "DropsDance", name := "read", desc := "(IIII)I" } : Jvm.MethodName) prog_1_method_35_code (13 : Nat) (Option.some Jvm.ClassFile.FieldType.int) ∈ TB := tb_in5 (i := 17) rfl rfl
theorem t_5_18 : Jvm.Cond.methodLink "DropsDance" (340 : Nat) ({ cls := "DropsDance$Sheet", name := "faultOfDrop", desc := "(III)I" } : Jvm.MethodName) ∈ TB := tb_in5 (i := 18) rfl rfl
theorem t_5_19 : Jvm.Cond.instanceMethod ({ cls := "DropsDance$Sheet", name := "faultOfDrop", desc := "(III)I" } : Jvm.MethodName) ∈ TB := tb_in5 (i := 19) rfl rfl
theorem t_5_20 : Jvm.Cond.selects "DropsDance$Sheet" ({ cls := "DropsDance$Sheet", name := "faultOfDrop", desc := "(III)I" } : Jvm.MethodName) ({ cls := "DropsDance$Sheet", name := "faultOfDrop", desc := "(III)I" } : Jvm.MethodName) ∈ TB := tb_in5 (i := 20) rfl rfl
theorem t_5_21 : Jvm.Cond.code ({ cls := "DropsDance$Sheet", name := "faultOfDrop", desc := "(III)I" } : Jvm.MethodName) prog_9_method_4_code (5 : Nat) (Option.some Jvm.ClassFile.FieldType.int) ∈ TB := tb_in5 (i := 21) rfl rfl
theorem t_5_22 : Jvm.Cond.methodLink "DropsDance" (343 : Nat) ({ cls := "DropsDance$Sheet", name := "valueAt", desc := "(I)I" } : Jvm.MethodName) ∈ TB := tb_in5 (i := 22) rfl rfl
theorem t_5_23 : Jvm.Cond.instanceMethod ({ cls := "DropsDance$Sheet", name := "valueAt", desc := "(I)I" } : Jvm.MethodName) ∈ TB := tb_in5 (i := 23) rfl rfl
theorem t_5_24 : Jvm.Cond.selects "DropsDance$Sheet" ({ cls := "DropsDance$Sheet", name := "valueAt", desc := "(I)I" } : Jvm.MethodName) ({ cls := "DropsDance$Sheet", name := "valueAt", desc := "(I)I" } : Jvm.MethodName) ∈ TB := tb_in5 (i := 24) rfl rfl
theorem t_5_25 : Jvm.Cond.code ({ cls := "DropsDance$Sheet", name := "valueAt", desc := "(I)I" } : Jvm.MethodName) prog_9_method_6_code (2 : Nat) (Option.some Jvm.ClassFile.FieldType.int) ∈ TB := tb_in5 (i := 25) rfl rfl
theorem t_5_26 : Jvm.Cond.methodLink "DropsDanceLaw" (163 : Nat) ({ cls := "DropsDance", name := "torn", desc := "()I" } : Jvm.MethodName) ∈ TB := tb_in5 (i := 26) rfl rfl
theorem t_5_27 : Jvm.Cond.instanceMethod ({ cls := "DropsDance", name := "torn", desc := "()I" } : Jvm.MethodName) ∈ TB := tb_in5 (i := 27) rfl rfl
theorem t_5_28 : Jvm.Cond.selects "DropsDance" ({ cls := "DropsDance", name := "torn", desc := "()I" } : Jvm.MethodName) ({ cls := "DropsDance", name := "torn", desc := "()I" } : Jvm.MethodName) ∈ TB := tb_in5 (i := 28) rfl rfl
theorem t_5_29 : Jvm.Cond.code ({ cls := "DropsDance", name := "torn", desc := "()I" } : Jvm.MethodName) prog_1_method_36_code (1 : Nat) (Option.some Jvm.ClassFile.FieldType.int) ∈ TB := tb_in5 (i := 29) rfl rfl
theorem t_5_30 : Jvm.Cond.methodLink "DropsDanceLaw" (167 : Nat) ({ cls := "DropsDance", name := "count", desc := "(I)I" } : Jvm.MethodName) ∈ TB := tb_in5 (i := 30) rfl rfl
theorem t_5_31 : Jvm.Cond.instanceMethod ({ cls := "DropsDance", name := "count", desc := "(I)I" } : Jvm.MethodName) ∈ TB := tb_in5 (i := 31) rfl rfl
theorem t_5_32 : Jvm.Cond.selects "DropsDance" ({ cls := "DropsDance", name := "count", desc := "(I)I" } : Jvm.MethodName) ({ cls := "DropsDance", name := "count", desc := "(I)I" } : Jvm.MethodName) ∈ TB := tb_in5 (i := 32) rfl rfl
theorem t_5_33 : Jvm.Cond.code ({ cls := "DropsDance", name := "count", desc := "(I)I" } : Jvm.MethodName) prog_1_method_37_code (2 : Nat) (Option.some Jvm.ClassFile.FieldType.int) ∈ TB := tb_in5 (i := 33) rfl rfl
theorem t_5_34 : Jvm.Cond.methodLink "DropsDance" (346 : Nat) ({ cls := "DropsDance", name := "howManyImages", desc := "()I" } : Jvm.MethodName) ∈ TB := tb_in5 (i := 34) rfl rfl
theorem t_5_36 : Jvm.Cond.instanceMethod ({ cls := "DropsDance", name := "howManyImages", desc := "()I" } : Jvm.MethodName) ∈ TB := tb_in5 (i := 36) rfl rfl
theorem t_5_37 : Jvm.Cond.code ({ cls := "DropsDance", name := "howManyImages", desc := "()I" } : Jvm.MethodName) prog_1_method_39_code (3 : Nat) (Option.some Jvm.ClassFile.FieldType.int) ∈ TB := tb_in5 (i := 37) rfl rfl
theorem t_5_38 : Jvm.Cond.methodLink "DropsDance" (349 : Nat) ({ cls := "DropsDance$Scene", name := "howManyHoles", desc := "()I" } : Jvm.MethodName) ∈ TB := tb_in5 (i := 38) rfl rfl
theorem t_5_39 : Jvm.Cond.instanceMethod ({ cls := "DropsDance$Scene", name := "howManyHoles", desc := "()I" } : Jvm.MethodName) ∈ TB := tb_in5 (i := 39) rfl rfl
theorem t_5_40 : Jvm.Cond.selects "DropsDance$Scene" ({ cls := "DropsDance$Scene", name := "howManyHoles", desc := "()I" } : Jvm.MethodName) ({ cls := "DropsDance$Scene", name := "howManyHoles", desc := "()I" } : Jvm.MethodName) ∈ TB := tb_in5 (i := 40) rfl rfl
theorem t_5_41 : Jvm.Cond.code ({ cls := "DropsDance$Scene", name := "howManyHoles", desc := "()I" } : Jvm.MethodName) prog_8_method_13_code (3 : Nat) (Option.some Jvm.ClassFile.FieldType.int) ∈ TB := tb_in5 (i := 41) rfl rfl
theorem t_5_42 : Jvm.Cond.classLink "DropsDanceLaw" (10 : Nat) "DropsDanceModel" ∈ TB := tb_in5 (i := 42) rfl rfl
theorem t_5_43 : Jvm.Cond.instantiable "DropsDanceModel" (29 : Nat) ∈ TB := tb_in5 (i := 43) rfl rfl
theorem t_5_44 : Jvm.Cond.methodLink "DropsDanceLaw" (12 : Nat) ({ cls := "DropsDanceModel", name := "<init>", desc := "()V" } : Jvm.MethodName) ∈ TB := tb_in5 (i := 44) rfl rfl
theorem t_5_45 : Jvm.Cond.instanceMethod ({ cls := "DropsDanceModel", name := "<init>", desc := "()V" } : Jvm.MethodName) ∈ TB := tb_in5 (i := 45) rfl rfl
theorem t_5_46 : Jvm.Cond.code ({ cls := "DropsDanceModel", name := "<init>", desc := "()V" } : Jvm.MethodName) prog_13_method_1_code (2 : Nat) (Option.none : Option Jvm.ClassFile.FieldType) ∈ TB := tb_in5 (i := 46) rfl rfl
theorem t_5_47 : Jvm.Cond.methodLink "DropsDanceModel" (1 : Nat) ({ cls := "java/lang/Object", name := "<init>", desc := "()V" } : Jvm.MethodName) ∈ TB := tb_in5 (i := 47) rfl rfl
theorem t_5_48 : Jvm.Cond.methodLink "DropsDanceModel" (54 : Nat) ({ cls := "DropsDanceModel", name := "firstDraft", desc := "()V" } : Jvm.MethodName) ∈ TB := tb_in5 (i := 48) rfl rfl
theorem t_5_50 : Jvm.Cond.instanceMethod ({ cls := "DropsDanceModel", name := "firstDraft", desc := "()V" } : Jvm.MethodName) ∈ TB := tb_in5 (i := 50) rfl rfl
theorem t_5_51 : Jvm.Cond.code ({ cls := "DropsDanceModel", name := "firstDraft", desc := "()V" } : Jvm.MethodName) prog_13_method_6_code (2 : Nat) (Option.none : Option Jvm.ClassFile.FieldType) ∈ TB := tb_in5 (i := 51) rfl rfl
theorem t_5_52 : Jvm.Cond.methodLink "DropsDanceModel" (57 : Nat) ({ cls := "DropsDanceModel", name := "keepDraft", desc := "()V" } : Jvm.MethodName) ∈ TB := tb_in5 (i := 52) rfl rfl
theorem t_5_54 : Jvm.Cond.instanceMethod ({ cls := "DropsDanceModel", name := "keepDraft", desc := "()V" } : Jvm.MethodName) ∈ TB := tb_in5 (i := 54) rfl rfl
theorem t_5_55 : Jvm.Cond.code ({ cls := "DropsDanceModel", name := "keepDraft", desc := "()V" } : Jvm.MethodName) prog_13_method_7_code (3 : Nat) (Option.none : Option Jvm.ClassFile.FieldType) ∈ TB := tb_in5 (i := 55) rfl rfl
theorem t_5_56 : Jvm.Cond.fieldLink "DropsDanceModel" (7 : Nat) "DropsDanceModel" "st" "[I" ∈ TB := tb_in5 (i := 56) rfl rfl
theorem t_5_57 : Jvm.Cond.fieldLink "DropsDanceModel" (13 : Nat) "DropsDanceModel" "isKept" "[Z" ∈ TB := tb_in5 (i := 57) rfl rfl
theorem t_5_58 : Jvm.Cond.fieldLink "DropsDanceModel" (17 : Nat) "DropsDanceModel" "rule" "[I" ∈ TB := tb_in5 (i := 58) rfl rfl
theorem t_5_59 : Jvm.Cond.fieldLink "DropsDanceModel" (20 : Nat) "DropsDanceModel" "dRule" "[I" ∈ TB := tb_in5 (i := 59) rfl rfl
theorem t_5_60 : Jvm.Cond.fieldLink "DropsDanceModel" (23 : Nat) "DropsDanceModel" "isTold" "[Z" ∈ TB := tb_in5 (i := 60) rfl rfl
theorem t_5_61 : Jvm.Cond.fieldLink "DropsDanceModel" (60 : Nat) "DropsDanceModel" "dRows" "I" ∈ TB := tb_in5 (i := 61) rfl rfl
theorem t_5_62 : Jvm.Cond.fieldLink "DropsDanceModel" (26 : Nat) "DropsDanceModel" "dPlate" "[I" ∈ TB := tb_in5 (i := 62) rfl rfl
theorem t_5_63 : Jvm.Cond.fieldLink "DropsDanceModel" (29 : Nat) "DropsDanceModel" "tape" "[I" ∈ TB := tb_in5 (i := 63) rfl rfl
theorem t_5_64 : Jvm.Cond.fieldLink "DropsDanceModel" (67 : Nat) "DropsDanceModel" "taped" "I" ∈ TB := tb_in5 (i := 64) rfl rfl
theorem t_5_65 : Jvm.Cond.fieldLink "DropsDanceModel" (85 : Nat) "DropsDanceModel" "pos" "I" ∈ TB := tb_in5 (i := 65) rfl rfl
theorem t_5_66 : Jvm.Cond.fieldLink "DropsDanceModel" (79 : Nat) "DropsDanceModel" "from" "I" ∈ TB := tb_in5 (i := 66) rfl rfl
theorem t_5_67 : Jvm.Cond.fieldLink "DropsDanceModel" (96 : Nat) "DropsDanceModel" "sort" "I" ∈ TB := tb_in5 (i := 67) rfl rfl
theorem t_5_68 : Jvm.Cond.fieldLink "DropsDanceModel" (107 : Nat) "DropsDanceModel" "value" "I" ∈ TB := tb_in5 (i := 68) rfl rfl
theorem t_5_69 : Jvm.Cond.fieldLink "DropsDanceModel" (76 : Nat) "DropsDanceModel" "fault" "I" ∈ TB := tb_in5 (i := 69) rfl rfl
theorem t_5_70 : Jvm.Cond.fieldLink "DropsDanceModel" (82 : Nat) "DropsDanceModel" "wrongAt" "I" ∈ TB := tb_in5 (i := 70) rfl rfl
theorem t_5_71 : Jvm.Cond.fieldLink "DropsDanceModel" (223 : Nat) "DropsDanceModel" "oneAt" "I" ∈ TB := tb_in5 (i := 71) rfl rfl
theorem t_5_72 : Jvm.Cond.fieldLink "DropsDanceModel" (226 : Nat) "DropsDanceModel" "oneBig" "I" ∈ TB := tb_in5 (i := 72) rfl rfl
theorem t_5_73 : Jvm.Cond.fieldLink "DropsDanceModel" (229 : Nat) "DropsDanceModel" "oneWay" "I" ∈ TB := tb_in5 (i := 73) rfl rfl
theorem t_5_74 : Jvm.Cond.fieldLink "DropsDanceModel" (232 : Nat) "DropsDanceModel" "oneGone" "I" ∈ TB := tb_in5 (i := 74) rfl rfl
theorem t_5_75 : Jvm.Cond.fieldLink "DropsDanceModel" (235 : Nat) "DropsDanceModel" "oneWhen" "I" ∈ TB := tb_in5 (i := 75) rfl rfl
theorem t_5_76 : Jvm.Cond.fieldLink "DropsDanceModel" (32 : Nat) "DropsDanceModel" "seen" "[I" ∈ TB := tb_in5 (i := 76) rfl rfl
theorem t_5_77 : Jvm.Cond.fieldLink "DropsDanceModel" (35 : Nat) "DropsDanceModel" "waysTo" "[J" ∈ TB := tb_in5 (i := 77) rfl rfl
theorem t_5_78 : Jvm.Cond.fieldLink "DropsDanceModel" (39 : Nat) "DropsDanceModel" "waysThen" "[J" ∈ TB := tb_in5 (i := 78) rfl rfl
theorem t_5_79 : Jvm.Cond.fieldLink "DropsDanceModel" (64 : Nat) "DropsDanceModel" "saws" "I" ∈ TB := tb_in5 (i := 79) rfl rfl
theorem t_5_80 : Jvm.Cond.fieldLink "DropsDanceModel" (42 : Nat) "DropsDanceModel" "saw" "[I" ∈ TB := tb_in5 (i := 80) rfl rfl
theorem t_5_81 : Jvm.Cond.fieldLink "DropsDanceModel" (45 : Nat) "DropsDanceModel" "lanes" "[I" ∈ TB := tb_in5 (i := 81) rfl rfl
theorem t_5_82 : Jvm.Cond.fieldLink "DropsDanceModel" (48 : Nat) "DropsDanceModel" "sizes" "[I" ∈ TB := tb_in5 (i := 82) rfl rfl
theorem t_5_83 : Jvm.Cond.fieldLink "DropsDanceModel" (51 : Nat) "DropsDanceModel" "cells" "[I" ∈ TB := tb_in5 (i := 83) rfl rfl
theorem t_5_84 : Jvm.Cond.fieldLink "DropsDanceModel" (319 : Nat) "DropsDanceModel" "torn" "I" ∈ TB := tb_in5 (i := 84) rfl rfl
theorem t_5_85 : Jvm.Cond.laysFinal "DropsDanceModel" "DropsDanceModel" "st" "[I" ∈ TB := tb_in5 (i := 85) rfl rfl
theorem t_5_87 : Jvm.Cond.laysFinal "DropsDanceModel" "DropsDanceModel" "isKept" "[Z" ∈ TB := tb_in5 (i := 87) rfl rfl
theorem t_5_89 : Jvm.Cond.laysFinal "DropsDanceModel" "DropsDanceModel" "rule" "[I" ∈ TB := tb_in5 (i := 89) rfl rfl
theorem t_5_91 : Jvm.Cond.laysFinal "DropsDanceModel" "DropsDanceModel" "dRule" "[I" ∈ TB := tb_in5 (i := 91) rfl rfl
theorem t_5_93 : Jvm.Cond.laysFinal "DropsDanceModel" "DropsDanceModel" "isTold" "[Z" ∈ TB := tb_in5 (i := 93) rfl rfl
theorem t_5_95 : Jvm.Cond.lays "DropsDanceModel" "DropsDanceModel" "dRows" "I" ∈ TB := tb_in5 (i := 95) rfl rfl
theorem t_5_97 : Jvm.Cond.laysFinal "DropsDanceModel" "DropsDanceModel" "dPlate" "[I" ∈ TB := tb_in5 (i := 97) rfl rfl
theorem t_5_99 : Jvm.Cond.laysFinal "DropsDanceModel" "DropsDanceModel" "tape" "[I" ∈ TB := tb_in5 (i := 99) rfl rfl
theorem t_5_101 : Jvm.Cond.lays "DropsDanceModel" "DropsDanceModel" "taped" "I" ∈ TB := tb_in5 (i := 101) rfl rfl
theorem t_5_103 : Jvm.Cond.lays "DropsDanceModel" "DropsDanceModel" "pos" "I" ∈ TB := tb_in5 (i := 103) rfl rfl
theorem t_5_105 : Jvm.Cond.lays "DropsDanceModel" "DropsDanceModel" "from" "I" ∈ TB := tb_in5 (i := 105) rfl rfl
theorem t_5_107 : Jvm.Cond.lays "DropsDanceModel" "DropsDanceModel" "sort" "I" ∈ TB := tb_in5 (i := 107) rfl rfl
theorem t_5_109 : Jvm.Cond.lays "DropsDanceModel" "DropsDanceModel" "value" "I" ∈ TB := tb_in5 (i := 109) rfl rfl
theorem t_5_111 : Jvm.Cond.lays "DropsDanceModel" "DropsDanceModel" "fault" "I" ∈ TB := tb_in5 (i := 111) rfl rfl
theorem t_5_113 : Jvm.Cond.lays "DropsDanceModel" "DropsDanceModel" "wrongAt" "I" ∈ TB := tb_in5 (i := 113) rfl rfl
theorem t_5_115 : Jvm.Cond.lays "DropsDanceModel" "DropsDanceModel" "oneAt" "I" ∈ TB := tb_in5 (i := 115) rfl rfl
theorem t_5_117 : Jvm.Cond.lays "DropsDanceModel" "DropsDanceModel" "oneBig" "I" ∈ TB := tb_in5 (i := 117) rfl rfl
theorem t_5_119 : Jvm.Cond.lays "DropsDanceModel" "DropsDanceModel" "oneWay" "I" ∈ TB := tb_in5 (i := 119) rfl rfl
theorem t_5_121 : Jvm.Cond.lays "DropsDanceModel" "DropsDanceModel" "oneGone" "I" ∈ TB := tb_in5 (i := 121) rfl rfl
theorem t_5_123 : Jvm.Cond.lays "DropsDanceModel" "DropsDanceModel" "oneWhen" "I" ∈ TB := tb_in5 (i := 123) rfl rfl
theorem t_5_125 : Jvm.Cond.laysFinal "DropsDanceModel" "DropsDanceModel" "seen" "[I" ∈ TB := tb_in5 (i := 125) rfl rfl
theorem t_5_127 : Jvm.Cond.laysFinal "DropsDanceModel" "DropsDanceModel" "waysTo" "[J" ∈ TB := tb_in5 (i := 127) rfl rfl
theorem t_5_129 : Jvm.Cond.laysFinal "DropsDanceModel" "DropsDanceModel" "waysThen" "[J" ∈ TB := tb_in5 (i := 129) rfl rfl
theorem t_5_131 : Jvm.Cond.lays "DropsDanceModel" "DropsDanceModel" "saws" "I" ∈ TB := tb_in5 (i := 131) rfl rfl
theorem t_5_133 : Jvm.Cond.laysFinal "DropsDanceModel" "DropsDanceModel" "saw" "[I" ∈ TB := tb_in5 (i := 133) rfl rfl
theorem t_5_135 : Jvm.Cond.laysFinal "DropsDanceModel" "DropsDanceModel" "lanes" "[I" ∈ TB := tb_in5 (i := 135) rfl rfl
theorem t_5_137 : Jvm.Cond.laysFinal "DropsDanceModel" "DropsDanceModel" "sizes" "[I" ∈ TB := tb_in5 (i := 137) rfl rfl
theorem t_5_139 : Jvm.Cond.laysFinal "DropsDanceModel" "DropsDanceModel" "cells" "[I" ∈ TB := tb_in5 (i := 139) rfl rfl
theorem t_5_141 : Jvm.Cond.lays "DropsDanceModel" "DropsDanceModel" "torn" "I" ∈ TB := tb_in5 (i := 141) rfl rfl
theorem t_5_144 : Jvm.Cond.methodLink "DropsDanceLaw" (19 : Nat) ({ cls := "DropsDanceModel", name := "feed", desc := "(J)I" } : Jvm.MethodName) ∈ TB := tb_in5 (i := 144) rfl rfl
theorem t_5_145 : Jvm.Cond.instanceMethod ({ cls := "DropsDanceModel", name := "feed", desc := "(J)I" } : Jvm.MethodName) ∈ TB := tb_in5 (i := 145) rfl rfl
theorem t_5_146 : Jvm.Cond.selects "DropsDanceModel" ({ cls := "DropsDanceModel", name := "feed", desc := "(J)I" } : Jvm.MethodName) ({ cls := "DropsDanceModel", name := "feed", desc := "(J)I" } : Jvm.MethodName) ∈ TB := tb_in5 (i := 146) rfl rfl
theorem t_5_147 : Jvm.Cond.code ({ cls := "DropsDanceModel", name := "feed", desc := "(J)I" } : Jvm.MethodName) prog_13_method_8_code (4 : Nat) (Option.some Jvm.ClassFile.FieldType.int) ∈ TB := tb_in5 (i := 147) rfl rfl
theorem t_5_148 : Jvm.Cond.constantLong "DropsDanceModel" (70 : Nat) (255 : Int64) ∈ TB := tb_in5 (i := 148) rfl rfl
theorem t_5_149 : Jvm.Cond.methodLink "DropsDanceLaw" (24 : Nat) ({ cls := "DropsDanceModel", name := "end", desc := "(I)I" } : Jvm.MethodName) ∈ TB := tb_in5 (i := 149) rfl rfl
theorem t_5_150 : Jvm.Cond.instanceMethod ({ cls := "DropsDanceModel", name := "end", desc := "(I)I" } : Jvm.MethodName) ∈ TB := tb_in5 (i := 150) rfl rfl
theorem t_5_151 : Jvm.Cond.selects "DropsDanceModel" ({ cls := "DropsDanceModel", name := "end", desc := "(I)I" } : Jvm.MethodName) ({ cls := "DropsDanceModel", name := "end", desc := "(I)I" } : Jvm.MethodName) ∈ TB := tb_in5 (i := 151) rfl rfl
theorem t_5_152 : Jvm.Cond.code ({ cls := "DropsDanceModel", name := "end", desc := "(I)I" } : Jvm.MethodName) prog_13_method_9_code (3 : Nat) (Option.some Jvm.ClassFile.FieldType.int) ∈ TB := tb_in5 (i := 152) rfl rfl
theorem t_5_153 : Jvm.Cond.methodLink "DropsDanceModel" (72 : Nat) ({ cls := "DropsDanceModel", name := "in", desc := "(JJJ)Z" } : Jvm.MethodName) ∈ TB := tb_in5 (i := 153) rfl rfl
theorem t_5_154 : Jvm.Cond.static ({ cls := "DropsDanceModel", name := "in", desc := "(JJJ)Z" } : Jvm.MethodName) ∈ TB := tb_in5 (i := 154) rfl rfl
theorem t_5_155 : Jvm.Cond.code ({ cls := "DropsDanceModel", name := "in", desc := "(JJJ)Z" } : Jvm.MethodName) prog_13_method_3_code (6 : Nat) (Option.some Jvm.ClassFile.FieldType.boolean) ∈ TB := tb_in5 (i := 155) rfl rfl
theorem t_5_156 : Jvm.Cond.methodLink "DropsDanceLaw" (29 : Nat) ({ cls := "DropsDanceModel", name := "text", desc := "()I" } : Jvm.MethodName) ∈ TB := tb_in5 (i := 156) rfl rfl
theorem t_5_157 : Jvm.Cond.instanceMethod ({ cls := "DropsDanceModel", name := "text", desc := "()I" } : Jvm.MethodName) ∈ TB := tb_in5 (i := 157) rfl rfl
theorem t_5_158 : Jvm.Cond.selects "DropsDanceModel" ({ cls := "DropsDanceModel", name := "text", desc := "()I" } : Jvm.MethodName) ({ cls := "DropsDanceModel", name := "text", desc := "()I" } : Jvm.MethodName) ∈ TB := tb_in5 (i := 158) rfl rfl
theorem t_5_159 : Jvm.Cond.code ({ cls := "DropsDanceModel", name := "text", desc := "()I" } : Jvm.MethodName) prog_13_method_21_code (2 : Nat) (Option.some Jvm.ClassFile.FieldType.int) ∈ TB := tb_in5 (i := 159) rfl rfl
theorem t_5_160 : Jvm.Cond.methodLink "DropsDanceModel" (114 : Nat) ({ cls := "DropsDanceModel", name := "next", desc := "()V" } : Jvm.MethodName) ∈ TB := tb_in5 (i := 160) rfl rfl
theorem t_5_162 : Jvm.Cond.instanceMethod ({ cls := "DropsDanceModel", name := "next", desc := "()V" } : Jvm.MethodName) ∈ TB := tb_in5 (i := 162) rfl rfl
theorem t_5_163 : Jvm.Cond.code ({ cls := "DropsDanceModel", name := "next", desc := "()V" } : Jvm.MethodName) prog_13_method_14_code (2 : Nat) (Option.none : Option Jvm.ClassFile.FieldType) ∈ TB := tb_in5 (i := 163) rfl rfl
theorem t_5_164 : Jvm.Cond.methodLink "DropsDanceModel" (88 : Nat) ({ cls := "DropsDanceModel", name := "look", desc := "(I)I" } : Jvm.MethodName) ∈ TB := tb_in5 (i := 164) rfl rfl
theorem t_5_166 : Jvm.Cond.instanceMethod ({ cls := "DropsDanceModel", name := "look", desc := "(I)I" } : Jvm.MethodName) ∈ TB := tb_in5 (i := 166) rfl rfl
theorem t_5_167 : Jvm.Cond.code ({ cls := "DropsDanceModel", name := "look", desc := "(I)I" } : Jvm.MethodName) prog_13_method_11_code (2 : Nat) (Option.some Jvm.ClassFile.FieldType.int) ∈ TB := tb_in5 (i := 167) rfl rfl
theorem t_5_168 : Jvm.Cond.constantLong "DropsDanceModel" (99 : Nat) (97 : Int64) ∈ TB := tb_in5 (i := 168) rfl rfl
theorem t_5_169 : Jvm.Cond.constantLong "DropsDanceModel" (101 : Nat) (122 : Int64) ∈ TB := tb_in5 (i := 169) rfl rfl
theorem t_5_170 : Jvm.Cond.constantLong "DropsDanceModel" (103 : Nat) (48 : Int64) ∈ TB := tb_in5 (i := 170) rfl rfl
theorem t_5_171 : Jvm.Cond.constantLong "DropsDanceModel" (105 : Nat) (57 : Int64) ∈ TB := tb_in5 (i := 171) rfl rfl
theorem t_5_172 : Jvm.Cond.methodLink "DropsDanceModel" (110 : Nat) ({ cls := "DropsDanceModel", name := "needs", desc := "(ZI)V" } : Jvm.MethodName) ∈ TB := tb_in5 (i := 172) rfl rfl
theorem t_5_174 : Jvm.Cond.instanceMethod ({ cls := "DropsDanceModel", name := "needs", desc := "(ZI)V" } : Jvm.MethodName) ∈ TB := tb_in5 (i := 174) rfl rfl
theorem t_5_175 : Jvm.Cond.code ({ cls := "DropsDanceModel", name := "needs", desc := "(ZI)V" } : Jvm.MethodName) prog_13_method_10_code (3 : Nat) (Option.none : Option Jvm.ClassFile.FieldType) ∈ TB := tb_in5 (i := 175) rfl rfl
theorem t_5_176 : Jvm.Cond.methodLink "DropsDanceModel" (141 : Nat) ({ cls := "DropsDanceModel", name := "readLine", desc := "()V" } : Jvm.MethodName) ∈ TB := tb_in5 (i := 176) rfl rfl
theorem t_5_178 : Jvm.Cond.instanceMethod ({ cls := "DropsDanceModel", name := "readLine", desc := "()V" } : Jvm.MethodName) ∈ TB := tb_in5 (i := 178) rfl rfl
theorem t_5_179 : Jvm.Cond.code ({ cls := "DropsDanceModel", name := "readLine", desc := "()V" } : Jvm.MethodName) prog_13_method_20_code (2 : Nat) (Option.none : Option Jvm.ClassFile.FieldType) ∈ TB := tb_in5 (i := 179) rfl rfl
theorem t_5_180 : Jvm.Cond.methodLink "DropsDanceModel" (124 : Nat) ({ cls := "DropsDanceModel", name := "nameNow", desc := "()I" } : Jvm.MethodName) ∈ TB := tb_in5 (i := 180) rfl rfl
theorem t_5_182 : Jvm.Cond.instanceMethod ({ cls := "DropsDanceModel", name := "nameNow", desc := "()I" } : Jvm.MethodName) ∈ TB := tb_in5 (i := 182) rfl rfl
theorem t_5_183 : Jvm.Cond.code ({ cls := "DropsDanceModel", name := "nameNow", desc := "()I" } : Jvm.MethodName) prog_13_method_13_code (1 : Nat) (Option.some Jvm.ClassFile.FieldType.int) ∈ TB := tb_in5 (i := 183) rfl rfl
theorem t_5_184 : Jvm.Cond.methodLink "DropsDanceModel" (92 : Nat) ({ cls := "DropsDanceModel", name := "starts", desc := "(IIIII)Z" } : Jvm.MethodName) ∈ TB := tb_in5 (i := 184) rfl rfl
theorem t_5_186 : Jvm.Cond.instanceMethod ({ cls := "DropsDanceModel", name := "starts", desc := "(IIIII)Z" } : Jvm.MethodName) ∈ TB := tb_in5 (i := 186) rfl rfl
theorem t_5_187 : Jvm.Cond.code ({ cls := "DropsDanceModel", name := "starts", desc := "(IIIII)Z" } : Jvm.MethodName) prog_13_method_12_code (6 : Nat) (Option.some Jvm.ClassFile.FieldType.boolean) ∈ TB := tb_in5 (i := 187) rfl rfl
theorem t_5_188 : Jvm.Cond.methodLink "DropsDanceModel" (128 : Nat) ({ cls := "DropsDanceModel", name := "readRow", desc := "()V" } : Jvm.MethodName) ∈ TB := tb_in5 (i := 188) rfl rfl
theorem t_5_190 : Jvm.Cond.instanceMethod ({ cls := "DropsDanceModel", name := "readRow", desc := "()V" } : Jvm.MethodName) ∈ TB := tb_in5 (i := 190) rfl rfl
theorem t_5_191 : Jvm.Cond.code ({ cls := "DropsDanceModel", name := "readRow", desc := "()V" } : Jvm.MethodName) prog_13_method_17_code (3 : Nat) (Option.none : Option Jvm.ClassFile.FieldType) ∈ TB := tb_in5 (i := 191) rfl rfl
theorem t_5_192 : Jvm.Cond.methodLink "DropsDanceModel" (117 : Nat) ({ cls := "DropsDanceModel", name := "kindOf", desc := "(I)I" } : Jvm.MethodName) ∈ TB := tb_in5 (i := 192) rfl rfl
theorem t_5_193 : Jvm.Cond.static ({ cls := "DropsDanceModel", name := "kindOf", desc := "(I)I" } : Jvm.MethodName) ∈ TB := tb_in5 (i := 193) rfl rfl
theorem t_5_194 : Jvm.Cond.code ({ cls := "DropsDanceModel", name := "kindOf", desc := "(I)I" } : Jvm.MethodName) prog_13_method_16_code (1 : Nat) (Option.some Jvm.ClassFile.FieldType.int) ∈ TB := tb_in5 (i := 194) rfl rfl
theorem t_5_195 : Jvm.Cond.methodLink "DropsDanceModel" (120 : Nat) ({ cls := "DropsDanceModel", name := "flag", desc := "(Z)I" } : Jvm.MethodName) ∈ TB := tb_in5 (i := 195) rfl rfl
theorem t_5_196 : Jvm.Cond.static ({ cls := "DropsDanceModel", name := "flag", desc := "(Z)I" } : Jvm.MethodName) ∈ TB := tb_in5 (i := 196) rfl rfl
theorem t_5_197 : Jvm.Cond.code ({ cls := "DropsDanceModel", name := "flag", desc := "(Z)I" } : Jvm.MethodName) prog_13_method_4_code (1 : Nat) (Option.some Jvm.ClassFile.FieldType.int) ∈ TB := tb_in5 (i := 197) rfl rfl
theorem t_5_198 : Jvm.Cond.methodLink "DropsDanceModel" (131 : Nat) ({ cls := "DropsDanceModel", name := "lowest", desc := "(I)I" } : Jvm.MethodName) ∈ TB := tb_in5 (i := 198) rfl rfl
theorem t_5_200 : Jvm.Cond.instanceMethod ({ cls := "DropsDanceModel", name := "lowest", desc := "(I)I" } : Jvm.MethodName) ∈ TB := tb_in5 (i := 200) rfl rfl
theorem t_5_201 : Jvm.Cond.code ({ cls := "DropsDanceModel", name := "lowest", desc := "(I)I" } : Jvm.MethodName) prog_13_method_18_code (2 : Nat) (Option.some Jvm.ClassFile.FieldType.int) ∈ TB := tb_in5 (i := 201) rfl rfl
theorem t_5_202 : Jvm.Cond.methodLink "DropsDanceModel" (134 : Nat) ({ cls := "DropsDanceModel", name := "highest", desc := "(I)I" } : Jvm.MethodName) ∈ TB := tb_in5 (i := 202) rfl rfl
theorem t_5_204 : Jvm.Cond.instanceMethod ({ cls := "DropsDanceModel", name := "highest", desc := "(I)I" } : Jvm.MethodName) ∈ TB := tb_in5 (i := 204) rfl rfl
theorem t_5_205 : Jvm.Cond.code ({ cls := "DropsDanceModel", name := "highest", desc := "(I)I" } : Jvm.MethodName) prog_13_method_19_code (2 : Nat) (Option.some Jvm.ClassFile.FieldType.int) ∈ TB := tb_in5 (i := 205) rfl rfl
theorem t_5_206 : Jvm.Cond.methodLink "DropsDanceModel" (137 : Nat) ({ cls := "DropsDanceModel", name := "readNumber", desc := "(II)I" } : Jvm.MethodName) ∈ TB := tb_in5 (i := 206) rfl rfl
theorem t_5_208 : Jvm.Cond.instanceMethod ({ cls := "DropsDanceModel", name := "readNumber", desc := "(II)I" } : Jvm.MethodName) ∈ TB := tb_in5 (i := 208) rfl rfl
theorem t_5_209 : Jvm.Cond.code ({ cls := "DropsDanceModel", name := "readNumber", desc := "(II)I" } : Jvm.MethodName) prog_13_method_15_code (4 : Nat) (Option.some Jvm.ClassFile.FieldType.int) ∈ TB := tb_in5 (i := 209) rfl rfl
theorem t_5_210 : Jvm.Cond.methodLink "DropsDanceLaw" (33 : Nat) ({ cls := "DropsDanceModel", name := "fault", desc := "()I" } : Jvm.MethodName) ∈ TB := tb_in5 (i := 210) rfl rfl
theorem t_5_211 : Jvm.Cond.instanceMethod ({ cls := "DropsDanceModel", name := "fault", desc := "()I" } : Jvm.MethodName) ∈ TB := tb_in5 (i := 211) rfl rfl
theorem t_5_212 : Jvm.Cond.selects "DropsDanceModel" ({ cls := "DropsDanceModel", name := "fault", desc := "()I" } : Jvm.MethodName) ({ cls := "DropsDanceModel", name := "fault", desc := "()I" } : Jvm.MethodName) ∈ TB := tb_in5 (i := 212) rfl rfl
theorem t_5_213 : Jvm.Cond.code ({ cls := "DropsDanceModel", name := "fault", desc := "()I" } : Jvm.MethodName) prog_13_method_22_code (1 : Nat) (Option.some Jvm.ClassFile.FieldType.int) ∈ TB := tb_in5 (i := 213) rfl rfl
theorem t_5_214 : Jvm.Cond.methodLink "DropsDanceLaw" (37 : Nat) ({ cls := "DropsDanceModel", name := "rule", desc := "(I)I" } : Jvm.MethodName) ∈ TB := tb_in5 (i := 214) rfl rfl
theorem t_5_215 : Jvm.Cond.instanceMethod ({ cls := "DropsDanceModel", name := "rule", desc := "(I)I" } : Jvm.MethodName) ∈ TB := tb_in5 (i := 215) rfl rfl
theorem t_5_216 : Jvm.Cond.selects "DropsDanceModel" ({ cls := "DropsDanceModel", name := "rule", desc := "(I)I" } : Jvm.MethodName) ({ cls := "DropsDanceModel", name := "rule", desc := "(I)I" } : Jvm.MethodName) ∈ TB := tb_in5 (i := 216) rfl rfl
theorem t_5_217 : Jvm.Cond.code ({ cls := "DropsDanceModel", name := "rule", desc := "(I)I" } : Jvm.MethodName) prog_13_method_23_code (2 : Nat) (Option.some Jvm.ClassFile.FieldType.int) ∈ TB := tb_in5 (i := 217) rfl rfl
theorem t_5_218 : Jvm.Cond.constantLong "DropsDanceModel" (144 : Nat) (8 : Int64) ∈ TB := tb_in5 (i := 218) rfl rfl
theorem t_5_219 : Jvm.Cond.methodLink "DropsDanceLaw" (41 : Nat) ({ cls := "DropsDanceModel", name := "cell", desc := "(I)I" } : Jvm.MethodName) ∈ TB := tb_in5 (i := 219) rfl rfl
theorem t_5_220 : Jvm.Cond.instanceMethod ({ cls := "DropsDanceModel", name := "cell", desc := "(I)I" } : Jvm.MethodName) ∈ TB := tb_in5 (i := 220) rfl rfl
theorem t_5_221 : Jvm.Cond.selects "DropsDanceModel" ({ cls := "DropsDanceModel", name := "cell", desc := "(I)I" } : Jvm.MethodName) ({ cls := "DropsDanceModel", name := "cell", desc := "(I)I" } : Jvm.MethodName) ∈ TB := tb_in5 (i := 221) rfl rfl
theorem t_5_222 : Jvm.Cond.code ({ cls := "DropsDanceModel", name := "cell", desc := "(I)I" } : Jvm.MethodName) prog_13_method_25_code (2 : Nat) (Option.some Jvm.ClassFile.FieldType.int) ∈ TB := tb_in5 (i := 222) rfl rfl
theorem t_5_223 : Jvm.Cond.methodLink "DropsDanceModel" (148 : Nat) ({ cls := "DropsDanceModel", name := "isCell", desc := "(I)Z" } : Jvm.MethodName) ∈ TB := tb_in5 (i := 223) rfl rfl
theorem t_5_224 : Jvm.Cond.static ({ cls := "DropsDanceModel", name := "isCell", desc := "(I)Z" } : Jvm.MethodName) ∈ TB := tb_in5 (i := 224) rfl rfl
theorem t_5_225 : Jvm.Cond.code ({ cls := "DropsDanceModel", name := "isCell", desc := "(I)Z" } : Jvm.MethodName) prog_13_method_24_code (1 : Nat) (Option.some Jvm.ClassFile.FieldType.boolean) ∈ TB := tb_in5 (i := 225) rfl rfl
theorem t_5_226 : Jvm.Cond.constantLong "DropsDanceModel" (146 : Nat) (95 : Int64) ∈ TB := tb_in5 (i := 226) rfl rfl
theorem t_5_227 : Jvm.Cond.methodLink "DropsDanceLaw" (46 : Nat) ({ cls := "DropsDanceModel", name := "put", desc := "(II)I" } : Jvm.MethodName) ∈ TB := tb_in5 (i := 227) rfl rfl
theorem t_5_228 : Jvm.Cond.instanceMethod ({ cls := "DropsDanceModel", name := "put", desc := "(II)I" } : Jvm.MethodName) ∈ TB := tb_in5 (i := 228) rfl rfl
theorem t_5_229 : Jvm.Cond.selects "DropsDanceModel" ({ cls := "DropsDanceModel", name := "put", desc := "(II)I" } : Jvm.MethodName) ({ cls := "DropsDanceModel", name := "put", desc := "(II)I" } : Jvm.MethodName) ∈ TB := tb_in5 (i := 229) rfl rfl
theorem t_5_230 : Jvm.Cond.code ({ cls := "DropsDanceModel", name := "put", desc := "(II)I" } : Jvm.MethodName) prog_13_method_29_code (4 : Nat) (Option.some Jvm.ClassFile.FieldType.int) ∈ TB := tb_in5 (i := 230) rfl rfl
theorem t_5_231 : Jvm.Cond.constantLong "DropsDanceModel" (155 : Nat) (7 : Int64) ∈ TB := tb_in5 (i := 231) rfl rfl
theorem t_5_232 : Jvm.Cond.methodLink "DropsDanceModel" (157 : Nat) ({ cls := "DropsDanceModel", name := "isShut", desc := "(I)Z" } : Jvm.MethodName) ∈ TB := tb_in5 (i := 232) rfl rfl
theorem t_5_233 : Jvm.Cond.static ({ cls := "DropsDanceModel", name := "isShut", desc := "(I)Z" } : Jvm.MethodName) ∈ TB := tb_in5 (i := 233) rfl rfl
theorem t_5_234 : Jvm.Cond.code ({ cls := "DropsDanceModel", name := "isShut", desc := "(I)Z" } : Jvm.MethodName) prog_13_method_28_code (1 : Nat) (Option.some Jvm.ClassFile.FieldType.boolean) ∈ TB := tb_in5 (i := 234) rfl rfl
theorem t_5_235 : Jvm.Cond.methodLink "DropsDanceModel" (160 : Nat) ({ cls := "DropsDanceModel", name := "inCell", desc := "(II)I" } : Jvm.MethodName) ∈ TB := tb_in5 (i := 235) rfl rfl
theorem t_5_237 : Jvm.Cond.instanceMethod ({ cls := "DropsDanceModel", name := "inCell", desc := "(II)I" } : Jvm.MethodName) ∈ TB := tb_in5 (i := 237) rfl rfl
theorem t_5_238 : Jvm.Cond.code ({ cls := "DropsDanceModel", name := "inCell", desc := "(II)I" } : Jvm.MethodName) prog_13_method_27_code (4 : Nat) (Option.some Jvm.ClassFile.FieldType.int) ∈ TB := tb_in5 (i := 238) rfl rfl
theorem t_5_239 : Jvm.Cond.methodLink "DropsDanceModel" (152 : Nat) ({ cls := "DropsDanceModel", name := "isThere", desc := "(I)Z" } : Jvm.MethodName) ∈ TB := tb_in5 (i := 239) rfl rfl
theorem t_6_1 : Jvm.Cond.instanceMethod ({ cls := "DropsDanceModel", name := "isThere", desc := "(I)Z" } : Jvm.MethodName) ∈ TB := tb_in6 (i := 1) rfl rfl
theorem t_6_2 : Jvm.Cond.code ({ cls := "DropsDanceModel", name := "isThere", desc := "(I)Z" } : Jvm.MethodName) prog_13_method_26_code (2 : Nat) (Option.some Jvm.ClassFile.FieldType.boolean) ∈ TB := tb_in6 (i := 2) rfl rfl
theorem t_6_3 : Jvm.Cond.methodLink "DropsDanceLaw" (50 : Nat) ({ cls := "DropsDanceModel", name := "heat", desc := "(I)I" } : Jvm.MethodName) ∈ TB := tb_in6 (i := 3) rfl rfl
theorem t_6_4 : Jvm.Cond.instanceMethod ({ cls := "DropsDanceModel", name := "heat", desc := "(I)I" } : Jvm.MethodName) ∈ TB := tb_in6 (i := 4) rfl rfl
theorem t_6_5 : Jvm.Cond.selects "DropsDanceModel" ({ cls := "DropsDanceModel", name := "heat", desc := "(I)I" } : Jvm.MethodName) ({ cls := "DropsDanceModel", name := "heat", desc := "(I)I" } : Jvm.MethodName) ∈ TB := tb_in6 (i := 5) rfl rfl
theorem t_6_6 : Jvm.Cond.code ({ cls := "DropsDanceModel", name := "heat", desc := "(I)I" } : Jvm.MethodName) prog_13_method_30_code (2 : Nat) (Option.some Jvm.ClassFile.FieldType.int) ∈ TB := tb_in6 (i := 6) rfl rfl
theorem t_6_7 : Jvm.Cond.constantLong "DropsDanceModel" (163 : Nat) (99 : Int64) ∈ TB := tb_in6 (i := 7) rfl rfl
theorem t_6_8 : Jvm.Cond.methodLink "DropsDanceLaw" (55 : Nat) ({ cls := "DropsDanceModel", name := "drop", desc := "(III)I" } : Jvm.MethodName) ∈ TB := tb_in6 (i := 8) rfl rfl
theorem t_6_9 : Jvm.Cond.instanceMethod ({ cls := "DropsDanceModel", name := "drop", desc := "(III)I" } : Jvm.MethodName) ∈ TB := tb_in6 (i := 9) rfl rfl
theorem t_6_10 : Jvm.Cond.selects "DropsDanceModel" ({ cls := "DropsDanceModel", name := "drop", desc := "(III)I" } : Jvm.MethodName) ({ cls := "DropsDanceModel", name := "drop", desc := "(III)I" } : Jvm.MethodName) ∈ TB := tb_in6 (i := 10) rfl rfl
theorem t_6_11 : Jvm.Cond.code ({ cls := "DropsDanceModel", name := "drop", desc := "(III)I" } : Jvm.MethodName) prog_13_method_32_code (5 : Nat) (Option.some Jvm.ClassFile.FieldType.int) ∈ TB := tb_in6 (i := 11) rfl rfl
theorem t_6_12 : Jvm.Cond.methodLink "DropsDanceModel" (169 : Nat) ({ cls := "DropsDanceModel", name := "isDrop", desc := "(III)Z" } : Jvm.MethodName) ∈ TB := tb_in6 (i := 12) rfl rfl
theorem t_6_13 : Jvm.Cond.static ({ cls := "DropsDanceModel", name := "isDrop", desc := "(III)Z" } : Jvm.MethodName) ∈ TB := tb_in6 (i := 13) rfl rfl
theorem t_6_14 : Jvm.Cond.code ({ cls := "DropsDanceModel", name := "isDrop", desc := "(III)Z" } : Jvm.MethodName) prog_13_method_31_code (3 : Nat) (Option.some Jvm.ClassFile.FieldType.boolean) ∈ TB := tb_in6 (i := 14) rfl rfl
theorem t_6_15 : Jvm.Cond.constantLong "DropsDanceModel" (165 : Nat) (60 : Int64) ∈ TB := tb_in6 (i := 15) rfl rfl
theorem t_6_16 : Jvm.Cond.constantLong "DropsDanceModel" (167 : Nat) (3 : Int64) ∈ TB := tb_in6 (i := 16) rfl rfl
theorem t_6_17 : Jvm.Cond.methodLink "DropsDanceLaw" (59 : Nat) ({ cls := "DropsDanceModel", name := "go", desc := "(I)I" } : Jvm.MethodName) ∈ TB := tb_in6 (i := 17) rfl rfl
theorem t_6_18 : Jvm.Cond.instanceMethod ({ cls := "DropsDanceModel", name := "go", desc := "(I)I" } : Jvm.MethodName) ∈ TB := tb_in6 (i := 18) rfl rfl
theorem t_6_19 : Jvm.Cond.selects "DropsDanceModel" ({ cls := "DropsDanceModel", name := "go", desc := "(I)I" } : Jvm.MethodName) ({ cls := "DropsDanceModel", name := "go", desc := "(I)I" } : Jvm.MethodName) ∈ TB := tb_in6 (i := 19) rfl rfl
theorem t_6_20 : Jvm.Cond.code ({ cls := "DropsDanceModel", name := "go", desc := "(I)I" } : Jvm.MethodName) prog_13_method_45_code (4 : Nat) (Option.some Jvm.ClassFile.FieldType.int) ∈ TB := tb_in6 (i := 20) rfl rfl
theorem t_6_21 : Jvm.Cond.constantLong "DropsDanceModel" (212 : Nat) (200 : Int64) ∈ TB := tb_in6 (i := 21) rfl rfl
theorem t_6_22 : Jvm.Cond.methodLink "DropsDanceModel" (214 : Nat) ({ cls := "DropsDanceModel", name := "acts", desc := "(I)V" } : Jvm.MethodName) ∈ TB := tb_in6 (i := 22) rfl rfl
theorem t_6_24 : Jvm.Cond.instanceMethod ({ cls := "DropsDanceModel", name := "acts", desc := "(I)V" } : Jvm.MethodName) ∈ TB := tb_in6 (i := 24) rfl rfl
theorem t_6_25 : Jvm.Cond.code ({ cls := "DropsDanceModel", name := "acts", desc := "(I)V" } : Jvm.MethodName) prog_13_method_43_code (2 : Nat) (Option.none : Option Jvm.ClassFile.FieldType) ∈ TB := tb_in6 (i := 25) rfl rfl
theorem t_6_26 : Jvm.Cond.methodLink "DropsDanceModel" (196 : Nat) ({ cls := "DropsDanceModel", name := "touches", desc := "(I)Z" } : Jvm.MethodName) ∈ TB := tb_in6 (i := 26) rfl rfl
theorem t_6_28 : Jvm.Cond.instanceMethod ({ cls := "DropsDanceModel", name := "touches", desc := "(I)Z" } : Jvm.MethodName) ∈ TB := tb_in6 (i := 28) rfl rfl
theorem t_6_29 : Jvm.Cond.code ({ cls := "DropsDanceModel", name := "touches", desc := "(I)Z" } : Jvm.MethodName) prog_13_method_42_code (2 : Nat) (Option.some Jvm.ClassFile.FieldType.boolean) ∈ TB := tb_in6 (i := 29) rfl rfl
theorem t_6_30 : Jvm.Cond.methodLink "DropsDanceModel" (199 : Nat) ({ cls := "DropsDanceModel", name := "hisses", desc := "(II)I" } : Jvm.MethodName) ∈ TB := tb_in6 (i := 30) rfl rfl
theorem t_6_32 : Jvm.Cond.instanceMethod ({ cls := "DropsDanceModel", name := "hisses", desc := "(II)I" } : Jvm.MethodName) ∈ TB := tb_in6 (i := 32) rfl rfl
theorem t_6_33 : Jvm.Cond.code ({ cls := "DropsDanceModel", name := "hisses", desc := "(II)I" } : Jvm.MethodName) prog_13_method_37_code (3 : Nat) (Option.some Jvm.ClassFile.FieldType.int) ∈ TB := tb_in6 (i := 33) rfl rfl
theorem t_6_34 : Jvm.Cond.methodLink "DropsDanceModel" (176 : Nat) ({ cls := "DropsDanceModel", name := "less", desc := "(II)I" } : Jvm.MethodName) ∈ TB := tb_in6 (i := 34) rfl rfl
theorem t_6_35 : Jvm.Cond.static ({ cls := "DropsDanceModel", name := "less", desc := "(II)I" } : Jvm.MethodName) ∈ TB := tb_in6 (i := 35) rfl rfl
theorem t_6_36 : Jvm.Cond.code ({ cls := "DropsDanceModel", name := "less", desc := "(II)I" } : Jvm.MethodName) prog_13_method_5_code (2 : Nat) (Option.some Jvm.ClassFile.FieldType.int) ∈ TB := tb_in6 (i := 36) rfl rfl
theorem t_6_37 : Jvm.Cond.methodLink "DropsDanceModel" (202 : Nat) ({ cls := "DropsDanceModel", name := "loses", desc := "(II)V" } : Jvm.MethodName) ∈ TB := tb_in6 (i := 37) rfl rfl
theorem t_6_39 : Jvm.Cond.instanceMethod ({ cls := "DropsDanceModel", name := "loses", desc := "(II)V" } : Jvm.MethodName) ∈ TB := tb_in6 (i := 39) rfl rfl
theorem t_6_40 : Jvm.Cond.code ({ cls := "DropsDanceModel", name := "loses", desc := "(II)V" } : Jvm.MethodName) prog_13_method_39_code (3 : Nat) (Option.none : Option Jvm.ClassFile.FieldType) ∈ TB := tb_in6 (i := 40) rfl rfl
theorem t_6_41 : Jvm.Cond.methodLink "DropsDanceModel" (179 : Nat) ({ cls := "DropsDanceModel", name := "ends", desc := "(II)V" } : Jvm.MethodName) ∈ TB := tb_in6 (i := 41) rfl rfl
theorem t_6_43 : Jvm.Cond.instanceMethod ({ cls := "DropsDanceModel", name := "ends", desc := "(II)V" } : Jvm.MethodName) ∈ TB := tb_in6 (i := 43) rfl rfl
theorem t_6_44 : Jvm.Cond.code ({ cls := "DropsDanceModel", name := "ends", desc := "(II)V" } : Jvm.MethodName) prog_13_method_38_code (3 : Nat) (Option.none : Option Jvm.ClassFile.FieldType) ∈ TB := tb_in6 (i := 44) rfl rfl
theorem t_6_45 : Jvm.Cond.methodLink "DropsDanceModel" (205 : Nat) ({ cls := "DropsDanceModel", name := "thins", desc := "(II)I" } : Jvm.MethodName) ∈ TB := tb_in6 (i := 45) rfl rfl
theorem t_6_47 : Jvm.Cond.instanceMethod ({ cls := "DropsDanceModel", name := "thins", desc := "(II)I" } : Jvm.MethodName) ∈ TB := tb_in6 (i := 47) rfl rfl
theorem t_6_48 : Jvm.Cond.code ({ cls := "DropsDanceModel", name := "thins", desc := "(II)I" } : Jvm.MethodName) prog_13_method_36_code (3 : Nat) (Option.some Jvm.ClassFile.FieldType.int) ∈ TB := tb_in6 (i := 48) rfl rfl
theorem t_6_49 : Jvm.Cond.methodLink "DropsDanceModel" (208 : Nat) ({ cls := "DropsDanceModel", name := "goesOn", desc := "(I)V" } : Jvm.MethodName) ∈ TB := tb_in6 (i := 49) rfl rfl
theorem t_6_51 : Jvm.Cond.instanceMethod ({ cls := "DropsDanceModel", name := "goesOn", desc := "(I)V" } : Jvm.MethodName) ∈ TB := tb_in6 (i := 51) rfl rfl
theorem t_6_52 : Jvm.Cond.code ({ cls := "DropsDanceModel", name := "goesOn", desc := "(I)V" } : Jvm.MethodName) prog_13_method_41_code (7 : Nat) (Option.none : Option Jvm.ClassFile.FieldType) ∈ TB := tb_in6 (i := 52) rfl rfl
theorem t_6_53 : Jvm.Cond.methodLink "DropsDanceModel" (183 : Nat) ({ cls := "DropsDanceModel", name := "isTooth", desc := "(II)Z" } : Jvm.MethodName) ∈ TB := tb_in6 (i := 53) rfl rfl
theorem t_6_55 : Jvm.Cond.instanceMethod ({ cls := "DropsDanceModel", name := "isTooth", desc := "(II)Z" } : Jvm.MethodName) ∈ TB := tb_in6 (i := 55) rfl rfl
theorem t_6_56 : Jvm.Cond.code ({ cls := "DropsDanceModel", name := "isTooth", desc := "(II)Z" } : Jvm.MethodName) prog_13_method_40_code (3 : Nat) (Option.some Jvm.ClassFile.FieldType.boolean) ∈ TB := tb_in6 (i := 56) rfl rfl
theorem t_6_57 : Jvm.Cond.methodLink "DropsDanceModel" (187 : Nat) ({ cls := "DropsDanceModel", name := "draws", desc := "()I" } : Jvm.MethodName) ∈ TB := tb_in6 (i := 57) rfl rfl
theorem t_6_59 : Jvm.Cond.instanceMethod ({ cls := "DropsDanceModel", name := "draws", desc := "()I" } : Jvm.MethodName) ∈ TB := tb_in6 (i := 59) rfl rfl
theorem t_6_60 : Jvm.Cond.code ({ cls := "DropsDanceModel", name := "draws", desc := "()I" } : Jvm.MethodName) prog_13_method_35_code (1 : Nat) (Option.some Jvm.ClassFile.FieldType.int) ∈ TB := tb_in6 (i := 60) rfl rfl
theorem t_6_61 : Jvm.Cond.constant "DropsDanceModel" (175 : Nat) (1103515245 : Int32) ∈ TB := tb_in6 (i := 61) rfl rfl
theorem t_6_62 : Jvm.Cond.methodLink "DropsDanceModel" (190 : Nat) ({ cls := "DropsDanceModel", name := "nextTo", desc := "(II)I" } : Jvm.MethodName) ∈ TB := tb_in6 (i := 62) rfl rfl
theorem t_6_63 : Jvm.Cond.static ({ cls := "DropsDanceModel", name := "nextTo", desc := "(II)I" } : Jvm.MethodName) ∈ TB := tb_in6 (i := 63) rfl rfl
theorem t_6_64 : Jvm.Cond.code ({ cls := "DropsDanceModel", name := "nextTo", desc := "(II)I" } : Jvm.MethodName) prog_13_method_33_code (4 : Nat) (Option.some Jvm.ClassFile.FieldType.int) ∈ TB := tb_in6 (i := 64) rfl rfl
theorem t_6_65 : Jvm.Cond.constantLong "DropsDanceModel" (173 : Nat) (11 : Int64) ∈ TB := tb_in6 (i := 65) rfl rfl
theorem t_6_66 : Jvm.Cond.methodLink "DropsDanceModel" (193 : Nat) ({ cls := "DropsDanceModel", name := "isWall", desc := "(I)Z" } : Jvm.MethodName) ∈ TB := tb_in6 (i := 66) rfl rfl
theorem t_6_68 : Jvm.Cond.instanceMethod ({ cls := "DropsDanceModel", name := "isWall", desc := "(I)Z" } : Jvm.MethodName) ∈ TB := tb_in6 (i := 68) rfl rfl
theorem t_6_69 : Jvm.Cond.code ({ cls := "DropsDanceModel", name := "isWall", desc := "(I)Z" } : Jvm.MethodName) prog_13_method_34_code (2 : Nat) (Option.some Jvm.ClassFile.FieldType.boolean) ∈ TB := tb_in6 (i := 69) rfl rfl
theorem t_6_70 : Jvm.Cond.methodLink "DropsDanceModel" (217 : Nat) ({ cls := "DropsDanceModel", name := "thereMany", desc := "()I" } : Jvm.MethodName) ∈ TB := tb_in6 (i := 70) rfl rfl
theorem t_6_72 : Jvm.Cond.instanceMethod ({ cls := "DropsDanceModel", name := "thereMany", desc := "()I" } : Jvm.MethodName) ∈ TB := tb_in6 (i := 72) rfl rfl
theorem t_6_73 : Jvm.Cond.code ({ cls := "DropsDanceModel", name := "thereMany", desc := "()I" } : Jvm.MethodName) prog_13_method_44_code (3 : Nat) (Option.some Jvm.ClassFile.FieldType.int) ∈ TB := tb_in6 (i := 73) rfl rfl
theorem t_6_74 : Jvm.Cond.methodLink "DropsDanceLaw" (63 : Nat) ({ cls := "DropsDanceModel", name := "seed", desc := "(I)I" } : Jvm.MethodName) ∈ TB := tb_in6 (i := 74) rfl rfl
theorem t_6_75 : Jvm.Cond.instanceMethod ({ cls := "DropsDanceModel", name := "seed", desc := "(I)I" } : Jvm.MethodName) ∈ TB := tb_in6 (i := 75) rfl rfl
theorem t_6_76 : Jvm.Cond.selects "DropsDanceModel" ({ cls := "DropsDanceModel", name := "seed", desc := "(I)I" } : Jvm.MethodName) ({ cls := "DropsDanceModel", name := "seed", desc := "(I)I" } : Jvm.MethodName) ∈ TB := tb_in6 (i := 76) rfl rfl
theorem t_6_77 : Jvm.Cond.code ({ cls := "DropsDanceModel", name := "seed", desc := "(I)I" } : Jvm.MethodName) prog_13_method_46_code (3 : Nat) (Option.some Jvm.ClassFile.FieldType.int) ∈ TB := tb_in6 (i := 77) rfl rfl
theorem t_6_78 : Jvm.Cond.methodLink "DropsDanceLaw" (67 : Nat) ({ cls := "DropsDanceModel", name := "of", desc := "(II)I" } : Jvm.MethodName) ∈ TB := tb_in6 (i := 78) rfl rfl
theorem t_6_79 : Jvm.Cond.instanceMethod ({ cls := "DropsDanceModel", name := "of", desc := "(II)I" } : Jvm.MethodName) ∈ TB := tb_in6 (i := 79) rfl rfl
theorem t_6_80 : Jvm.Cond.selects "DropsDanceModel" ({ cls := "DropsDanceModel", name := "of", desc := "(II)I" } : Jvm.MethodName) ({ cls := "DropsDanceModel", name := "of", desc := "(II)I" } : Jvm.MethodName) ∈ TB := tb_in6 (i := 80) rfl rfl
theorem t_6_81 : Jvm.Cond.code ({ cls := "DropsDanceModel", name := "of", desc := "(II)I" } : Jvm.MethodName) prog_13_method_47_code (3 : Nat) (Option.some Jvm.ClassFile.FieldType.int) ∈ TB := tb_in6 (i := 81) rfl rfl
theorem t_6_82 : Jvm.Cond.methodLink "DropsDanceLaw" (71 : Nat) ({ cls := "DropsDanceModel", name := "at", desc := "(I)I" } : Jvm.MethodName) ∈ TB := tb_in6 (i := 82) rfl rfl
theorem t_6_83 : Jvm.Cond.instanceMethod ({ cls := "DropsDanceModel", name := "at", desc := "(I)I" } : Jvm.MethodName) ∈ TB := tb_in6 (i := 83) rfl rfl
theorem t_6_84 : Jvm.Cond.selects "DropsDanceModel" ({ cls := "DropsDanceModel", name := "at", desc := "(I)I" } : Jvm.MethodName) ({ cls := "DropsDanceModel", name := "at", desc := "(I)I" } : Jvm.MethodName) ∈ TB := tb_in6 (i := 84) rfl rfl
theorem t_6_85 : Jvm.Cond.code ({ cls := "DropsDanceModel", name := "at", desc := "(I)I" } : Jvm.MethodName) prog_13_method_48_code (2 : Nat) (Option.some Jvm.ClassFile.FieldType.int) ∈ TB := tb_in6 (i := 85) rfl rfl
theorem t_6_86 : Jvm.Cond.methodLink "DropsDanceLaw" (75 : Nat) ({ cls := "DropsDanceModel", name := "now", desc := "(I)I" } : Jvm.MethodName) ∈ TB := tb_in6 (i := 86) rfl rfl
theorem t_6_87 : Jvm.Cond.instanceMethod ({ cls := "DropsDanceModel", name := "now", desc := "(I)I" } : Jvm.MethodName) ∈ TB := tb_in6 (i := 87) rfl rfl
theorem t_6_88 : Jvm.Cond.selects "DropsDanceModel" ({ cls := "DropsDanceModel", name := "now", desc := "(I)I" } : Jvm.MethodName) ({ cls := "DropsDanceModel", name := "now", desc := "(I)I" } : Jvm.MethodName) ∈ TB := tb_in6 (i := 88) rfl rfl
theorem t_6_89 : Jvm.Cond.code ({ cls := "DropsDanceModel", name := "now", desc := "(I)I" } : Jvm.MethodName) prog_13_method_49_code (4 : Nat) (Option.some Jvm.ClassFile.FieldType.int) ∈ TB := tb_in6 (i := 89) rfl rfl
theorem t_6_90 : Jvm.Cond.methodLink "DropsDanceLaw" (79 : Nat) ({ cls := "DropsDanceModel", name := "points", desc := "(I)I" } : Jvm.MethodName) ∈ TB := tb_in6 (i := 90) rfl rfl
theorem t_6_91 : Jvm.Cond.instanceMethod ({ cls := "DropsDanceModel", name := "points", desc := "(I)I" } : Jvm.MethodName) ∈ TB := tb_in6 (i := 91) rfl rfl
theorem t_6_92 : Jvm.Cond.selects "DropsDanceModel" ({ cls := "DropsDanceModel", name := "points", desc := "(I)I" } : Jvm.MethodName) ({ cls := "DropsDanceModel", name := "points", desc := "(I)I" } : Jvm.MethodName) ∈ TB := tb_in6 (i := 92) rfl rfl
theorem t_6_93 : Jvm.Cond.code ({ cls := "DropsDanceModel", name := "points", desc := "(I)I" } : Jvm.MethodName) prog_13_method_50_code (2 : Nat) (Option.some Jvm.ClassFile.FieldType.int) ∈ TB := tb_in6 (i := 93) rfl rfl
theorem t_6_94 : Jvm.Cond.methodLink "DropsDanceLaw" (83 : Nat) ({ cls := "DropsDanceModel", name := "keep", desc := "(I)I" } : Jvm.MethodName) ∈ TB := tb_in6 (i := 94) rfl rfl
theorem t_6_95 : Jvm.Cond.instanceMethod ({ cls := "DropsDanceModel", name := "keep", desc := "(I)I" } : Jvm.MethodName) ∈ TB := tb_in6 (i := 95) rfl rfl
theorem t_6_96 : Jvm.Cond.selects "DropsDanceModel" ({ cls := "DropsDanceModel", name := "keep", desc := "(I)I" } : Jvm.MethodName) ({ cls := "DropsDanceModel", name := "keep", desc := "(I)I" } : Jvm.MethodName) ∈ TB := tb_in6 (i := 96) rfl rfl
theorem t_6_97 : Jvm.Cond.code ({ cls := "DropsDanceModel", name := "keep", desc := "(I)I" } : Jvm.MethodName) prog_13_method_52_code (3 : Nat) (Option.some Jvm.ClassFile.FieldType.int) ∈ TB := tb_in6 (i := 97) rfl rfl
theorem t_6_98 : Jvm.Cond.methodLink "DropsDanceModel" (220 : Nat) ({ cls := "DropsDanceModel", name := "copies", desc := "(II)V" } : Jvm.MethodName) ∈ TB := tb_in6 (i := 98) rfl rfl
theorem t_6_100 : Jvm.Cond.instanceMethod ({ cls := "DropsDanceModel", name := "copies", desc := "(II)V" } : Jvm.MethodName) ∈ TB := tb_in6 (i := 100) rfl rfl
theorem t_6_101 : Jvm.Cond.code ({ cls := "DropsDanceModel", name := "copies", desc := "(II)V" } : Jvm.MethodName) prog_13_method_51_code (4 : Nat) (Option.none : Option Jvm.ClassFile.FieldType) ∈ TB := tb_in6 (i := 101) rfl rfl
theorem t_6_102 : Jvm.Cond.methodLink "DropsDanceLaw" (87 : Nat) ({ cls := "DropsDanceModel", name := "back", desc := "(I)I" } : Jvm.MethodName) ∈ TB := tb_in6 (i := 102) rfl rfl
theorem t_6_103 : Jvm.Cond.instanceMethod ({ cls := "DropsDanceModel", name := "back", desc := "(I)I" } : Jvm.MethodName) ∈ TB := tb_in6 (i := 103) rfl rfl
theorem t_6_104 : Jvm.Cond.selects "DropsDanceModel" ({ cls := "DropsDanceModel", name := "back", desc := "(I)I" } : Jvm.MethodName) ({ cls := "DropsDanceModel", name := "back", desc := "(I)I" } : Jvm.MethodName) ∈ TB := tb_in6 (i := 104) rfl rfl
theorem t_6_105 : Jvm.Cond.code ({ cls := "DropsDanceModel", name := "back", desc := "(I)I" } : Jvm.MethodName) prog_13_method_53_code (2 : Nat) (Option.some Jvm.ClassFile.FieldType.int) ∈ TB := tb_in6 (i := 105) rfl rfl
theorem t_6_106 : Jvm.Cond.methodLink "DropsDanceLaw" (92 : Nat) ({ cls := "DropsDanceModel", name := "alone", desc := "(IIIII)I" } : Jvm.MethodName) ∈ TB := tb_in6 (i := 106) rfl rfl
theorem t_6_107 : Jvm.Cond.instanceMethod ({ cls := "DropsDanceModel", name := "alone", desc := "(IIIII)I" } : Jvm.MethodName) ∈ TB := tb_in6 (i := 107) rfl rfl
theorem t_6_108 : Jvm.Cond.selects "DropsDanceModel" ({ cls := "DropsDanceModel", name := "alone", desc := "(IIIII)I" } : Jvm.MethodName) ({ cls := "DropsDanceModel", name := "alone", desc := "(IIIII)I" } : Jvm.MethodName) ∈ TB := tb_in6 (i := 108) rfl rfl
theorem t_6_109 : Jvm.Cond.code ({ cls := "DropsDanceModel", name := "alone", desc := "(IIIII)I" } : Jvm.MethodName) prog_13_method_58_code (7 : Nat) (Option.some Jvm.ClassFile.FieldType.int) ∈ TB := tb_in6 (i := 109) rfl rfl
theorem t_6_110 : Jvm.Cond.constantLong "DropsDanceModel" (244 : Nat) (400 : Int64) ∈ TB := tb_in6 (i := 110) rfl rfl
theorem t_6_111 : Jvm.Cond.methodLink "DropsDanceModel" (246 : Nat) ({ cls := "DropsDanceModel", name := "sets", desc := "(III)V" } : Jvm.MethodName) ∈ TB := tb_in6 (i := 111) rfl rfl
theorem t_6_113 : Jvm.Cond.instanceMethod ({ cls := "DropsDanceModel", name := "sets", desc := "(III)V" } : Jvm.MethodName) ∈ TB := tb_in6 (i := 113) rfl rfl
theorem t_6_114 : Jvm.Cond.code ({ cls := "DropsDanceModel", name := "sets", desc := "(III)V" } : Jvm.MethodName) prog_13_method_54_code (4 : Nat) (Option.none : Option Jvm.ClassFile.FieldType) ∈ TB := tb_in6 (i := 114) rfl rfl
theorem t_6_115 : Jvm.Cond.methodLink "DropsDanceModel" (250 : Nat) ({ cls := "DropsDanceModel", name := "oneActs", desc := "(I)V" } : Jvm.MethodName) ∈ TB := tb_in6 (i := 115) rfl rfl
theorem t_6_117 : Jvm.Cond.instanceMethod ({ cls := "DropsDanceModel", name := "oneActs", desc := "(I)V" } : Jvm.MethodName) ∈ TB := tb_in6 (i := 117) rfl rfl
theorem t_6_118 : Jvm.Cond.code ({ cls := "DropsDanceModel", name := "oneActs", desc := "(I)V" } : Jvm.MethodName) prog_13_method_57_code (2 : Nat) (Option.none : Option Jvm.ClassFile.FieldType) ∈ TB := tb_in6 (i := 118) rfl rfl
theorem t_6_119 : Jvm.Cond.methodLink "DropsDanceModel" (238 : Nat) ({ cls := "DropsDanceModel", name := "oneEnds", desc := "(II)V" } : Jvm.MethodName) ∈ TB := tb_in6 (i := 119) rfl rfl
theorem t_6_121 : Jvm.Cond.instanceMethod ({ cls := "DropsDanceModel", name := "oneEnds", desc := "(II)V" } : Jvm.MethodName) ∈ TB := tb_in6 (i := 121) rfl rfl
theorem t_6_122 : Jvm.Cond.code ({ cls := "DropsDanceModel", name := "oneEnds", desc := "(II)V" } : Jvm.MethodName) prog_13_method_55_code (3 : Nat) (Option.none : Option Jvm.ClassFile.FieldType) ∈ TB := tb_in6 (i := 122) rfl rfl
theorem t_6_123 : Jvm.Cond.methodLink "DropsDanceModel" (241 : Nat) ({ cls := "DropsDanceModel", name := "oneGoes", desc := "(I)V" } : Jvm.MethodName) ∈ TB := tb_in6 (i := 123) rfl rfl
theorem t_6_125 : Jvm.Cond.instanceMethod ({ cls := "DropsDanceModel", name := "oneGoes", desc := "(I)V" } : Jvm.MethodName) ∈ TB := tb_in6 (i := 125) rfl rfl
theorem t_6_126 : Jvm.Cond.code ({ cls := "DropsDanceModel", name := "oneGoes", desc := "(I)V" } : Jvm.MethodName) prog_13_method_56_code (4 : Nat) (Option.none : Option Jvm.ClassFile.FieldType) ∈ TB := tb_in6 (i := 126) rfl rfl
theorem t_6_127 : Jvm.Cond.methodLink "DropsDanceLaw" (97 : Nat) ({ cls := "DropsDanceModel", name := "reach", desc := "(IIII)I" } : Jvm.MethodName) ∈ TB := tb_in6 (i := 127) rfl rfl
theorem t_6_128 : Jvm.Cond.instanceMethod ({ cls := "DropsDanceModel", name := "reach", desc := "(IIII)I" } : Jvm.MethodName) ∈ TB := tb_in6 (i := 128) rfl rfl
theorem t_6_129 : Jvm.Cond.selects "DropsDanceModel" ({ cls := "DropsDanceModel", name := "reach", desc := "(IIII)I" } : Jvm.MethodName) ({ cls := "DropsDanceModel", name := "reach", desc := "(IIII)I" } : Jvm.MethodName) ∈ TB := tb_in6 (i := 129) rfl rfl
theorem t_6_130 : Jvm.Cond.code ({ cls := "DropsDanceModel", name := "reach", desc := "(IIII)I" } : Jvm.MethodName) prog_13_method_60_code (5 : Nat) (Option.some Jvm.ClassFile.FieldType.int) ∈ TB := tb_in6 (i := 130) rfl rfl
theorem t_6_131 : Jvm.Cond.methodLink "DropsDanceModel" (253 : Nat) ({ cls := "DropsDanceModel", name := "reachOf", desc := "(IIII)I" } : Jvm.MethodName) ∈ TB := tb_in6 (i := 131) rfl rfl
theorem t_6_133 : Jvm.Cond.instanceMethod ({ cls := "DropsDanceModel", name := "reachOf", desc := "(IIII)I" } : Jvm.MethodName) ∈ TB := tb_in6 (i := 133) rfl rfl
theorem t_6_134 : Jvm.Cond.code ({ cls := "DropsDanceModel", name := "reachOf", desc := "(IIII)I" } : Jvm.MethodName) prog_13_method_59_code (6 : Nat) (Option.some Jvm.ClassFile.FieldType.int) ∈ TB := tb_in6 (i := 134) rfl rfl
theorem t_6_135 : Jvm.Cond.methodLink "DropsDanceLaw" (101 : Nat) ({ cls := "DropsDanceModel", name := "ring", desc := "(IIII)I" } : Jvm.MethodName) ∈ TB := tb_in6 (i := 135) rfl rfl
theorem t_6_136 : Jvm.Cond.instanceMethod ({ cls := "DropsDanceModel", name := "ring", desc := "(IIII)I" } : Jvm.MethodName) ∈ TB := tb_in6 (i := 136) rfl rfl
theorem t_6_137 : Jvm.Cond.selects "DropsDanceModel" ({ cls := "DropsDanceModel", name := "ring", desc := "(IIII)I" } : Jvm.MethodName) ({ cls := "DropsDanceModel", name := "ring", desc := "(IIII)I" } : Jvm.MethodName) ∈ TB := tb_in6 (i := 137) rfl rfl
theorem t_6_138 : Jvm.Cond.code ({ cls := "DropsDanceModel", name := "ring", desc := "(IIII)I" } : Jvm.MethodName) prog_13_method_62_code (11 : Nat) (Option.some Jvm.ClassFile.FieldType.int) ∈ TB := tb_in6 (i := 138) rfl rfl
theorem t_6_139 : Jvm.Cond.constantLong "DropsDanceModel" (257 : Nat) (2 : Int64) ∈ TB := tb_in6 (i := 139) rfl rfl
theorem t_6_140 : Jvm.Cond.methodLink "DropsDanceModel" (259 : Nat) ({ cls := "DropsDanceModel", name := "along", desc := "(III)I" } : Jvm.MethodName) ∈ TB := tb_in6 (i := 140) rfl rfl
theorem t_6_142 : Jvm.Cond.instanceMethod ({ cls := "DropsDanceModel", name := "along", desc := "(III)I" } : Jvm.MethodName) ∈ TB := tb_in6 (i := 142) rfl rfl
theorem t_6_143 : Jvm.Cond.code ({ cls := "DropsDanceModel", name := "along", desc := "(III)I" } : Jvm.MethodName) prog_13_method_61_code (5 : Nat) (Option.some Jvm.ClassFile.FieldType.int) ∈ TB := tb_in6 (i := 143) rfl rfl
theorem t_6_144 : Jvm.Cond.methodLink "DropsDanceLaw" (106 : Nat) ({ cls := "DropsDanceModel", name := "falls", desc := "(III)J" } : Jvm.MethodName) ∈ TB := tb_in6 (i := 144) rfl rfl
theorem t_6_145 : Jvm.Cond.instanceMethod ({ cls := "DropsDanceModel", name := "falls", desc := "(III)J" } : Jvm.MethodName) ∈ TB := tb_in6 (i := 145) rfl rfl
theorem t_6_146 : Jvm.Cond.selects "DropsDanceModel" ({ cls := "DropsDanceModel", name := "falls", desc := "(III)J" } : Jvm.MethodName) ({ cls := "DropsDanceModel", name := "falls", desc := "(III)J" } : Jvm.MethodName) ∈ TB := tb_in6 (i := 146) rfl rfl
theorem t_6_147 : Jvm.Cond.code ({ cls := "DropsDanceModel", name := "falls", desc := "(III)J" } : Jvm.MethodName) prog_13_method_63_code (7 : Nat) (Option.some Jvm.ClassFile.FieldType.long) ∈ TB := tb_in6 (i := 147) rfl rfl
theorem t_6_148 : Jvm.Cond.constantLong "DropsDanceModel" (263 : Nat) (-1 : Int64) ∈ TB := tb_in6 (i := 148) rfl rfl
theorem t_6_149 : Jvm.Cond.constantLong "DropsDanceModel" (265 : Nat) (-2 : Int64) ∈ TB := tb_in6 (i := 149) rfl rfl
theorem t_6_150 : Jvm.Cond.methodLink "DropsDanceLaw" (110 : Nat) ({ cls := "DropsDanceModel", name := "mend", desc := "(IIIII)I" } : Jvm.MethodName) ∈ TB := tb_in6 (i := 150) rfl rfl
theorem t_6_151 : Jvm.Cond.instanceMethod ({ cls := "DropsDanceModel", name := "mend", desc := "(IIIII)I" } : Jvm.MethodName) ∈ TB := tb_in6 (i := 151) rfl rfl
theorem t_6_152 : Jvm.Cond.selects "DropsDanceModel" ({ cls := "DropsDanceModel", name := "mend", desc := "(IIIII)I" } : Jvm.MethodName) ({ cls := "DropsDanceModel", name := "mend", desc := "(IIIII)I" } : Jvm.MethodName) ∈ TB := tb_in6 (i := 152) rfl rfl
theorem t_6_153 : Jvm.Cond.code ({ cls := "DropsDanceModel", name := "mend", desc := "(IIIII)I" } : Jvm.MethodName) prog_13_method_64_code (12 : Nat) (Option.some Jvm.ClassFile.FieldType.int) ∈ TB := tb_in6 (i := 153) rfl rfl
theorem t_6_154 : Jvm.Cond.methodLink "DropsDanceLaw" (115 : Nat) ({ cls := "DropsDanceModel", name := "life", desc := "(IIZ)I" } : Jvm.MethodName) ∈ TB := tb_in6 (i := 154) rfl rfl
theorem t_6_155 : Jvm.Cond.instanceMethod ({ cls := "DropsDanceModel", name := "life", desc := "(IIZ)I" } : Jvm.MethodName) ∈ TB := tb_in6 (i := 155) rfl rfl
theorem t_6_156 : Jvm.Cond.selects "DropsDanceModel" ({ cls := "DropsDanceModel", name := "life", desc := "(IIZ)I" } : Jvm.MethodName) ({ cls := "DropsDanceModel", name := "life", desc := "(IIZ)I" } : Jvm.MethodName) ∈ TB := tb_in6 (i := 156) rfl rfl
theorem t_6_157 : Jvm.Cond.code ({ cls := "DropsDanceModel", name := "life", desc := "(IIZ)I" } : Jvm.MethodName) prog_13_method_70_code (4 : Nat) (Option.some Jvm.ClassFile.FieldType.int) ∈ TB := tb_in6 (i := 157) rfl rfl
theorem t_6_158 : Jvm.Cond.methodLink "DropsDanceModel" (275 : Nat) ({ cls := "DropsDanceModel", name := "isSize", desc := "(I)Z" } : Jvm.MethodName) ∈ TB := tb_in6 (i := 158) rfl rfl
theorem t_6_159 : Jvm.Cond.static ({ cls := "DropsDanceModel", name := "isSize", desc := "(I)Z" } : Jvm.MethodName) ∈ TB := tb_in6 (i := 159) rfl rfl
theorem t_6_160 : Jvm.Cond.code ({ cls := "DropsDanceModel", name := "isSize", desc := "(I)Z" } : Jvm.MethodName) prog_13_method_68_code (1 : Nat) (Option.some Jvm.ClassFile.FieldType.boolean) ∈ TB := tb_in6 (i := 160) rfl rfl
theorem t_6_161 : Jvm.Cond.methodLink "DropsDanceModel" (278 : Nat) ({ cls := "DropsDanceModel", name := "isHeat", desc := "(I)Z" } : Jvm.MethodName) ∈ TB := tb_in6 (i := 161) rfl rfl
theorem t_6_162 : Jvm.Cond.static ({ cls := "DropsDanceModel", name := "isHeat", desc := "(I)Z" } : Jvm.MethodName) ∈ TB := tb_in6 (i := 162) rfl rfl
theorem t_6_163 : Jvm.Cond.code ({ cls := "DropsDanceModel", name := "isHeat", desc := "(I)Z" } : Jvm.MethodName) prog_13_method_69_code (1 : Nat) (Option.some Jvm.ClassFile.FieldType.boolean) ∈ TB := tb_in6 (i := 163) rfl rfl
theorem t_6_164 : Jvm.Cond.methodLink "DropsDanceModel" (281 : Nat) ({ cls := "DropsDanceModel", name := "lifeAt", desc := "(IIZ)I" } : Jvm.MethodName) ∈ TB := tb_in6 (i := 164) rfl rfl
theorem t_6_166 : Jvm.Cond.instanceMethod ({ cls := "DropsDanceModel", name := "lifeAt", desc := "(IIZ)I" } : Jvm.MethodName) ∈ TB := tb_in6 (i := 166) rfl rfl
theorem t_6_167 : Jvm.Cond.code ({ cls := "DropsDanceModel", name := "lifeAt", desc := "(IIZ)I" } : Jvm.MethodName) prog_13_method_67_code (4 : Nat) (Option.some Jvm.ClassFile.FieldType.int) ∈ TB := tb_in6 (i := 167) rfl rfl
theorem t_6_168 : Jvm.Cond.methodLink "DropsDanceModel" (267 : Nat) ({ cls := "DropsDanceModel", name := "floatsAt", desc := "(IZ)Z" } : Jvm.MethodName) ∈ TB := tb_in6 (i := 168) rfl rfl
theorem t_6_170 : Jvm.Cond.instanceMethod ({ cls := "DropsDanceModel", name := "floatsAt", desc := "(IZ)Z" } : Jvm.MethodName) ∈ TB := tb_in6 (i := 170) rfl rfl
theorem t_6_171 : Jvm.Cond.code ({ cls := "DropsDanceModel", name := "floatsAt", desc := "(IZ)Z" } : Jvm.MethodName) prog_13_method_66_code (3 : Nat) (Option.some Jvm.ClassFile.FieldType.boolean) ∈ TB := tb_in6 (i := 171) rfl rfl
theorem t_6_172 : Jvm.Cond.methodLink "DropsDanceModel" (271 : Nat) ({ cls := "DropsDanceModel", name := "lifeOf", desc := "(IIZ)I" } : Jvm.MethodName) ∈ TB := tb_in6 (i := 172) rfl rfl
theorem t_6_174 : Jvm.Cond.instanceMethod ({ cls := "DropsDanceModel", name := "lifeOf", desc := "(IIZ)I" } : Jvm.MethodName) ∈ TB := tb_in6 (i := 174) rfl rfl
theorem t_6_175 : Jvm.Cond.code ({ cls := "DropsDanceModel", name := "lifeOf", desc := "(IIZ)I" } : Jvm.MethodName) prog_13_method_65_code (7 : Nat) (Option.some Jvm.ClassFile.FieldType.int) ∈ TB := tb_in6 (i := 175) rfl rfl
theorem t_6_176 : Jvm.Cond.methodLink "DropsDanceLaw" (120 : Nat) ({ cls := "DropsDanceModel", name := "hump", desc := "(IZI)I" } : Jvm.MethodName) ∈ TB := tb_in6 (i := 176) rfl rfl
theorem t_6_177 : Jvm.Cond.instanceMethod ({ cls := "DropsDanceModel", name := "hump", desc := "(IZI)I" } : Jvm.MethodName) ∈ TB := tb_in6 (i := 177) rfl rfl
theorem t_6_178 : Jvm.Cond.selects "DropsDanceModel" ({ cls := "DropsDanceModel", name := "hump", desc := "(IZI)I" } : Jvm.MethodName) ({ cls := "DropsDanceModel", name := "hump", desc := "(IZI)I" } : Jvm.MethodName) ∈ TB := tb_in6 (i := 178) rfl rfl
theorem t_6_179 : Jvm.Cond.code ({ cls := "DropsDanceModel", name := "hump", desc := "(IZI)I" } : Jvm.MethodName) prog_13_method_71_code (11 : Nat) (Option.some Jvm.ClassFile.FieldType.int) ∈ TB := tb_in6 (i := 179) rfl rfl
theorem t_6_180 : Jvm.Cond.constant "DropsDanceModel" (284 : Nat) (100000 : Int32) ∈ TB := tb_in6 (i := 180) rfl rfl
theorem t_6_181 : Jvm.Cond.methodLink "DropsDanceLaw" (125 : Nat) ({ cls := "DropsDanceModel", name := "hot", desc := "(IIZI)I" } : Jvm.MethodName) ∈ TB := tb_in6 (i := 181) rfl rfl
theorem t_6_182 : Jvm.Cond.instanceMethod ({ cls := "DropsDanceModel", name := "hot", desc := "(IIZI)I" } : Jvm.MethodName) ∈ TB := tb_in6 (i := 182) rfl rfl
theorem t_6_183 : Jvm.Cond.selects "DropsDanceModel" ({ cls := "DropsDanceModel", name := "hot", desc := "(IIZI)I" } : Jvm.MethodName) ({ cls := "DropsDanceModel", name := "hot", desc := "(IIZI)I" } : Jvm.MethodName) ∈ TB := tb_in6 (i := 183) rfl rfl
theorem t_6_184 : Jvm.Cond.code ({ cls := "DropsDanceModel", name := "hot", desc := "(IIZI)I" } : Jvm.MethodName) prog_13_method_73_code (9 : Nat) (Option.some Jvm.ClassFile.FieldType.int) ∈ TB := tb_in6 (i := 184) rfl rfl
theorem t_6_185 : Jvm.Cond.methodLink "DropsDanceModel" (287 : Nat) ({ cls := "DropsDanceModel", name := "isLife", desc := "(I)Z" } : Jvm.MethodName) ∈ TB := tb_in6 (i := 185) rfl rfl
theorem t_6_186 : Jvm.Cond.static ({ cls := "DropsDanceModel", name := "isLife", desc := "(I)Z" } : Jvm.MethodName) ∈ TB := tb_in6 (i := 186) rfl rfl
theorem t_6_187 : Jvm.Cond.code ({ cls := "DropsDanceModel", name := "isLife", desc := "(I)Z" } : Jvm.MethodName) prog_13_method_72_code (1 : Nat) (Option.some Jvm.ClassFile.FieldType.boolean) ∈ TB := tb_in6 (i := 187) rfl rfl
theorem t_6_188 : Jvm.Cond.constantLong "DropsDanceModel" (285 : Nat) (999 : Int64) ∈ TB := tb_in6 (i := 188) rfl rfl
theorem t_6_189 : Jvm.Cond.methodLink "DropsDanceLaw" (130 : Nat) ({ cls := "DropsDanceModel", name := "odds", desc := "(IIII)J" } : Jvm.MethodName) ∈ TB := tb_in6 (i := 189) rfl rfl
theorem t_6_190 : Jvm.Cond.instanceMethod ({ cls := "DropsDanceModel", name := "odds", desc := "(IIII)J" } : Jvm.MethodName) ∈ TB := tb_in6 (i := 190) rfl rfl
theorem t_6_191 : Jvm.Cond.selects "DropsDanceModel" ({ cls := "DropsDanceModel", name := "odds", desc := "(IIII)J" } : Jvm.MethodName) ({ cls := "DropsDanceModel", name := "odds", desc := "(IIII)J" } : Jvm.MethodName) ∈ TB := tb_in6 (i := 191) rfl rfl
theorem t_6_192 : Jvm.Cond.code ({ cls := "DropsDanceModel", name := "odds", desc := "(IIII)J" } : Jvm.MethodName) prog_13_method_76_code (10 : Nat) (Option.some Jvm.ClassFile.FieldType.long) ∈ TB := tb_in6 (i := 192) rfl rfl
theorem t_6_193 : Jvm.Cond.constantLong "DropsDanceModel" (290 : Nat) (10 : Int64) ∈ TB := tb_in6 (i := 193) rfl rfl
theorem t_6_194 : Jvm.Cond.constantLong "DropsDanceModel" (292 : Nat) (4 : Int64) ∈ TB := tb_in6 (i := 194) rfl rfl
theorem t_6_195 : Jvm.Cond.methodLink "DropsDanceModel" (294 : Nat) ({ cls := "DropsDanceModel", name := "spreads", desc := "(I)J" } : Jvm.MethodName) ∈ TB := tb_in6 (i := 195) rfl rfl
theorem t_6_197 : Jvm.Cond.instanceMethod ({ cls := "DropsDanceModel", name := "spreads", desc := "(I)J" } : Jvm.MethodName) ∈ TB := tb_in6 (i := 197) rfl rfl
theorem t_6_198 : Jvm.Cond.code ({ cls := "DropsDanceModel", name := "spreads", desc := "(I)J" } : Jvm.MethodName) prog_13_method_74_code (8 : Nat) (Option.some Jvm.ClassFile.FieldType.long) ∈ TB := tb_in6 (i := 198) rfl rfl
theorem t_6_199 : Jvm.Cond.methodLink "DropsDanceModel" (298 : Nat) ({ cls := "DropsDanceModel", name := "told", desc := "(JJI)J" } : Jvm.MethodName) ∈ TB := tb_in6 (i := 199) rfl rfl
theorem t_6_200 : Jvm.Cond.static ({ cls := "DropsDanceModel", name := "told", desc := "(JJI)J" } : Jvm.MethodName) ∈ TB := tb_in6 (i := 200) rfl rfl
theorem t_6_201 : Jvm.Cond.code ({ cls := "DropsDanceModel", name := "told", desc := "(JJI)J" } : Jvm.MethodName) prog_13_method_75_code (11 : Nat) (Option.some Jvm.ClassFile.FieldType.long) ∈ TB := tb_in6 (i := 201) rfl rfl
theorem t_6_202 : Jvm.Cond.methodLink "DropsDanceLaw" (134 : Nat) ({ cls := "DropsDanceModel", name := "cools", desc := "(III)I" } : Jvm.MethodName) ∈ TB := tb_in6 (i := 202) rfl rfl
theorem t_6_203 : Jvm.Cond.instanceMethod ({ cls := "DropsDanceModel", name := "cools", desc := "(III)I" } : Jvm.MethodName) ∈ TB := tb_in6 (i := 203) rfl rfl
theorem t_6_204 : Jvm.Cond.selects "DropsDanceModel" ({ cls := "DropsDanceModel", name := "cools", desc := "(III)I" } : Jvm.MethodName) ({ cls := "DropsDanceModel", name := "cools", desc := "(III)I" } : Jvm.MethodName) ∈ TB := tb_in6 (i := 204) rfl rfl
theorem t_6_205 : Jvm.Cond.code ({ cls := "DropsDanceModel", name := "cools", desc := "(III)I" } : Jvm.MethodName) prog_13_method_77_code (8 : Nat) (Option.some Jvm.ClassFile.FieldType.int) ∈ TB := tb_in6 (i := 205) rfl rfl
theorem t_6_206 : Jvm.Cond.methodLink "DropsDanceLaw" (138 : Nat) ({ cls := "DropsDanceModel", name := "saw", desc := "(IIZI)I" } : Jvm.MethodName) ∈ TB := tb_in6 (i := 206) rfl rfl
theorem t_6_207 : Jvm.Cond.instanceMethod ({ cls := "DropsDanceModel", name := "saw", desc := "(IIZI)I" } : Jvm.MethodName) ∈ TB := tb_in6 (i := 207) rfl rfl
theorem t_6_208 : Jvm.Cond.selects "DropsDanceModel" ({ cls := "DropsDanceModel", name := "saw", desc := "(IIZI)I" } : Jvm.MethodName) ({ cls := "DropsDanceModel", name := "saw", desc := "(IIZI)I" } : Jvm.MethodName) ∈ TB := tb_in6 (i := 208) rfl rfl
theorem t_6_209 : Jvm.Cond.code ({ cls := "DropsDanceModel", name := "saw", desc := "(IIZI)I" } : Jvm.MethodName) prog_13_method_78_code (5 : Nat) (Option.some Jvm.ClassFile.FieldType.int) ∈ TB := tb_in6 (i := 209) rfl rfl
theorem t_6_210 : Jvm.Cond.methodLink "DropsDanceLaw" (142 : Nat) ({ cls := "DropsDanceModel", name := "forget", desc := "()I" } : Jvm.MethodName) ∈ TB := tb_in6 (i := 210) rfl rfl
theorem t_6_211 : Jvm.Cond.instanceMethod ({ cls := "DropsDanceModel", name := "forget", desc := "()I" } : Jvm.MethodName) ∈ TB := tb_in6 (i := 211) rfl rfl
theorem t_6_212 : Jvm.Cond.selects "DropsDanceModel" ({ cls := "DropsDanceModel", name := "forget", desc := "()I" } : Jvm.MethodName) ({ cls := "DropsDanceModel", name := "forget", desc := "()I" } : Jvm.MethodName) ∈ TB := tb_in6 (i := 212) rfl rfl
theorem t_6_213 : Jvm.Cond.code ({ cls := "DropsDanceModel", name := "forget", desc := "()I" } : Jvm.MethodName) prog_13_method_79_code (2 : Nat) (Option.some Jvm.ClassFile.FieldType.int) ∈ TB := tb_in6 (i := 213) rfl rfl
theorem t_6_214 : Jvm.Cond.methodLink "DropsDanceLaw" (150 : Nat) ({ cls := "DropsDanceModel", name := "right", desc := "()I" } : Jvm.MethodName) ∈ TB := tb_in6 (i := 214) rfl rfl
theorem t_6_215 : Jvm.Cond.instanceMethod ({ cls := "DropsDanceModel", name := "right", desc := "()I" } : Jvm.MethodName) ∈ TB := tb_in6 (i := 215) rfl rfl
theorem t_6_216 : Jvm.Cond.selects "DropsDanceModel" ({ cls := "DropsDanceModel", name := "right", desc := "()I" } : Jvm.MethodName) ({ cls := "DropsDanceModel", name := "right", desc := "()I" } : Jvm.MethodName) ∈ TB := tb_in6 (i := 216) rfl rfl
theorem t_6_217 : Jvm.Cond.code ({ cls := "DropsDanceModel", name := "right", desc := "()I" } : Jvm.MethodName) prog_13_method_81_code (3 : Nat) (Option.some Jvm.ClassFile.FieldType.int) ∈ TB := tb_in6 (i := 217) rfl rfl
theorem t_6_218 : Jvm.Cond.methodLink "DropsDanceModel" (302 : Nat) ({ cls := "DropsDanceModel", name := "isRight", desc := "(I)Z" } : Jvm.MethodName) ∈ TB := tb_in6 (i := 218) rfl rfl
theorem t_6_220 : Jvm.Cond.instanceMethod ({ cls := "DropsDanceModel", name := "isRight", desc := "(I)Z" } : Jvm.MethodName) ∈ TB := tb_in6 (i := 220) rfl rfl
theorem t_6_221 : Jvm.Cond.code ({ cls := "DropsDanceModel", name := "isRight", desc := "(I)Z" } : Jvm.MethodName) prog_13_method_80_code (2 : Nat) (Option.some Jvm.ClassFile.FieldType.boolean) ∈ TB := tb_in6 (i := 221) rfl rfl
theorem t_6_222 : Jvm.Cond.methodLink "DropsDanceLaw" (146 : Nat) ({ cls := "DropsDanceModel", name := "fits", desc := "(I)I" } : Jvm.MethodName) ∈ TB := tb_in6 (i := 222) rfl rfl
theorem t_6_223 : Jvm.Cond.instanceMethod ({ cls := "DropsDanceModel", name := "fits", desc := "(I)I" } : Jvm.MethodName) ∈ TB := tb_in6 (i := 223) rfl rfl
theorem t_6_224 : Jvm.Cond.selects "DropsDanceModel" ({ cls := "DropsDanceModel", name := "fits", desc := "(I)I" } : Jvm.MethodName) ({ cls := "DropsDanceModel", name := "fits", desc := "(I)I" } : Jvm.MethodName) ∈ TB := tb_in6 (i := 224) rfl rfl
theorem t_6_225 : Jvm.Cond.code ({ cls := "DropsDanceModel", name := "fits", desc := "(I)I" } : Jvm.MethodName) prog_13_method_82_code (7 : Nat) (Option.some Jvm.ClassFile.FieldType.int) ∈ TB := tb_in6 (i := 225) rfl rfl
theorem t_6_226 : Jvm.Cond.methodLink "DropsDanceModel" (305 : Nat) ({ cls := "DropsDanceModel", name := "right", desc := "()I" } : Jvm.MethodName) ∈ TB := tb_in6 (i := 226) rfl rfl
theorem t_6_227 : Jvm.Cond.methodLink "DropsDanceLaw" (154 : Nat) ({ cls := "DropsDanceModel", name := "sheet", desc := "(III)I" } : Jvm.MethodName) ∈ TB := tb_in6 (i := 227) rfl rfl
theorem t_6_228 : Jvm.Cond.instanceMethod ({ cls := "DropsDanceModel", name := "sheet", desc := "(III)I" } : Jvm.MethodName) ∈ TB := tb_in6 (i := 228) rfl rfl
theorem t_6_229 : Jvm.Cond.selects "DropsDanceModel" ({ cls := "DropsDanceModel", name := "sheet", desc := "(III)I" } : Jvm.MethodName) ({ cls := "DropsDanceModel", name := "sheet", desc := "(III)I" } : Jvm.MethodName) ∈ TB := tb_in6 (i := 229) rfl rfl
theorem t_6_230 : Jvm.Cond.code ({ cls := "DropsDanceModel", name := "sheet", desc := "(III)I" } : Jvm.MethodName) prog_13_method_84_code (5 : Nat) (Option.some Jvm.ClassFile.FieldType.int) ∈ TB := tb_in6 (i := 230) rfl rfl
theorem t_6_231 : Jvm.Cond.methodLink "DropsDanceModel" (308 : Nat) ({ cls := "DropsDanceModel", name := "isSheet", desc := "(II)Z" } : Jvm.MethodName) ∈ TB := tb_in6 (i := 231) rfl rfl
theorem t_6_232 : Jvm.Cond.static ({ cls := "DropsDanceModel", name := "isSheet", desc := "(II)Z" } : Jvm.MethodName) ∈ TB := tb_in6 (i := 232) rfl rfl
theorem t_6_233 : Jvm.Cond.code ({ cls := "DropsDanceModel", name := "isSheet", desc := "(II)Z" } : Jvm.MethodName) prog_13_method_83_code (2 : Nat) (Option.some Jvm.ClassFile.FieldType.boolean) ∈ TB := tb_in6 (i := 233) rfl rfl
theorem t_6_234 : Jvm.Cond.methodLink "DropsDanceLaw" (158 : Nat) ({ cls := "DropsDanceModel", name := "lay", desc := "(III)I" } : Jvm.MethodName) ∈ TB := tb_in6 (i := 234) rfl rfl
theorem t_6_235 : Jvm.Cond.instanceMethod ({ cls := "DropsDanceModel", name := "lay", desc := "(III)I" } : Jvm.MethodName) ∈ TB := tb_in6 (i := 235) rfl rfl
theorem t_6_236 : Jvm.Cond.selects "DropsDanceModel" ({ cls := "DropsDanceModel", name := "lay", desc := "(III)I" } : Jvm.MethodName) ({ cls := "DropsDanceModel", name := "lay", desc := "(III)I" } : Jvm.MethodName) ∈ TB := tb_in6 (i := 236) rfl rfl
theorem t_6_237 : Jvm.Cond.code ({ cls := "DropsDanceModel", name := "lay", desc := "(III)I" } : Jvm.MethodName) prog_13_method_85_code (4 : Nat) (Option.some Jvm.ClassFile.FieldType.int) ∈ TB := tb_in6 (i := 237) rfl rfl
theorem t_6_238 : Jvm.Cond.methodLink "DropsDanceLaw" (162 : Nat) ({ cls := "DropsDanceModel", name := "read", desc := "(IIII)I" } : Jvm.MethodName) ∈ TB := tb_in6 (i := 238) rfl rfl
theorem t_6_239 : Jvm.Cond.instanceMethod ({ cls := "DropsDanceModel", name := "read", desc := "(IIII)I" } : Jvm.MethodName) ∈ TB := tb_in6 (i := 239) rfl rfl
theorem t_7_0 : Jvm.Cond.selects "DropsDanceModel" ({ cls := "DropsDanceModel", name := "read", desc := "(IIII)I" } : Jvm.MethodName) ({ cls := "DropsDanceModel", name := "read", desc := "(IIII)I" } : Jvm.MethodName) ∈ TB := tb_in7 (i := 0) rfl rfl
theorem t_7_1 : Jvm.Cond.code ({ cls := "DropsDanceModel", name := "read", desc := "(IIII)I" } : Jvm.MethodName) prog_13_method_87_code (13 : Nat) (Option.some Jvm.ClassFile.FieldType.int) ∈ TB := tb_in7 (i := 1) rfl rfl
theorem t_7_2 : Jvm.Cond.constantLong "DropsDanceModel" (311 : Nat) (12 : Int64) ∈ TB := tb_in7 (i := 2) rfl rfl
theorem t_7_3 : Jvm.Cond.methodLink "DropsDanceModel" (313 : Nat) ({ cls := "DropsDanceModel", name := "drop", desc := "(III)I" } : Jvm.MethodName) ∈ TB := tb_in7 (i := 3) rfl rfl
theorem t_7_4 : Jvm.Cond.methodLink "DropsDanceModel" (316 : Nat) ({ cls := "DropsDanceModel", name := "takesBack", desc := "(II)V" } : Jvm.MethodName) ∈ TB := tb_in7 (i := 4) rfl rfl
theorem t_7_6 : Jvm.Cond.instanceMethod ({ cls := "DropsDanceModel", name := "takesBack", desc := "(II)V" } : Jvm.MethodName) ∈ TB := tb_in7 (i := 6) rfl rfl
theorem t_7_7 : Jvm.Cond.code ({ cls := "DropsDanceModel", name := "takesBack", desc := "(II)V" } : Jvm.MethodName) prog_13_method_86_code (3 : Nat) (Option.none : Option Jvm.ClassFile.FieldType) ∈ TB := tb_in7 (i := 7) rfl rfl
theorem t_7_8 : Jvm.Cond.methodLink "DropsDanceLaw" (166 : Nat) ({ cls := "DropsDanceModel", name := "torn", desc := "()I" } : Jvm.MethodName) ∈ TB := tb_in7 (i := 8) rfl rfl
theorem t_7_9 : Jvm.Cond.instanceMethod ({ cls := "DropsDanceModel", name := "torn", desc := "()I" } : Jvm.MethodName) ∈ TB := tb_in7 (i := 9) rfl rfl
theorem t_7_10 : Jvm.Cond.selects "DropsDanceModel" ({ cls := "DropsDanceModel", name := "torn", desc := "()I" } : Jvm.MethodName) ({ cls := "DropsDanceModel", name := "torn", desc := "()I" } : Jvm.MethodName) ∈ TB := tb_in7 (i := 10) rfl rfl
theorem t_7_11 : Jvm.Cond.code ({ cls := "DropsDanceModel", name := "torn", desc := "()I" } : Jvm.MethodName) prog_13_method_88_code (1 : Nat) (Option.some Jvm.ClassFile.FieldType.int) ∈ TB := tb_in7 (i := 11) rfl rfl
theorem t_7_12 : Jvm.Cond.methodLink "DropsDanceLaw" (170 : Nat) ({ cls := "DropsDanceModel", name := "count", desc := "(I)I" } : Jvm.MethodName) ∈ TB := tb_in7 (i := 12) rfl rfl
theorem t_7_13 : Jvm.Cond.instanceMethod ({ cls := "DropsDanceModel", name := "count", desc := "(I)I" } : Jvm.MethodName) ∈ TB := tb_in7 (i := 13) rfl rfl
theorem t_7_14 : Jvm.Cond.selects "DropsDanceModel" ({ cls := "DropsDanceModel", name := "count", desc := "(I)I" } : Jvm.MethodName) ({ cls := "DropsDanceModel", name := "count", desc := "(I)I" } : Jvm.MethodName) ∈ TB := tb_in7 (i := 14) rfl rfl
theorem t_7_15 : Jvm.Cond.code ({ cls := "DropsDanceModel", name := "count", desc := "(I)I" } : Jvm.MethodName) prog_13_method_89_code (4 : Nat) (Option.some Jvm.ClassFile.FieldType.int) ∈ TB := tb_in7 (i := 15) rfl rfl
theorem t_7_16 : Jvm.Cond.constantLong "DropsDanceLaw" (13 : Nat) (4294967295 : Int64) ∈ TB := tb_in7 (i := 16) rfl rfl
theorem t_7_17 : Jvm.Cond.fieldLink "java/lang/String" (9 : Nat) "java/lang/String" "value" "[B" ∈ TB := tb_in7 (i := 17) rfl rfl
theorem t_7_18 : Jvm.Cond.fieldLink "java/lang/String" (15 : Nat) "java/lang/String" "coder" "B" ∈ TB := tb_in7 (i := 18) rfl rfl
theorem t_s_0 : Cond.selects "DropsDance$TextReader" (⟨"DropsDance$TextReader", "beginAnew", "(I)V"⟩ : MethodName) (⟨"DropsDance$TextReader", "beginAnew", "(I)V"⟩ : MethodName) ∈ TB := tb_sel (y := (⟨"DropsDance$TextReader", "beginAnew", "(I)V"⟩ : MethodName)) (n := 12) (List.mem_of_getElem? (i := 0) rfl) rfl
theorem t_s_1 : Cond.selects "DropsDance$TextReader" (⟨"DropsDance$TextReader", "readToken", "()V"⟩ : MethodName) (⟨"DropsDance$TextReader", "readToken", "()V"⟩ : MethodName) ∈ TB := tb_sel (y := (⟨"DropsDance$TextReader", "readToken", "()V"⟩ : MethodName)) (n := 12) (List.mem_of_getElem? (i := 1) rfl) rfl
theorem t_s_2 : Cond.selects "DropsDance$TextReader" (⟨"DropsDance$TextReader", "byteAt", "(I)I"⟩ : MethodName) (⟨"DropsDance$TextReader", "byteAt", "(I)I"⟩ : MethodName) ∈ TB := tb_sel (y := (⟨"DropsDance$TextReader", "byteAt", "(I)I"⟩ : MethodName)) (n := 12) (List.mem_of_getElem? (i := 2) rfl) rfl
theorem t_s_3 : Cond.selects "DropsDance$TextReader" (⟨"DropsDance$TextReader", "refuse", "(II)V"⟩ : MethodName) (⟨"DropsDance$TextReader", "refuse", "(II)V"⟩ : MethodName) ∈ TB := tb_sel (y := (⟨"DropsDance$TextReader", "refuse", "(II)V"⟩ : MethodName)) (n := 12) (List.mem_of_getElem? (i := 3) rfl) rfl
theorem t_s_4 : Cond.selects "DropsDance$TextReader" (⟨"DropsDance$TextReader", "isName", "(Ljava/lang/String;)Z"⟩ : MethodName) (⟨"DropsDance$TextReader", "isName", "(Ljava/lang/String;)Z"⟩ : MethodName) ∈ TB := tb_sel (y := (⟨"DropsDance$TextReader", "isName", "(Ljava/lang/String;)Z"⟩ : MethodName)) (n := 12) (List.mem_of_getElem? (i := 4) rfl) rfl
theorem t_s_5 : Cond.selects "DropsDance$TextReader" (⟨"DropsDance$TextReader", "readRow", "()V"⟩ : MethodName) (⟨"DropsDance$TextReader", "readRow", "()V"⟩ : MethodName) ∈ TB := tb_sel (y := (⟨"DropsDance$TextReader", "readRow", "()V"⟩ : MethodName)) (n := 12) (List.mem_of_getElem? (i := 5) rfl) rfl
theorem t_s_6 : Cond.selects "DropsDance$TextReader" (⟨"DropsDance$TextReader", "take", "(I)V"⟩ : MethodName) (⟨"DropsDance$TextReader", "take", "(I)V"⟩ : MethodName) ∈ TB := tb_sel (y := (⟨"DropsDance$TextReader", "take", "(I)V"⟩ : MethodName)) (n := 12) (List.mem_of_getElem? (i := 6) rfl) rfl
theorem t_s_7 : Cond.selects "DropsDance$TextReader" (⟨"DropsDance$TextReader", "ruleNamed", "()I"⟩ : MethodName) (⟨"DropsDance$TextReader", "ruleNamed", "()I"⟩ : MethodName) ∈ TB := tb_sel (y := (⟨"DropsDance$TextReader", "ruleNamed", "()I"⟩ : MethodName)) (n := 12) (List.mem_of_getElem? (i := 7) rfl) rfl
theorem t_s_8 : Cond.selects "DropsDance$TextReader" (⟨"DropsDance$TextReader", "readRule", "(I)V"⟩ : MethodName) (⟨"DropsDance$TextReader", "readRule", "(I)V"⟩ : MethodName) ∈ TB := tb_sel (y := (⟨"DropsDance$TextReader", "readRule", "(I)V"⟩ : MethodName)) (n := 12) (List.mem_of_getElem? (i := 8) rfl) rfl
theorem t_s_9 : Cond.selects "DropsDance$TextReader" (⟨"DropsDance$TextReader", "readValue", "(II)V"⟩ : MethodName) (⟨"DropsDance$TextReader", "readValue", "(II)V"⟩ : MethodName) ∈ TB := tb_sel (y := (⟨"DropsDance$TextReader", "readValue", "(II)V"⟩ : MethodName)) (n := 12) (List.mem_of_getElem? (i := 9) rfl) rfl
theorem t_s_10 : Cond.selects "DropsDance" (⟨"DropsDance", "setDown", "(III)I"⟩ : MethodName) (⟨"DropsDance", "setDown", "(III)I"⟩ : MethodName) ∈ TB := tb_sel (y := (⟨"DropsDance", "setDown", "(III)I"⟩ : MethodName)) (n := 12) (List.mem_of_getElem? (i := 10) rfl) rfl
theorem t_s_11 : Cond.selects "DropsDance$Scene" (⟨"DropsDance$Scene", "loseSteam", "(LDropsDance$Drop;I)V"⟩ : MethodName) (⟨"DropsDance$Scene", "loseSteam", "(LDropsDance$Drop;I)V"⟩ : MethodName) ∈ TB := tb_sel (y := (⟨"DropsDance$Scene", "loseSteam", "(LDropsDance$Drop;I)V"⟩ : MethodName)) (n := 11) (List.mem_of_getElem? (i := 11) rfl) rfl
theorem t_s_12 : Cond.selects "DropsDance$Scene" (⟨"DropsDance$Scene", "leave", "(LDropsDance$Drop;I)V"⟩ : MethodName) (⟨"DropsDance$Scene", "leave", "(LDropsDance$Drop;I)V"⟩ : MethodName) ∈ TB := tb_sel (y := (⟨"DropsDance$Scene", "leave", "(LDropsDance$Drop;I)V"⟩ : MethodName)) (n := 11) (List.mem_of_getElem? (i := 12) rfl) rfl
theorem t_s_13 : Cond.selects "DropsDance$Scene" (⟨"DropsDance$Scene", "floatOn", "(LDropsDance$Drop;LDropsDance$Rules;I)V"⟩ : MethodName) (⟨"DropsDance$Scene", "floatOn", "(LDropsDance$Drop;LDropsDance$Rules;I)V"⟩ : MethodName) ∈ TB := tb_sel (y := (⟨"DropsDance$Scene", "floatOn", "(LDropsDance$Drop;LDropsDance$Rules;I)V"⟩ : MethodName)) (n := 11) (List.mem_of_getElem? (i := 13) rfl) rfl
theorem t_s_14 : Cond.selects "DropsDance$Scene" (⟨"DropsDance$Scene", "drawWay", "()I"⟩ : MethodName) (⟨"DropsDance$Scene", "drawWay", "()I"⟩ : MethodName) ∈ TB := tb_sel (y := (⟨"DropsDance$Scene", "drawWay", "()I"⟩ : MethodName)) (n := 11) (List.mem_of_getElem? (i := 14) rfl) rfl
theorem t_s_15 : Cond.selects "DropsDance$Scene" (⟨"DropsDance$Scene", "joinWhoIsThere", "(LDropsDance$Drop;)V"⟩ : MethodName) (⟨"DropsDance$Scene", "joinWhoIsThere", "(LDropsDance$Drop;)V"⟩ : MethodName) ∈ TB := tb_sel (y := (⟨"DropsDance$Scene", "joinWhoIsThere", "(LDropsDance$Drop;)V"⟩ : MethodName)) (n := 11) (List.mem_of_getElem? (i := 15) rfl) rfl
theorem t_s_16 : Cond.selects "DropsDance$Rules" (⟨"DropsDance$Rules", "lifeFloating", "(I)I"⟩ : MethodName) (⟨"DropsDance$Rules", "lifeFloating", "(I)I"⟩ : MethodName) ∈ TB := tb_sel (y := (⟨"DropsDance$Rules", "lifeFloating", "(I)I"⟩ : MethodName)) (n := 1) (List.mem_of_getElem? (i := 16) rfl) rfl
theorem t_s_17 : Cond.selects "DropsDance$Rules" (⟨"DropsDance$Rules", "lifeTouching", "(II)I"⟩ : MethodName) (⟨"DropsDance$Rules", "lifeTouching", "(II)I"⟩ : MethodName) ∈ TB := tb_sel (y := (⟨"DropsDance$Rules", "lifeTouching", "(II)I"⟩ : MethodName)) (n := 1) (List.mem_of_getElem? (i := 17) rfl) rfl
theorem t_s_18 : Cond.selects "DropsDance$Roller" (⟨"DropsDance$Roller", "takeOut", "(I)J"⟩ : MethodName) (⟨"DropsDance$Roller", "takeOut", "(I)J"⟩ : MethodName) ∈ TB := tb_sel (y := (⟨"DropsDance$Roller", "takeOut", "(I)J"⟩ : MethodName)) (n := 2) (List.mem_of_getElem? (i := 18) rfl) rfl
theorem t_s_19 : Cond.selects "DropsDance$Roller" (⟨"DropsDance$Roller", "rollAll", "(LDropsDance$Scene;)V"⟩ : MethodName) (⟨"DropsDance$Roller", "rollAll", "(LDropsDance$Scene;)V"⟩ : MethodName) ∈ TB := tb_sel (y := (⟨"DropsDance$Roller", "rollAll", "(LDropsDance$Scene;)V"⟩ : MethodName)) (n := 2) (List.mem_of_getElem? (i := 19) rfl) rfl
theorem t_s_20 : Cond.selects "DropsDance" (⟨"DropsDance", "howManyImages", "()I"⟩ : MethodName) (⟨"DropsDance", "howManyImages", "()I"⟩ : MethodName) ∈ TB := tb_sel (y := (⟨"DropsDance", "howManyImages", "()I"⟩ : MethodName)) (n := 12) (List.mem_of_getElem? (i := 20) rfl) rfl
theorem t_s_21 : Cond.selects "DropsDanceModel" (⟨"DropsDanceModel", "firstDraft", "()V"⟩ : MethodName) (⟨"DropsDanceModel", "firstDraft", "()V"⟩ : MethodName) ∈ TB := tb_sel (y := (⟨"DropsDanceModel", "firstDraft", "()V"⟩ : MethodName)) (n := 29) (List.mem_of_getElem? (i := 21) rfl) rfl
theorem t_s_22 : Cond.selects "DropsDanceModel" (⟨"DropsDanceModel", "keepDraft", "()V"⟩ : MethodName) (⟨"DropsDanceModel", "keepDraft", "()V"⟩ : MethodName) ∈ TB := tb_sel (y := (⟨"DropsDanceModel", "keepDraft", "()V"⟩ : MethodName)) (n := 29) (List.mem_of_getElem? (i := 22) rfl) rfl
theorem t_s_23 : Cond.selects "DropsDanceModel" (⟨"DropsDanceModel", "next", "()V"⟩ : MethodName) (⟨"DropsDanceModel", "next", "()V"⟩ : MethodName) ∈ TB := tb_sel (y := (⟨"DropsDanceModel", "next", "()V"⟩ : MethodName)) (n := 29) (List.mem_of_getElem? (i := 23) rfl) rfl
theorem t_s_24 : Cond.selects "DropsDanceModel" (⟨"DropsDanceModel", "look", "(I)I"⟩ : MethodName) (⟨"DropsDanceModel", "look", "(I)I"⟩ : MethodName) ∈ TB := tb_sel (y := (⟨"DropsDanceModel", "look", "(I)I"⟩ : MethodName)) (n := 29) (List.mem_of_getElem? (i := 24) rfl) rfl
theorem t_s_25 : Cond.selects "DropsDanceModel" (⟨"DropsDanceModel", "needs", "(ZI)V"⟩ : MethodName) (⟨"DropsDanceModel", "needs", "(ZI)V"⟩ : MethodName) ∈ TB := tb_sel (y := (⟨"DropsDanceModel", "needs", "(ZI)V"⟩ : MethodName)) (n := 29) (List.mem_of_getElem? (i := 25) rfl) rfl
theorem t_s_26 : Cond.selects "DropsDanceModel" (⟨"DropsDanceModel", "readLine", "()V"⟩ : MethodName) (⟨"DropsDanceModel", "readLine", "()V"⟩ : MethodName) ∈ TB := tb_sel (y := (⟨"DropsDanceModel", "readLine", "()V"⟩ : MethodName)) (n := 29) (List.mem_of_getElem? (i := 26) rfl) rfl
theorem t_s_27 : Cond.selects "DropsDanceModel" (⟨"DropsDanceModel", "nameNow", "()I"⟩ : MethodName) (⟨"DropsDanceModel", "nameNow", "()I"⟩ : MethodName) ∈ TB := tb_sel (y := (⟨"DropsDanceModel", "nameNow", "()I"⟩ : MethodName)) (n := 29) (List.mem_of_getElem? (i := 27) rfl) rfl
theorem t_s_28 : Cond.selects "DropsDanceModel" (⟨"DropsDanceModel", "starts", "(IIIII)Z"⟩ : MethodName) (⟨"DropsDanceModel", "starts", "(IIIII)Z"⟩ : MethodName) ∈ TB := tb_sel (y := (⟨"DropsDanceModel", "starts", "(IIIII)Z"⟩ : MethodName)) (n := 29) (List.mem_of_getElem? (i := 28) rfl) rfl
theorem t_s_29 : Cond.selects "DropsDanceModel" (⟨"DropsDanceModel", "readRow", "()V"⟩ : MethodName) (⟨"DropsDanceModel", "readRow", "()V"⟩ : MethodName) ∈ TB := tb_sel (y := (⟨"DropsDanceModel", "readRow", "()V"⟩ : MethodName)) (n := 29) (List.mem_of_getElem? (i := 29) rfl) rfl
theorem t_s_30 : Cond.selects "DropsDanceModel" (⟨"DropsDanceModel", "lowest", "(I)I"⟩ : MethodName) (⟨"DropsDanceModel", "lowest", "(I)I"⟩ : MethodName) ∈ TB := tb_sel (y := (⟨"DropsDanceModel", "lowest", "(I)I"⟩ : MethodName)) (n := 29) (List.mem_of_getElem? (i := 30) rfl) rfl
theorem t_s_31 : Cond.selects "DropsDanceModel" (⟨"DropsDanceModel", "highest", "(I)I"⟩ : MethodName) (⟨"DropsDanceModel", "highest", "(I)I"⟩ : MethodName) ∈ TB := tb_sel (y := (⟨"DropsDanceModel", "highest", "(I)I"⟩ : MethodName)) (n := 29) (List.mem_of_getElem? (i := 31) rfl) rfl
theorem t_s_32 : Cond.selects "DropsDanceModel" (⟨"DropsDanceModel", "readNumber", "(II)I"⟩ : MethodName) (⟨"DropsDanceModel", "readNumber", "(II)I"⟩ : MethodName) ∈ TB := tb_sel (y := (⟨"DropsDanceModel", "readNumber", "(II)I"⟩ : MethodName)) (n := 29) (List.mem_of_getElem? (i := 32) rfl) rfl
theorem t_s_33 : Cond.selects "DropsDanceModel" (⟨"DropsDanceModel", "inCell", "(II)I"⟩ : MethodName) (⟨"DropsDanceModel", "inCell", "(II)I"⟩ : MethodName) ∈ TB := tb_sel (y := (⟨"DropsDanceModel", "inCell", "(II)I"⟩ : MethodName)) (n := 29) (List.mem_of_getElem? (i := 33) rfl) rfl
theorem t_s_34 : Cond.selects "DropsDanceModel" (⟨"DropsDanceModel", "isThere", "(I)Z"⟩ : MethodName) (⟨"DropsDanceModel", "isThere", "(I)Z"⟩ : MethodName) ∈ TB := tb_sel (y := (⟨"DropsDanceModel", "isThere", "(I)Z"⟩ : MethodName)) (n := 29) (List.mem_of_getElem? (i := 34) rfl) rfl
theorem t_s_35 : Cond.selects "DropsDanceModel" (⟨"DropsDanceModel", "acts", "(I)V"⟩ : MethodName) (⟨"DropsDanceModel", "acts", "(I)V"⟩ : MethodName) ∈ TB := tb_sel (y := (⟨"DropsDanceModel", "acts", "(I)V"⟩ : MethodName)) (n := 29) (List.mem_of_getElem? (i := 35) rfl) rfl
theorem t_s_36 : Cond.selects "DropsDanceModel" (⟨"DropsDanceModel", "touches", "(I)Z"⟩ : MethodName) (⟨"DropsDanceModel", "touches", "(I)Z"⟩ : MethodName) ∈ TB := tb_sel (y := (⟨"DropsDanceModel", "touches", "(I)Z"⟩ : MethodName)) (n := 29) (List.mem_of_getElem? (i := 36) rfl) rfl
theorem t_s_37 : Cond.selects "DropsDanceModel" (⟨"DropsDanceModel", "hisses", "(II)I"⟩ : MethodName) (⟨"DropsDanceModel", "hisses", "(II)I"⟩ : MethodName) ∈ TB := tb_sel (y := (⟨"DropsDanceModel", "hisses", "(II)I"⟩ : MethodName)) (n := 29) (List.mem_of_getElem? (i := 37) rfl) rfl
theorem t_s_38 : Cond.selects "DropsDanceModel" (⟨"DropsDanceModel", "loses", "(II)V"⟩ : MethodName) (⟨"DropsDanceModel", "loses", "(II)V"⟩ : MethodName) ∈ TB := tb_sel (y := (⟨"DropsDanceModel", "loses", "(II)V"⟩ : MethodName)) (n := 29) (List.mem_of_getElem? (i := 38) rfl) rfl
theorem t_s_39 : Cond.selects "DropsDanceModel" (⟨"DropsDanceModel", "ends", "(II)V"⟩ : MethodName) (⟨"DropsDanceModel", "ends", "(II)V"⟩ : MethodName) ∈ TB := tb_sel (y := (⟨"DropsDanceModel", "ends", "(II)V"⟩ : MethodName)) (n := 29) (List.mem_of_getElem? (i := 39) rfl) rfl
theorem t_s_40 : Cond.selects "DropsDanceModel" (⟨"DropsDanceModel", "thins", "(II)I"⟩ : MethodName) (⟨"DropsDanceModel", "thins", "(II)I"⟩ : MethodName) ∈ TB := tb_sel (y := (⟨"DropsDanceModel", "thins", "(II)I"⟩ : MethodName)) (n := 29) (List.mem_of_getElem? (i := 40) rfl) rfl
theorem t_s_41 : Cond.selects "DropsDanceModel" (⟨"DropsDanceModel", "goesOn", "(I)V"⟩ : MethodName) (⟨"DropsDanceModel", "goesOn", "(I)V"⟩ : MethodName) ∈ TB := tb_sel (y := (⟨"DropsDanceModel", "goesOn", "(I)V"⟩ : MethodName)) (n := 29) (List.mem_of_getElem? (i := 41) rfl) rfl
theorem t_s_42 : Cond.selects "DropsDanceModel" (⟨"DropsDanceModel", "isTooth", "(II)Z"⟩ : MethodName) (⟨"DropsDanceModel", "isTooth", "(II)Z"⟩ : MethodName) ∈ TB := tb_sel (y := (⟨"DropsDanceModel", "isTooth", "(II)Z"⟩ : MethodName)) (n := 29) (List.mem_of_getElem? (i := 42) rfl) rfl
theorem t_s_43 : Cond.selects "DropsDanceModel" (⟨"DropsDanceModel", "draws", "()I"⟩ : MethodName) (⟨"DropsDanceModel", "draws", "()I"⟩ : MethodName) ∈ TB := tb_sel (y := (⟨"DropsDanceModel", "draws", "()I"⟩ : MethodName)) (n := 29) (List.mem_of_getElem? (i := 43) rfl) rfl
theorem t_s_44 : Cond.selects "DropsDanceModel" (⟨"DropsDanceModel", "isWall", "(I)Z"⟩ : MethodName) (⟨"DropsDanceModel", "isWall", "(I)Z"⟩ : MethodName) ∈ TB := tb_sel (y := (⟨"DropsDanceModel", "isWall", "(I)Z"⟩ : MethodName)) (n := 29) (List.mem_of_getElem? (i := 44) rfl) rfl
theorem t_s_45 : Cond.selects "DropsDanceModel" (⟨"DropsDanceModel", "thereMany", "()I"⟩ : MethodName) (⟨"DropsDanceModel", "thereMany", "()I"⟩ : MethodName) ∈ TB := tb_sel (y := (⟨"DropsDanceModel", "thereMany", "()I"⟩ : MethodName)) (n := 29) (List.mem_of_getElem? (i := 45) rfl) rfl
theorem t_s_46 : Cond.selects "DropsDanceModel" (⟨"DropsDanceModel", "copies", "(II)V"⟩ : MethodName) (⟨"DropsDanceModel", "copies", "(II)V"⟩ : MethodName) ∈ TB := tb_sel (y := (⟨"DropsDanceModel", "copies", "(II)V"⟩ : MethodName)) (n := 29) (List.mem_of_getElem? (i := 46) rfl) rfl
theorem t_s_47 : Cond.selects "DropsDanceModel" (⟨"DropsDanceModel", "sets", "(III)V"⟩ : MethodName) (⟨"DropsDanceModel", "sets", "(III)V"⟩ : MethodName) ∈ TB := tb_sel (y := (⟨"DropsDanceModel", "sets", "(III)V"⟩ : MethodName)) (n := 29) (List.mem_of_getElem? (i := 47) rfl) rfl
theorem t_s_48 : Cond.selects "DropsDanceModel" (⟨"DropsDanceModel", "oneActs", "(I)V"⟩ : MethodName) (⟨"DropsDanceModel", "oneActs", "(I)V"⟩ : MethodName) ∈ TB := tb_sel (y := (⟨"DropsDanceModel", "oneActs", "(I)V"⟩ : MethodName)) (n := 29) (List.mem_of_getElem? (i := 48) rfl) rfl
theorem t_s_49 : Cond.selects "DropsDanceModel" (⟨"DropsDanceModel", "oneEnds", "(II)V"⟩ : MethodName) (⟨"DropsDanceModel", "oneEnds", "(II)V"⟩ : MethodName) ∈ TB := tb_sel (y := (⟨"DropsDanceModel", "oneEnds", "(II)V"⟩ : MethodName)) (n := 29) (List.mem_of_getElem? (i := 49) rfl) rfl
theorem t_s_50 : Cond.selects "DropsDanceModel" (⟨"DropsDanceModel", "oneGoes", "(I)V"⟩ : MethodName) (⟨"DropsDanceModel", "oneGoes", "(I)V"⟩ : MethodName) ∈ TB := tb_sel (y := (⟨"DropsDanceModel", "oneGoes", "(I)V"⟩ : MethodName)) (n := 29) (List.mem_of_getElem? (i := 50) rfl) rfl
theorem t_s_51 : Cond.selects "DropsDanceModel" (⟨"DropsDanceModel", "reachOf", "(IIII)I"⟩ : MethodName) (⟨"DropsDanceModel", "reachOf", "(IIII)I"⟩ : MethodName) ∈ TB := tb_sel (y := (⟨"DropsDanceModel", "reachOf", "(IIII)I"⟩ : MethodName)) (n := 29) (List.mem_of_getElem? (i := 51) rfl) rfl
theorem t_s_52 : Cond.selects "DropsDanceModel" (⟨"DropsDanceModel", "along", "(III)I"⟩ : MethodName) (⟨"DropsDanceModel", "along", "(III)I"⟩ : MethodName) ∈ TB := tb_sel (y := (⟨"DropsDanceModel", "along", "(III)I"⟩ : MethodName)) (n := 29) (List.mem_of_getElem? (i := 52) rfl) rfl
theorem t_s_53 : Cond.selects "DropsDanceModel" (⟨"DropsDanceModel", "lifeAt", "(IIZ)I"⟩ : MethodName) (⟨"DropsDanceModel", "lifeAt", "(IIZ)I"⟩ : MethodName) ∈ TB := tb_sel (y := (⟨"DropsDanceModel", "lifeAt", "(IIZ)I"⟩ : MethodName)) (n := 29) (List.mem_of_getElem? (i := 53) rfl) rfl
theorem t_s_54 : Cond.selects "DropsDanceModel" (⟨"DropsDanceModel", "floatsAt", "(IZ)Z"⟩ : MethodName) (⟨"DropsDanceModel", "floatsAt", "(IZ)Z"⟩ : MethodName) ∈ TB := tb_sel (y := (⟨"DropsDanceModel", "floatsAt", "(IZ)Z"⟩ : MethodName)) (n := 29) (List.mem_of_getElem? (i := 54) rfl) rfl
theorem t_s_55 : Cond.selects "DropsDanceModel" (⟨"DropsDanceModel", "lifeOf", "(IIZ)I"⟩ : MethodName) (⟨"DropsDanceModel", "lifeOf", "(IIZ)I"⟩ : MethodName) ∈ TB := tb_sel (y := (⟨"DropsDanceModel", "lifeOf", "(IIZ)I"⟩ : MethodName)) (n := 29) (List.mem_of_getElem? (i := 55) rfl) rfl
theorem t_s_56 : Cond.selects "DropsDanceModel" (⟨"DropsDanceModel", "spreads", "(I)J"⟩ : MethodName) (⟨"DropsDanceModel", "spreads", "(I)J"⟩ : MethodName) ∈ TB := tb_sel (y := (⟨"DropsDanceModel", "spreads", "(I)J"⟩ : MethodName)) (n := 29) (List.mem_of_getElem? (i := 56) rfl) rfl
theorem t_s_57 : Cond.selects "DropsDanceModel" (⟨"DropsDanceModel", "isRight", "(I)Z"⟩ : MethodName) (⟨"DropsDanceModel", "isRight", "(I)Z"⟩ : MethodName) ∈ TB := tb_sel (y := (⟨"DropsDanceModel", "isRight", "(I)Z"⟩ : MethodName)) (n := 29) (List.mem_of_getElem? (i := 57) rfl) rfl
theorem t_s_58 : Cond.selects "DropsDanceModel" (⟨"DropsDanceModel", "takesBack", "(II)V"⟩ : MethodName) (⟨"DropsDanceModel", "takesBack", "(II)V"⟩ : MethodName) ∈ TB := tb_sel (y := (⟨"DropsDanceModel", "takesBack", "(II)V"⟩ : MethodName)) (n := 29) (List.mem_of_getElem? (i := 58) rfl) rfl
theorem f_X0 : ∀ w ∈ u_ws RX0 TX0 6, w ∈ TB := by
  show ∀ w ∈ [Cond.lays "DropsDance$Drop" "DropsDance$Drop" "cell" "I", Cond.lays "DropsDance$Drop" "DropsDance$Drop" "size" "I", Cond.lays "DropsDance$Drop" "DropsDance$Drop" "way" "I", Cond.lays "DropsDance$Drop" "DropsDance$Drop" "gone" "I", Cond.lays "DropsDance$Drop" "DropsDance$Drop" "goneTick" "I", Cond.lays "DropsDance$Drop" "DropsDance$Drop" "joinedTo" "I"], w ∈ TB
  exact (List.forall_mem_cons.mpr ⟨t_1_140, (List.forall_mem_cons.mpr ⟨t_1_142, (List.forall_mem_cons.mpr ⟨t_1_144, (List.forall_mem_cons.mpr ⟨t_1_146, (List.forall_mem_cons.mpr ⟨t_1_148, (List.forall_mem_cons.mpr ⟨t_1_150, (fun _ h => absurd h List.not_mem_nil)⟩)⟩)⟩)⟩)⟩)⟩)
theorem f_X1 : ∀ w ∈ u_ws RX1 TX1 2, w ∈ TB := by
  show ∀ w ∈ [Cond.laysFinal "DropsDance$Image" "DropsDance$Image" "scene" "LDropsDance$Scene;", Cond.lays "DropsDance$Image" "DropsDance$Image" "there" "Z"], w ∈ TB
  exact (List.forall_mem_cons.mpr ⟨t_2_74, (List.forall_mem_cons.mpr ⟨t_2_76, (fun _ h => absurd h List.not_mem_nil)⟩)⟩)
theorem f_X2 : ∀ w ∈ u_ws RX2 TX2 9, w ∈ TB := by
  show ∀ w ∈ [Cond.laysFinal "DropsDance$Loner" "DropsDance$Loner" "own" "LDropsDance$Scene;", Cond.laysFinal "DropsDance$Loner" "DropsDance$Loner" "been" "[I", Cond.laysFinal "DropsDance$Loner" "DropsDance$Loner" "worthTrying" "[I", Cond.lays "DropsDance$Loner" "DropsDance$Loner" "firstCell" "I", Cond.lays "DropsDance$Loner" "DropsDance$Loner" "firstSize" "I", Cond.lays "DropsDance$Loner" "DropsDance$Loner" "firstWay" "I", Cond.lays "DropsDance$Loner" "DropsDance$Loner" "bestTicks" "I", Cond.lays "DropsDance$Loner" "DropsDance$Loner" "bestCell" "I", Cond.lays "DropsDance$Loner" "DropsDance$Loner" "bestKind" "I"], w ∈ TB
  exact (List.forall_mem_cons.mpr ⟨t_1_222, (List.forall_mem_cons.mpr ⟨t_1_224, (List.forall_mem_cons.mpr ⟨t_1_226, (List.forall_mem_cons.mpr ⟨t_1_228, (List.forall_mem_cons.mpr ⟨t_1_230, (List.forall_mem_cons.mpr ⟨t_1_232, (List.forall_mem_cons.mpr ⟨t_1_234, (List.forall_mem_cons.mpr ⟨t_1_236, (List.forall_mem_cons.mpr ⟨t_1_238, (fun _ h => absurd h List.not_mem_nil)⟩)⟩)⟩)⟩)⟩)⟩)⟩)⟩)⟩)
theorem f_X3 : ∀ w ∈ u_ws RX3 TX3 4, w ∈ TB := by
  show ∀ w ∈ [Cond.laysFinal "DropsDance$Path" "DropsDance$Path" "walker" "LDropsDance$Drop;", Cond.laysFinal "DropsDance$Path" "DropsDance$Path" "seenAt" "[I", Cond.lays "DropsDance$Path" "DropsDance$Path" "ticksBefore" "I", Cond.lays "DropsDance$Path" "DropsDance$Path" "ticksRound" "I"], w ∈ TB
  exact (List.forall_mem_cons.mpr ⟨t_2_15, (List.forall_mem_cons.mpr ⟨t_2_17, (List.forall_mem_cons.mpr ⟨t_2_19, (List.forall_mem_cons.mpr ⟨t_2_21, (fun _ h => absurd h List.not_mem_nil)⟩)⟩)⟩)⟩)
theorem f_X4 : ∀ w ∈ u_ws RX4 TX4 2, w ∈ TB := by
  show ∀ w ∈ [Cond.laysFinal "DropsDance$Roller" "DropsDance$Roller" "courses" "[J", Cond.laysFinal "DropsDance$Roller" "DropsDance$Roller" "coursesNext" "[J"], w ∈ TB
  exact (List.forall_mem_cons.mpr ⟨t_2_32, (List.forall_mem_cons.mpr ⟨t_2_34, (fun _ h => absurd h List.not_mem_nil)⟩)⟩)
theorem f_X5 : ∀ w ∈ u_ws RX5 TX5 1, w ∈ TB := by
  show ∀ w ∈ [Cond.laysFinal "DropsDance$Rules" "DropsDance$Rules" "values" "[I"], w ∈ TB
  exact (List.forall_mem_cons.mpr ⟨t_1_51, (fun _ h => absurd h List.not_mem_nil)⟩)
theorem f_X6 : ∀ w ∈ u_ws RX6 TX6 11, w ∈ TB := by
  show ∀ w ∈ [Cond.laysFinal "DropsDance$Scene" "DropsDance$Scene" "cells" "[I", Cond.laysFinal "DropsDance$Scene" "DropsDance$Scene" "drops" "[LDropsDance$Drop;", Cond.lays "DropsDance$Scene" "DropsDance$Scene" "many" "I", Cond.lays "DropsDance$Scene" "DropsDance$Scene" "heat" "I", Cond.lays "DropsDance$Scene" "DropsDance$Scene" "tick" "I", Cond.lays "DropsDance$Scene" "DropsDance$Scene" "seed" "I", Cond.lays "DropsDance$Scene" "DropsDance$Scene" "floating" "Z", Cond.lays "DropsDance$Scene" "DropsDance$Scene" "steam" "I", Cond.lays "DropsDance$Scene" "DropsDance$Scene" "fallen" "I", Cond.lays "DropsDance$Scene" "DropsDance$Scene" "leapt" "I", Cond.lays "DropsDance$Scene" "DropsDance$Scene" "poured" "I"], w ∈ TB
  exact (List.forall_mem_cons.mpr ⟨t_1_177, (List.forall_mem_cons.mpr ⟨t_1_179, (List.forall_mem_cons.mpr ⟨t_1_181, (List.forall_mem_cons.mpr ⟨t_1_183, (List.forall_mem_cons.mpr ⟨t_1_185, (List.forall_mem_cons.mpr ⟨t_1_187, (List.forall_mem_cons.mpr ⟨t_1_189, (List.forall_mem_cons.mpr ⟨t_1_191, (List.forall_mem_cons.mpr ⟨t_1_193, (List.forall_mem_cons.mpr ⟨t_1_195, (List.forall_mem_cons.mpr ⟨t_1_197, (fun _ h => absurd h List.not_mem_nil)⟩)⟩)⟩)⟩)⟩)⟩)⟩)⟩)⟩)⟩)⟩)
theorem f_X7 : ∀ w ∈ u_ws RX7 TX7 3, w ∈ TB := by
  show ∀ w ∈ [Cond.laysFinal "DropsDance$Sheet" "DropsDance$Sheet" "row" "[I", Cond.lays "DropsDance$Sheet" "DropsDance$Sheet" "lane" "I", Cond.lays "DropsDance$Sheet" "DropsDance$Sheet" "length" "I"], w ∈ TB
  exact (List.forall_mem_cons.mpr ⟨t_2_89, (List.forall_mem_cons.mpr ⟨t_2_91, (List.forall_mem_cons.mpr ⟨t_2_93, (fun _ h => absurd h List.not_mem_nil)⟩)⟩)⟩)
theorem f_X8 : ∀ w ∈ u_ws RX8 TX8 12, w ∈ TB := by
  show ∀ w ∈ [Cond.laysFinal "DropsDance$TextReader" "DropsDance$TextReader" "tape" "[B", Cond.laysFinal "DropsDance$TextReader" "DropsDance$TextReader" "rules" "LDropsDance$Rules;", Cond.laysFinal "DropsDance$TextReader" "DropsDance$TextReader" "cells" "[I", Cond.laysFinal "DropsDance$TextReader" "DropsDance$TextReader" "ruleTold" "[Z", Cond.lays "DropsDance$TextReader" "DropsDance$TextReader" "length" "I", Cond.lays "DropsDance$TextReader" "DropsDance$TextReader" "next" "I", Cond.lays "DropsDance$TextReader" "DropsDance$TextReader" "rows" "I", Cond.lays "DropsDance$TextReader" "DropsDance$TextReader" "kind" "I", Cond.lays "DropsDance$TextReader" "DropsDance$TextReader" "start" "I", Cond.lays "DropsDance$TextReader" "DropsDance$TextReader" "lines" "I", Cond.lays "DropsDance$TextReader" "DropsDance$TextReader" "fault" "I", Cond.lays "DropsDance$TextReader" "DropsDance$TextReader" "place" "I"], w ∈ TB
  exact (List.forall_mem_cons.mpr ⟨t_1_74, (List.forall_mem_cons.mpr ⟨t_1_76, (List.forall_mem_cons.mpr ⟨t_1_78, (List.forall_mem_cons.mpr ⟨t_1_80, (List.forall_mem_cons.mpr ⟨t_1_82, (List.forall_mem_cons.mpr ⟨t_1_84, (List.forall_mem_cons.mpr ⟨t_1_86, (List.forall_mem_cons.mpr ⟨t_1_88, (List.forall_mem_cons.mpr ⟨t_1_90, (List.forall_mem_cons.mpr ⟨t_1_92, (List.forall_mem_cons.mpr ⟨t_1_94, (List.forall_mem_cons.mpr ⟨t_1_96, (fun _ h => absurd h List.not_mem_nil)⟩)⟩)⟩)⟩)⟩)⟩)⟩)⟩)⟩)⟩)⟩)⟩)
theorem f_X9 : ∀ w ∈ u_ws RX9 TX9 5, w ∈ TB := by
  show ∀ w ∈ [Cond.laysFinal "DropsDance$ToldLives" "DropsDance$ToldLives" "sizes" "[I", Cond.laysFinal "DropsDance$ToldLives" "DropsDance$ToldLives" "heats" "[I", Cond.laysFinal "DropsDance$ToldLives" "DropsDance$ToldLives" "lives" "[I", Cond.laysFinal "DropsDance$ToldLives" "DropsDance$ToldLives" "fromBelow" "[Z", Cond.lays "DropsDance$ToldLives" "DropsDance$ToldLives" "many" "I"], w ∈ TB
  exact (List.forall_mem_cons.mpr ⟨t_2_50, (List.forall_mem_cons.mpr ⟨t_2_52, (List.forall_mem_cons.mpr ⟨t_2_54, (List.forall_mem_cons.mpr ⟨t_2_56, (List.forall_mem_cons.mpr ⟨t_2_58, (fun _ h => absurd h List.not_mem_nil)⟩)⟩)⟩)⟩)⟩)
theorem f_X10 : ∀ w ∈ u_ws RX10 TX10 12, w ∈ TB := by
  show ∀ w ∈ [Cond.laysFinal "DropsDance" "DropsDance" "reader" "LDropsDance$TextReader;", Cond.lays "DropsDance" "DropsDance" "tapeLength" "I", Cond.lays "DropsDance" "DropsDance" "textFault" "I", Cond.laysFinal "DropsDance" "DropsDance" "rules" "LDropsDance$Rules;", Cond.laysFinal "DropsDance" "DropsDance" "scene" "LDropsDance$Scene;", Cond.laysFinal "DropsDance" "DropsDance" "images" "[LDropsDance$Image;", Cond.laysFinal "DropsDance" "DropsDance" "loner" "LDropsDance$Loner;", Cond.laysFinal "DropsDance" "DropsDance" "path" "LDropsDance$Path;", Cond.laysFinal "DropsDance" "DropsDance" "roller" "LDropsDance$Roller;", Cond.laysFinal "DropsDance" "DropsDance" "told" "LDropsDance$ToldLives;", Cond.laysFinal "DropsDance" "DropsDance" "sheets" "[LDropsDance$Sheet;", Cond.lays "DropsDance" "DropsDance" "readFault" "I"], w ∈ TB
  exact (List.forall_mem_cons.mpr ⟨t_2_108, (List.forall_mem_cons.mpr ⟨t_2_110, (List.forall_mem_cons.mpr ⟨t_2_112, (List.forall_mem_cons.mpr ⟨t_2_114, (List.forall_mem_cons.mpr ⟨t_2_116, (List.forall_mem_cons.mpr ⟨t_2_118, (List.forall_mem_cons.mpr ⟨t_2_120, (List.forall_mem_cons.mpr ⟨t_2_122, (List.forall_mem_cons.mpr ⟨t_2_124, (List.forall_mem_cons.mpr ⟨t_2_126, (List.forall_mem_cons.mpr ⟨t_2_128, (List.forall_mem_cons.mpr ⟨t_2_130, (fun _ h => absurd h List.not_mem_nil)⟩)⟩)⟩)⟩)⟩)⟩)⟩)⟩)⟩)⟩)⟩)⟩)
theorem f_X11 : ∀ w ∈ u_ws RX11 TX11 29, w ∈ TB := by
  show ∀ w ∈ [Cond.laysFinal "DropsDanceModel" "DropsDanceModel" "st" "[I", Cond.laysFinal "DropsDanceModel" "DropsDanceModel" "isKept" "[Z", Cond.laysFinal "DropsDanceModel" "DropsDanceModel" "rule" "[I", Cond.laysFinal "DropsDanceModel" "DropsDanceModel" "dRule" "[I", Cond.laysFinal "DropsDanceModel" "DropsDanceModel" "isTold" "[Z", Cond.lays "DropsDanceModel" "DropsDanceModel" "dRows" "I", Cond.laysFinal "DropsDanceModel" "DropsDanceModel" "dPlate" "[I", Cond.laysFinal "DropsDanceModel" "DropsDanceModel" "tape" "[I", Cond.lays "DropsDanceModel" "DropsDanceModel" "taped" "I", Cond.lays "DropsDanceModel" "DropsDanceModel" "pos" "I", Cond.lays "DropsDanceModel" "DropsDanceModel" "from" "I", Cond.lays "DropsDanceModel" "DropsDanceModel" "sort" "I", Cond.lays "DropsDanceModel" "DropsDanceModel" "value" "I", Cond.lays "DropsDanceModel" "DropsDanceModel" "fault" "I", Cond.lays "DropsDanceModel" "DropsDanceModel" "wrongAt" "I", Cond.lays "DropsDanceModel" "DropsDanceModel" "oneAt" "I", Cond.lays "DropsDanceModel" "DropsDanceModel" "oneBig" "I", Cond.lays "DropsDanceModel" "DropsDanceModel" "oneWay" "I", Cond.lays "DropsDanceModel" "DropsDanceModel" "oneGone" "I", Cond.lays "DropsDanceModel" "DropsDanceModel" "oneWhen" "I", Cond.laysFinal "DropsDanceModel" "DropsDanceModel" "seen" "[I", Cond.laysFinal "DropsDanceModel" "DropsDanceModel" "waysTo" "[J", Cond.laysFinal "DropsDanceModel" "DropsDanceModel" "waysThen" "[J", Cond.lays "DropsDanceModel" "DropsDanceModel" "saws" "I", Cond.laysFinal "DropsDanceModel" "DropsDanceModel" "saw" "[I", Cond.laysFinal "DropsDanceModel" "DropsDanceModel" "lanes" "[I", Cond.laysFinal "DropsDanceModel" "DropsDanceModel" "sizes" "[I", Cond.laysFinal "DropsDanceModel" "DropsDanceModel" "cells" "[I", Cond.lays "DropsDanceModel" "DropsDanceModel" "torn" "I"], w ∈ TB
  exact (List.forall_mem_cons.mpr ⟨t_5_85, (List.forall_mem_cons.mpr ⟨t_5_87, (List.forall_mem_cons.mpr ⟨t_5_89, (List.forall_mem_cons.mpr ⟨t_5_91, (List.forall_mem_cons.mpr ⟨t_5_93, (List.forall_mem_cons.mpr ⟨t_5_95, (List.forall_mem_cons.mpr ⟨t_5_97, (List.forall_mem_cons.mpr ⟨t_5_99, (List.forall_mem_cons.mpr ⟨t_5_101, (List.forall_mem_cons.mpr ⟨t_5_103, (List.forall_mem_cons.mpr ⟨t_5_105, (List.forall_mem_cons.mpr ⟨t_5_107, (List.forall_mem_cons.mpr ⟨t_5_109, (List.forall_mem_cons.mpr ⟨t_5_111, (List.forall_mem_cons.mpr ⟨t_5_113, (List.forall_mem_cons.mpr ⟨t_5_115, (List.forall_mem_cons.mpr ⟨t_5_117, (List.forall_mem_cons.mpr ⟨t_5_119, (List.forall_mem_cons.mpr ⟨t_5_121, (List.forall_mem_cons.mpr ⟨t_5_123, (List.forall_mem_cons.mpr ⟨t_5_125, (List.forall_mem_cons.mpr ⟨t_5_127, (List.forall_mem_cons.mpr ⟨t_5_129, (List.forall_mem_cons.mpr ⟨t_5_131, (List.forall_mem_cons.mpr ⟨t_5_133, (List.forall_mem_cons.mpr ⟨t_5_135, (List.forall_mem_cons.mpr ⟨t_5_137, (List.forall_mem_cons.mpr ⟨t_5_139, (List.forall_mem_cons.mpr ⟨t_5_141, (fun _ h => absurd h List.not_mem_nil)⟩)⟩)⟩)⟩)⟩)⟩)⟩)⟩)⟩)⟩)⟩)⟩)⟩)⟩)⟩)⟩)⟩)⟩)⟩)⟩)⟩)⟩)⟩)⟩)⟩)⟩)⟩)⟩)⟩)
