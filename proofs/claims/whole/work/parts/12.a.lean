theorem u_1_31 : Jvm.Cond.methodLinkNest "DropsDance" (9 : Nat) ({ cls := "DropsDance$TextReader", name := "<init>", desc := "()V" } : Jvm.MethodName) "DropsDance" ∈ lw_tbl := List.mem_append_right _ (List.mem_append_left _ (List.mem_of_getElem? (i := 31) rfl))
theorem u_1_45 : Jvm.Cond.fieldLinkNest "DropsDance$Rules" (18 : Nat) "DropsDance" "RULE_FIRST" "[I" "DropsDance" ∈ lw_tbl := List.mem_append_right _ (List.mem_append_left _ (List.mem_of_getElem? (i := 45) rfl))
theorem u_1_46 : Jvm.Cond.laysStatic "DropsDance" "RULE_FIRST" "[I" ∈ lw_tbl := List.mem_append_right _ (List.mem_append_left _ (List.mem_of_getElem? (i := 46) rfl))
theorem u_1_109 : Jvm.Cond.arrayOver (Jvm.ClassFile.FieldType.object "DropsDance$Drop") ∈ lw_tbl := List.mem_append_right _ (List.mem_append_left _ (List.mem_of_getElem? (i := 109) rfl))
theorem u_1_114 : Jvm.Cond.methodLinkNest "DropsDance$Scene" (56 : Nat) ({ cls := "DropsDance$Drop", name := "<init>", desc := "()V" } : Jvm.MethodName) "DropsDance" ∈ lw_tbl := List.mem_append_right _ (List.mem_append_left _ (List.mem_of_getElem? (i := 114) rfl))
theorem u_1_201 : Jvm.Cond.arrayOver (Jvm.ClassFile.FieldType.object "DropsDance$Image") ∈ lw_tbl := List.mem_append_right _ (List.mem_append_left _ (List.mem_of_getElem? (i := 201) rfl))
theorem u_1_204 : Jvm.Cond.methodLinkNest "DropsDance" (45 : Nat) ({ cls := "DropsDance$Loner", name := "<init>", desc := "()V" } : Jvm.MethodName) "DropsDance" ∈ lw_tbl := List.mem_append_right _ (List.mem_append_left _ (List.mem_of_getElem? (i := 204) rfl))
theorem u_2_3 : Jvm.Cond.methodLinkNest "DropsDance" (52 : Nat) ({ cls := "DropsDance$Path", name := "<init>", desc := "()V" } : Jvm.MethodName) "DropsDance" ∈ lw_tbl := List.mem_append_right _ (List.mem_append_right _ (List.mem_append_left _ (List.mem_of_getElem? (i := 3) rfl)))
theorem u_2_8 : Jvm.Cond.methodLinkNest "DropsDance$Path" (11 : Nat) ({ cls := "DropsDance$Drop", name := "<init>", desc := "()V" } : Jvm.MethodName) "DropsDance" ∈ lw_tbl := List.mem_append_right _ (List.mem_append_right _ (List.mem_append_left _ (List.mem_of_getElem? (i := 8) rfl)))
theorem u_2_26 : Jvm.Cond.methodLinkNest "DropsDance" (59 : Nat) ({ cls := "DropsDance$Roller", name := "<init>", desc := "()V" } : Jvm.MethodName) "DropsDance" ∈ lw_tbl := List.mem_append_right _ (List.mem_append_right _ (List.mem_append_left _ (List.mem_of_getElem? (i := 26) rfl)))
theorem u_2_40 : Jvm.Cond.methodLinkNest "DropsDance" (66 : Nat) ({ cls := "DropsDance$ToldLives", name := "<init>", desc := "()V" } : Jvm.MethodName) "DropsDance" ∈ lw_tbl := List.mem_append_right _ (List.mem_append_right _ (List.mem_append_left _ (List.mem_of_getElem? (i := 40) rfl)))
theorem u_2_62 : Jvm.Cond.arrayOver (Jvm.ClassFile.FieldType.object "DropsDance$Sheet") ∈ lw_tbl := List.mem_append_right _ (List.mem_append_right _ (List.mem_append_left _ (List.mem_of_getElem? (i := 62) rfl)))
theorem u_2_64 : Jvm.Cond.methodLinkNest "DropsDance" (80 : Nat) ({ cls := "DropsDance$Image", name := "<init>", desc := "()V" } : Jvm.MethodName) "DropsDance" ∈ lw_tbl := List.mem_append_right _ (List.mem_append_right _ (List.mem_append_left _ (List.mem_of_getElem? (i := 64) rfl)))
theorem u_2_80 : Jvm.Cond.methodLinkNest "DropsDance" (81 : Nat) ({ cls := "DropsDance$Sheet", name := "<init>", desc := "()V" } : Jvm.MethodName) "DropsDance" ∈ lw_tbl := List.mem_append_right _ (List.mem_append_right _ (List.mem_append_left _ (List.mem_of_getElem? (i := 80) rfl)))
theorem u_2_176 : Jvm.Cond.stringRef "DropsDance$TextReader" (62 : Nat) "row" ∈ lw_tbl := List.mem_append_right _ (List.mem_append_right _ (List.mem_append_left _ (List.mem_of_getElem? (i := 176) rfl)))
theorem u_2_190 : Jvm.Cond.laysStatic "java/lang/String" "COMPACT_STRINGS" "Z" ∈ lw_tbl := List.mem_append_right _ (List.mem_append_right _ (List.mem_append_left _ (List.mem_of_getElem? (i := 190) rfl)))
theorem u_2_206 : Jvm.Cond.laysStatic "jdk/internal/util/Preconditions" "SIOOBE_FORMATTER" "Ljava/util/function/BiFunction;" ∈ lw_tbl := List.mem_append_right _ (List.mem_append_right _ (List.mem_append_left _ (List.mem_of_getElem? (i := 206) rfl)))
theorem u_2_224 : Jvm.Cond.laysStatic "java/lang/StringUTF16" "$assertionsDisabled" "Z" ∈ lw_tbl := List.mem_append_right _ (List.mem_append_right _ (List.mem_append_left _ (List.mem_of_getElem? (i := 224) rfl)))
theorem u_2_226 : Jvm.Cond.laysStatic "java/lang/StringUTF16" "HI_BYTE_SHIFT" "I" ∈ lw_tbl := List.mem_append_right _ (List.mem_append_right _ (List.mem_append_left _ (List.mem_of_getElem? (i := 226) rfl)))
theorem u_2_228 : Jvm.Cond.laysStatic "java/lang/StringUTF16" "LO_BYTE_SHIFT" "I" ∈ lw_tbl := List.mem_append_right _ (List.mem_append_right _ (List.mem_append_left _ (List.mem_of_getElem? (i := 228) rfl)))
theorem u_2_237 : Jvm.Cond.stringRef "DropsDance$TextReader" (103 : Nat) "neswpxoc" ∈ lw_tbl := List.mem_append_right _ (List.mem_append_right _ (List.mem_append_left _ (List.mem_of_getElem? (i := 237) rfl)))
theorem u_3_62 : Jvm.Cond.stringRef "DropsDance$TextReader" (132 : Nat) "up" ∈ lw_tbl := List.mem_append_right _ (List.mem_append_right _ (List.mem_append_right _ (List.mem_append_left _ (List.mem_of_getElem? (i := 62) rfl))))
theorem u_3_63 : Jvm.Cond.stringRef "DropsDance$TextReader" (134 : Nat) "down" ∈ lw_tbl := List.mem_append_right _ (List.mem_append_right _ (List.mem_append_right _ (List.mem_append_left _ (List.mem_of_getElem? (i := 63) rfl))))
theorem u_3_64 : Jvm.Cond.stringRef "DropsDance$TextReader" (136 : Nat) "teeth" ∈ lw_tbl := List.mem_append_right _ (List.mem_append_right _ (List.mem_append_right _ (List.mem_append_left _ (List.mem_of_getElem? (i := 64) rfl))))
theorem u_3_65 : Jvm.Cond.stringRef "DropsDance$TextReader" (138 : Nat) "leap" ∈ lw_tbl := List.mem_append_right _ (List.mem_append_right _ (List.mem_append_right _ (List.mem_append_left _ (List.mem_of_getElem? (i := 65) rfl))))
theorem u_3_66 : Jvm.Cond.stringRef "DropsDance$TextReader" (140 : Nat) "chimney" ∈ lw_tbl := List.mem_append_right _ (List.mem_append_right _ (List.mem_append_right _ (List.mem_append_left _ (List.mem_of_getElem? (i := 66) rfl))))
theorem u_3_67 : Jvm.Cond.stringRef "DropsDance$TextReader" (142 : Nat) "hiss" ∈ lw_tbl := List.mem_append_right _ (List.mem_append_right _ (List.mem_append_right _ (List.mem_append_left _ (List.mem_of_getElem? (i := 67) rfl))))
theorem u_3_68 : Jvm.Cond.stringRef "DropsDance$TextReader" (144 : Nat) "film" ∈ lw_tbl := List.mem_append_right _ (List.mem_append_right _ (List.mem_append_right _ (List.mem_append_left _ (List.mem_of_getElem? (i := 68) rfl))))
theorem u_3_69 : Jvm.Cond.stringRef "DropsDance$TextReader" (146 : Nat) "roll" ∈ lw_tbl := List.mem_append_right _ (List.mem_append_right _ (List.mem_append_right _ (List.mem_append_left _ (List.mem_of_getElem? (i := 69) rfl))))
theorem u_3_70 : Jvm.Cond.stringRef "DropsDance$TextReader" (148 : Nat) "" ∈ lw_tbl := List.mem_append_right _ (List.mem_append_right _ (List.mem_append_right _ (List.mem_append_left _ (List.mem_of_getElem? (i := 70) rfl))))
theorem u_3_75 : Jvm.Cond.fieldLinkNest "DropsDance$TextReader" (113 : Nat) "DropsDance" "RULE_LEAST" "[I" "DropsDance" ∈ lw_tbl := List.mem_append_right _ (List.mem_append_right _ (List.mem_append_right _ (List.mem_append_left _ (List.mem_of_getElem? (i := 75) rfl))))
theorem u_3_76 : Jvm.Cond.laysStatic "DropsDance" "RULE_LEAST" "[I" ∈ lw_tbl := List.mem_append_right _ (List.mem_append_right _ (List.mem_append_right _ (List.mem_append_left _ (List.mem_of_getElem? (i := 76) rfl))))
theorem u_3_81 : Jvm.Cond.fieldLinkNest "DropsDance$TextReader" (119 : Nat) "DropsDance" "RULE_MOST" "[I" "DropsDance" ∈ lw_tbl := List.mem_append_right _ (List.mem_append_right _ (List.mem_append_right _ (List.mem_append_left _ (List.mem_of_getElem? (i := 81) rfl))))
theorem u_3_82 : Jvm.Cond.laysStatic "DropsDance" "RULE_MOST" "[I" ∈ lw_tbl := List.mem_append_right _ (List.mem_append_right _ (List.mem_append_right _ (List.mem_append_left _ (List.mem_of_getElem? (i := 82) rfl))))
theorem u_3_232 : Jvm.Cond.methodLinkNest "DropsDance$Scene" (154 : Nat) ({ cls := "DropsDance", name := "nextCell", desc := "(II)I" } : Jvm.MethodName) "DropsDance" ∈ lw_tbl := List.mem_append_right _ (List.mem_append_right _ (List.mem_append_right _ (List.mem_append_left _ (List.mem_of_getElem? (i := 232) rfl))))
theorem u_4_75 : Jvm.Cond.methodLinkNest "DropsDance$Loner" (61 : Nat) ({ cls := "DropsDance", name := "isCell", desc := "(I)Z" } : Jvm.MethodName) "DropsDance" ∈ lw_tbl := List.mem_append_right _ (List.mem_append_right _ (List.mem_append_right _ (List.mem_append_right _ (List.mem_append_left _ (List.mem_of_getElem? (i := 75) rfl)))))
theorem u_4_86 : Jvm.Cond.methodLinkNest "DropsDance$Path" (45 : Nat) ({ cls := "DropsDance", name := "within", desc := "(III)Z" } : Jvm.MethodName) "DropsDance" ∈ lw_tbl := List.mem_append_right _ (List.mem_append_right _ (List.mem_append_right _ (List.mem_append_right _ (List.mem_append_left _ (List.mem_of_getElem? (i := 86) rfl)))))
theorem u_4_167 : Jvm.Cond.methodLinkNest "DropsDance$Roller" (18 : Nat) ({ cls := "DropsDance", name := "isCell", desc := "(I)Z" } : Jvm.MethodName) "DropsDance" ∈ lw_tbl := List.mem_append_right _ (List.mem_append_right _ (List.mem_append_right _ (List.mem_append_right _ (List.mem_append_left _ (List.mem_of_getElem? (i := 167) rfl)))))
theorem u_4_184 : Jvm.Cond.methodLinkNest "DropsDance$Roller" (54 : Nat) ({ cls := "DropsDance", name := "isWay", desc := "(I)Z" } : Jvm.MethodName) "DropsDance" ∈ lw_tbl := List.mem_append_right _ (List.mem_append_right _ (List.mem_append_right _ (List.mem_append_right _ (List.mem_append_left _ (List.mem_of_getElem? (i := 184) rfl)))))
theorem u_4_185 : Jvm.Cond.methodLinkNest "DropsDance$Roller" (57 : Nat) ({ cls := "DropsDance", name := "nextCell", desc := "(II)I" } : Jvm.MethodName) "DropsDance" ∈ lw_tbl := List.mem_append_right _ (List.mem_append_right _ (List.mem_append_right _ (List.mem_append_right _ (List.mem_append_left _ (List.mem_of_getElem? (i := 185) rfl)))))
def PR : List Cond := flatC (Jvm.Cond.and given_1 narrow_1)
def tmS (i : Nat) : Term := Term.string "DropsDance$TextReader" (stIdx.getD i 0)
def tmT (n : String) : Term := Term.static "DropsDance" n "[I"
theorem pr_S1 : ∀ i, i < 11 → Cond.exactly (tmS i) "java/lang/String" ∈ PR := by decide +kernel
theorem pr_S2 : ∀ i, i < 11 → Cond.eq (.field (tmS i) "java/lang/String" "coder" "B") (.int 0) ∈ PR := by decide +kernel
theorem pr_S3 : ∀ i, i < 11 → Cond.arrayOf (.field (tmS i) "java/lang/String" "value" "[B") .byte ∈ PR := by decide +kernel
theorem pr_S4 : ∀ i, i < 11 → Cond.eq (.length (.field (tmS i) "java/lang/String" "value" "[B")) (.int (Int32.ofNat (stLen.getD i 0))) ∈ PR := by decide +kernel
theorem pr_S5 : ∀ i, i < 11 → ∀ j, j < stLen.getD i 0 → Cond.eq (.elem (.field (tmS i) "java/lang/String" "value" "[B") (.int (Int32.ofNat j))) (.int ((stByt.getD i []).getD j 0)) ∈ PR := by decide +kernel
theorem pr_S6 : ∀ i, i < 11 → ∀ j, j < 11 → (i = j ∨ Cond.not (Cond.eq (tmS i) (tmS j)) ∈ PR ∨ Cond.not (Cond.eq (tmS j) (tmS i)) ∈ PR) := by decide +kernel
theorem pr_T1 : ∀ q ∈ zsT, Cond.arrayOf (tmT q.1) .int ∈ PR := by decide +kernel
theorem pr_T2 : ∀ q ∈ zsT, Cond.eq (.length (tmT q.1)) (.int (Int32.ofNat 9)) ∈ PR := by decide +kernel
theorem pr_T3 : ∀ q ∈ zsT, ∀ j, j < 9 → Cond.eq (.elem (tmT q.1) (.int (Int32.ofNat j))) (.int (roC q.2 j)) ∈ PR := by decide +kernel
theorem pr_C : Cond.eq (.static "java/lang/String" "COMPACT_STRINGS" "Z") (.int 1) ∈ PR := by decide +kernel
theorem pr_F : Cond.isRef (.static "jdk/internal/util/Preconditions" "SIOOBE_FORMATTER" "Ljava/util/function/BiFunction;") ∈ PR := by decide +kernel
theorem stLen_lt : ∀ i, i < 11 → stLen.getD i 0 < 2 ^ 31 := by decide +kernel
theorem alo_ix : ∀ k, k < 110 → alo.idxOf (alo.getD k (0, 0, 0)) = k := by decide +kernel
theorem alo_tag : ∀ d ∈ alo, d.1 < 100 := by decide +kernel
theorem ka_prim {s : State} {args : Array Value} {ty : FieldType} (h : (Cond.arrayClass ty).before args s = true) : ∃ c, ArrOfT s c ty ∧ s.vm.findClass ("[" ++ ty.toString) = some c := by
  obtain ⟨c, k, comp, h1, h2, h3⟩ := Cond.arrayClass_spec h
  exact ⟨c, fun N z => ⟨fun k h => (by cases h), k, h2, comp, h3⟩, h1⟩
theorem ka_obj {s : State} {args : Array Value} {n : String} (h : (Cond.arrayOver (.object n)).before args s = true) : ∃ c, ArrOfT s c (.object n) ∧ va_RA s c (.object n) := by
  obtain ⟨comp, c, k, h1, -, h2, h3, h4⟩ := Cond.arrayOver_spec h
  exact ⟨c, fun N z => ⟨fun k h => (by cases h), k, h2, comp, h3⟩, k, comp, h2, h3, h1, h4⟩
set_option maxHeartbeats 4000000 in
/-- what the premises give at the law's start -/
theorem start_G {p : Program} {s : State} {m : MethodId} {meth : Method} {c : Code} {b L : Nat} {xs : Nat → Int32} (C0 : lw_At p s m meth c b L xs) : ∃ G : Gx, G.2.2.2.1 = L ∧ G.2.2.2.2.1 = xs ∧ G.1 (110, 0, 0) = b ∧ Adr G s.heap.size ∧ va_K G.2.1 vwCl (tyl G) s ∧ ExS G s.heap.size s s.heap := by
  obtain ⟨hx, hb, hr, hml, hown, hts, hX, hbl, hlocks, hgv⟩ := C0
  have hTB : ∀ w ∈ TB, w.before #[Value.ref b] s = true := fun w h => hts w (TB_in h)
  have hp : ∀ w ∈ PR, w.before #[Value.ref b] s = true := flat_of_before _ hgv
  have hA : ∀ a : Nat, a < s.heap.size → ¬ AZ s.heap.size a := fun a h q => by have := q.1; omega
  obtain ⟨c0, i0, hK0⟩ := u_known (C := RX0) (T := TX0) (N := 6) (n := 6) (ws := TB) hTB f_X0 (hTB _ t_1_113)
  obtain ⟨c1, i1, hK1⟩ := u_known (C := RX1) (T := TX1) (N := 2) (n := 2) (ws := TB) hTB f_X1 (hTB _ t_2_63)
  obtain ⟨c2, i2, hK2⟩ := u_known (C := RX2) (T := TX2) (N := 9) (n := 9) (ws := TB) hTB f_X2 (hTB _ t_1_203)
  obtain ⟨c3, i3, hK3⟩ := u_known (C := RX3) (T := TX3) (N := 4) (n := 4) (ws := TB) hTB f_X3 (hTB _ t_2_2)
  obtain ⟨c4, i4, hK4⟩ := u_known (C := RX4) (T := TX4) (N := 2) (n := 2) (ws := TB) hTB f_X4 (hTB _ t_2_25)
  obtain ⟨c5, i5, hK5⟩ := u_known (C := RX5) (T := TX5) (N := 1) (n := 1) (ws := TB) hTB f_X5 (hTB _ t_1_36)
  obtain ⟨c6, i6, hK6⟩ := u_known (C := RX6) (T := TX6) (N := 11) (n := 11) (ws := TB) hTB f_X6 (hTB _ t_1_103)
  obtain ⟨c7, i7, hK7⟩ := u_known (C := RX7) (T := TX7) (N := 3) (n := 3) (ws := TB) hTB f_X7 (hTB _ t_2_79)
  obtain ⟨c8, i8, hK8⟩ := u_known (C := RX8) (T := TX8) (N := 12) (n := 12) (ws := TB) hTB f_X8 (hTB _ t_1_30)
  obtain ⟨c9, i9, hK9⟩ := u_known (C := RX9) (T := TX9) (N := 5) (n := 5) (ws := TB) hTB f_X9 (hTB _ t_2_39)
  obtain ⟨c10, i10, hK10⟩ := u_known (C := RX10) (T := TX10) (N := 12) (n := 12) (ws := TB) hTB f_X10 (hTB _ t_1_22)
  obtain ⟨c11, i11, hK11⟩ := u_known (C := RX11) (T := TX11) (N := 29) (n := 29) (ws := TB) hTB f_X11 (hTB _ t_5_43)
  obtain ⟨dC, dI, hKc⟩ : ∃ (dC : Nat → ClassId) (dI : Nat → Nat → Nat), ∀ (k : Nat) (q : vw_C), vwCl[k]? = some q → u_Kn s q.1 q.2.1 q.2.2 (dC k) (dI k) := by
    refine ⟨fun k => if k = 0 then c0 else if k = 1 then c1 else if k = 2 then c2 else if k = 3 then c3 else if k = 4 then c4 else if k = 5 then c5 else if k = 6 then c6 else if k = 7 then c7 else if k = 8 then c8 else if k = 9 then c9 else if k = 10 then c10 else c11, fun k => if k = 0 then i0 else if k = 1 then i1 else if k = 2 then i2 else if k = 3 then i3 else if k = 4 then i4 else if k = 5 then i5 else if k = 6 then i6 else if k = 7 then i7 else if k = 8 then i8 else if k = 9 then i9 else if k = 10 then i10 else i11, ?_⟩
    intro k q hq
    match k, hq with
    | 0, hq => cases hq; exact hK0
    | 1, hq => cases hq; exact hK1
    | 2, hq => cases hq; exact hK2
    | 3, hq => cases hq; exact hK3
    | 4, hq => cases hq; exact hK4
    | 5, hq => cases hq; exact hK5
    | 6, hq => cases hq; exact hK6
    | 7, hq => cases hq; exact hK7
    | 8, hq => cases hq; exact hK8
    | 9, hq => cases hq; exact hK9
    | 10, hq => cases hq; exact hK10
    | 11, hq => cases hq; exact hK11
    | k + 12, hq => simp [vwCl] at hq
  obtain ⟨a0, p0, q0⟩ := ka_prim (hTB _ t_1_55)
  obtain ⟨a1, p1, q1⟩ := ka_prim (hTB _ t_1_54)
  obtain ⟨a2, p2, q2⟩ := ka_prim (hTB _ t_1_99)
  obtain ⟨a3, p3, q3⟩ := ka_prim (hTB _ t_2_37)
  obtain ⟨a4, p4, q4⟩ := ka_obj (hts _ u_1_109)
  obtain ⟨a5, p5, q5⟩ := ka_obj (hts _ u_1_201)
  obtain ⟨a6, p6, q6⟩ := ka_obj (hts _ u_2_62)
  have rowT : ∀ q ∈ zsT, ∃ t : Nat, va_Z "DropsDance" q.1 "[I" (.ref t) (AZ s.heap.size) s s.heap ∧ va_T .int t 9 (fun j => .int (roC q.2 j)) (AZ s.heap.size) s s.heap := by
    intro q hq
    obtain ⟨t, h1, h2⟩ := va_Tof (tm := tmT q.1) (f := fun j => .int (roC q.2 j)) (A := AZ s.heap.size) (N := 9) (by decide) (hp _ (pr_T1 q hq)) (va_eqt (hp _ (pr_T2 q hq))) (fun j hj => va_eqt (hp _ (pr_T3 q hq j hj))) hA
    have hl : (Cond.laysStatic "DropsDance" q.1 "[I").before #[Value.ref b] s = true := by
      simp only [zsT, List.mem_cons, List.not_mem_nil, or_false] at hq
      rcases hq with rfl | rfl | rfl
      · exact hts _ u_3_76
      · exact hts _ u_3_82
      · exact hts _ u_1_46
    exact ⟨t, va_Zof hl (hTB _ t_1_1) h1 hA, h2⟩
  obtain ⟨t0, zt0, tt0⟩ := rowT ("RULE_LEAST", 100) (by decide)
  obtain ⟨t1, zt1, tt1⟩ := rowT ("RULE_MOST", 101) (by decide)
  obtain ⟨t2, zt2, tt2⟩ := rowT ("RULE_FIRST", 102) (by decide)
  obtain ⟨adK, adV, hS, hK⟩ := vk_Sof (N := 11) (tm := tmS) (len := stLen) (byt := stByt) (A := AZ s.heap.size) stLen_lt (fun i hi => hp _ (pr_S1 i hi)) (fun i hi => hp _ (pr_S2 i hi)) (fun i hi => hp _ (pr_S3 i hi)) (fun i hi => hp _ (pr_S4 i hi)) (fun i hi j hj => hp _ (pr_S5 i hi j hj)) (fun i j hi hj hne => by
    rcases pr_S6 i hi j hj with h | h | h
    · exact absurd h hne
    · exact Or.inl (hp _ h)
    · exact Or.inr (hp _ h)) hA
  obtain ⟨fm, hfm, hfc⟩ : ∃ fm : Value, va_Z "jdk/internal/util/Preconditions" "SIOOBE_FORMATTER" "Ljava/util/function/BiFunction;" fm (AZ s.heap.size) s s.heap ∧ ¬ fm.category = 2 := by
    rcases va_Zqof (A := AZ s.heap.size) (hts _ u_2_206) (hTB _ t_1_18) (hp _ pr_F) hA with h | ⟨t, h⟩
    · exact ⟨_, h, fun q => by cases q⟩
    · exact ⟨_, h, fun q => by cases q⟩
  have hcs := va_Zof (A := AZ s.heap.size) (hts _ u_2_190) (hTB _ t_1_16) (va_eqi (hp _ pr_C)) hA
  refine ⟨(fun d => if d.1 < 100 then s.heap.size + alo.idxOf d else if d.1 = 100 then t0 else if d.1 = 101 then t1 else if d.1 = 102 then t2 else if d.1 = 110 then b else if d.1 = 120 then adK d.2.1 else adV d.2.1, (dC, dI), fun k => if k = 0 then a0 else if k = 1 then a1 else if k = 2 then a2 else if k = 3 then a3 else if k = 4 then a4 else if k = 5 then a5 else a6, L, xs, fm), rfl, rfl, rfl, ?_, ?_, ?_, ?_, ?_⟩
  · intro k d hk
    have hl := (List.getElem?_eq_some_iff.mp hk).1
    rw [alo_len] at hl
    have h1 := alo_ix k hl
    rw [List.getD_eq_getElem?_getD, hk, Option.getD_some] at h1
    show (if d.1 < 100 then _ else _) = _
    rw [if_pos (alo_tag d (List.mem_of_getElem? hk)), h1]
  · refine ⟨hKc, fun k q hq => ?_⟩
    match k, hq with
    | 0, hq => cases hq; exact ⟨p0, q0⟩
    | 1, hq => cases hq; exact ⟨p1, q1⟩
    | 2, hq => cases hq; exact ⟨p2, q2⟩
    | 3, hq => cases hq; exact ⟨p3, q3⟩
    | 4, hq => cases hq; exact ⟨p4, q4⟩
    | 5, hq => cases hq; exact ⟨p5, q5⟩
    | 6, hq => cases hq; exact ⟨p6, q6⟩
    | k + 7, hq => simp [tyl] at hq
  · refine ⟨?_, ?_, hcs, ⟨hfm, hfc⟩, hS, ?_, ?_, ?_⟩
    · obtain ⟨scr, g1, g2, g3, g4, g5⟩ := hX
      have hscr : va_T .int b L (fun j => .int (xs j)) (AZ s.heap.size) s s.heap := ⟨scr, g1, g2, g3, by omega, by rw [g4] <;> rfl, g5, hA b hbl⟩
      exact List.forall_mem_cons.mpr ⟨tt0, List.forall_mem_cons.mpr ⟨tt1, List.forall_mem_cons.mpr ⟨tt2, List.forall_mem_cons.mpr ⟨hscr, fun _ h => absurd h List.not_mem_nil⟩⟩⟩⟩
    · exact List.forall_mem_cons.mpr ⟨zt0, List.forall_mem_cons.mpr ⟨zt1, List.forall_mem_cons.mpr ⟨zt2, fun _ h => absurd h List.not_mem_nil⟩⟩⟩
    · intro i hi
      refine vk_R.of (A := #[Value.ref b]) ?_ (by rw [Term.string_eval_of_vm (args := #[Value.ref b]) rfl]; exact hK i hi)
      match i, hi with
      | 0, _ => exact hts _ u_2_176
      | 1, _ => exact hts _ u_2_237
      | 2, _ => exact hts _ u_3_62
      | 3, _ => exact hts _ u_3_63
      | 4, _ => exact hts _ u_3_64
      | 5, _ => exact hts _ u_3_65
      | 6, _ => exact hts _ u_3_66
      | 7, _ => exact hts _ u_3_67
      | 8, _ => exact hts _ u_3_68
      | 9, _ => exact hts _ u_3_69
      | 10, _ => exact hts _ u_3_70
      | i + 11, hi => exact absurd hi (by omega)
    · exact (List.forall_mem_cons.mpr ⟨va_Nw.of rfl (hts _ u_4_75), (List.forall_mem_cons.mpr ⟨va_Nw.of rfl (hts _ u_4_86), (List.forall_mem_cons.mpr ⟨va_Nw.of rfl (hts _ u_4_167), (List.forall_mem_cons.mpr ⟨va_Nw.of rfl (hts _ u_4_184), (List.forall_mem_cons.mpr ⟨va_Nw.of rfl (hts _ u_4_185), (List.forall_mem_cons.mpr ⟨va_Nw.of rfl (hts _ u_3_232), (fun _ h => absurd h List.not_mem_nil)⟩)⟩)⟩)⟩)⟩)⟩)
    · exact (List.forall_mem_cons.mpr ⟨va_Nw.of rfl (hts _ u_1_45), (List.forall_mem_cons.mpr ⟨va_Nw.of rfl (hts _ u_3_75), (List.forall_mem_cons.mpr ⟨va_Nw.of rfl (hts _ u_3_81), (fun _ h => absurd h List.not_mem_nil)⟩)⟩)⟩)
  · exact (List.forall_mem_cons.mpr ⟨va_Nw.of rfl (hts _ u_1_114), (List.forall_mem_cons.mpr ⟨va_Nw.of rfl (hts _ u_1_204), (List.forall_mem_cons.mpr ⟨va_Nw.of rfl (hts _ u_2_3), (List.forall_mem_cons.mpr ⟨va_Nw.of rfl (hts _ u_2_8), (List.forall_mem_cons.mpr ⟨va_Nw.of rfl (hts _ u_2_26), (List.forall_mem_cons.mpr ⟨va_Nw.of rfl (hts _ u_2_40), (List.forall_mem_cons.mpr ⟨va_Nw.of rfl (hts _ u_2_64), (List.forall_mem_cons.mpr ⟨va_Nw.of rfl (hts _ u_2_80), (List.forall_mem_cons.mpr ⟨va_Nw.of rfl (hts _ u_1_31), (fun _ h => absurd h List.not_mem_nil)⟩)⟩)⟩)⟩)⟩)⟩)⟩)⟩)⟩)
  · exact (List.forall_mem_cons.mpr ⟨va_AO.of (hts _ u_1_109), (List.forall_mem_cons.mpr ⟨va_AO.of (hts _ u_1_201), (List.forall_mem_cons.mpr ⟨va_AO.of (hts _ u_2_62), (fun _ h => absurd h List.not_mem_nil)⟩)⟩)⟩)
