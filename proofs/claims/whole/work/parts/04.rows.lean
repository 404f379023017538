def stLen : List Nat := [3, 8, 2, 4, 5, 4, 7, 4, 4, 4, 0]
def stByt : List (List Int32) := [[114, 111, 119], [110, 101, 115, 119, 112, 120, 111, 99], [117, 112], [100, 111, 119, 110], [116, 101, 101, 116, 104], [108, 101, 97, 112], [99, 104, 105, 109, 110, 101, 121], [104, 105, 115, 115], [102, 105, 108, 109], [114, 111, 108, 108], []]
def stIdx : List Nat := [62, 103, 132, 134, 136, 138, 140, 142, 144, 146, 148]
def stTxt : List String := ["row", "neswpxoc", "up", "down", "teeth", "leap", "chimney", "hiss", "film", "roll", ""]
/-- the read-only int rows: RULE_LEAST 100, RULE_MOST 101, RULE_FIRST 102, the script 110 -/
def roN (G : Gx) (t : Nat) : Nat := if t = 110 then G.2.2.2.1 else 9
def roV (G : Gx) (t : Nat) (j : Nat) : Int32 := match t with
  | 100 => [1, 0, 1, 1, 0, 1, 1, 1, 0].getD j 0
  | 101 => [99, 99, 60, 60, 9, 99, 50, 9, 60].getD j 0
  | 102 => [60, 40, 1, 60, 0, 40, 10, 3, 0].getD j 0
  | _ => G.2.2.2.2.1 j
def roT : List Nat := [100, 101, 102, 110]
def zsT : List (String × Nat) := [("RULE_LEAST", 100), ("RULE_MOST", 101), ("RULE_FIRST", 102)]
def nsM : List (String × Nat × MethodName) := [("DropsDance$Loner", 61, yX10_isCell), ("DropsDance$Path", 45, yX10_within), ("DropsDance$Roller", 18, yX10_isCell), ("DropsDance$Roller", 54, yX10_isWay), ("DropsDance$Roller", 57, yX10_nextCell), ("DropsDance$Scene", 154, yX10_nextCell)]
def nsF : List (String × Nat × String) := [("DropsDance$Rules", 18, "RULE_FIRST"), ("DropsDance$TextReader", 113, "RULE_LEAST"), ("DropsDance$TextReader", 119, "RULE_MOST")]
/-- what stands beside the world and is never written -/
def Ex (G : Gx) (A : Nat → Prop) (U : State) (H : Heap) : Prop :=
  (∀ t ∈ roT, va_T .int (G.1 (t, 0, 0)) (roN G t) (fun j => .int (roV G t j)) A U H) ∧
  (∀ q ∈ zsT, va_Z "DropsDance" q.1 "[I" (.ref (G.1 (q.2, 0, 0))) A U H) ∧
  va_Z "java/lang/String" "COMPACT_STRINGS" "Z" (.int 1) A U H ∧
  (va_Z "jdk/internal/util/Preconditions" "SIOOBE_FORMATTER" "Ljava/util/function/BiFunction;" G.2.2.2.2.2 A U H ∧ ¬ G.2.2.2.2.2.category = 2) ∧
  vk_S 11 stLen stByt (fun i => G.1 (120, i, 0)) (fun i => G.1 (121, i, 0)) A U H ∧
  (∀ i, i < 11 → vk_R "DropsDance$TextReader" (stIdx.getD i 0) (stTxt.getD i "") (G.1 (120, i, 0)) U) ∧
  (∀ q ∈ nsM, va_Nw (.methodLinkNest q.1 q.2.1 q.2.2 "DropsDance") U) ∧
  (∀ q ∈ nsF, va_Nw (.fieldLinkNest q.1 q.2.1 "DropsDance" q.2.2 "[I" "DropsDance") U)
theorem Ex.warm {G : Gx} {A : Nat → Prop} {s U : State} {H : Heap} (hW : s.WarmedH U.vm) (h : Ex G A s H) : Ex G A U H :=
  ⟨fun t ht => (h.1 t ht).moved hW.alike, fun q hq => (h.2.1 q hq).moved hW.alike, h.2.2.1.moved hW.alike, ⟨h.2.2.2.1.1.moved hW.alike, h.2.2.2.1.2⟩, h.2.2.2.2.1.moved hW.alike, fun i hi => (h.2.2.2.2.2.1 i hi).warm hW, fun q hq => (h.2.2.2.2.2.2.1 q hq).warmM hW, fun q hq => (h.2.2.2.2.2.2.2 q hq).warmF hW⟩
theorem Ex.same {G : Gx} {A : Nat → Prop} {s U : State} {H : Heap} (hv : U.vm = s.vm) (h : Ex G A s H) : Ex G A U H := by
  have ha : s.vm.Alike U.vm := by rw [hv]; exact Vm.Alike.refl _
  exact ⟨fun t ht => (h.1 t ht).moved ha, fun q hq => (h.2.1 q hq).moved ha, h.2.2.1.moved ha, ⟨h.2.2.2.1.1.moved ha, h.2.2.2.1.2⟩, h.2.2.2.2.1.moved ha, fun i hi => (h.2.2.2.2.2.1 i hi).same hv, fun q hq => va_Nw.same rfl hv.symm (h.2.2.2.2.2.2.1 q hq), fun q hq => va_Nw.same rfl hv.symm (h.2.2.2.2.2.2.2 q hq)⟩
theorem Ex.kept {G : Gx} {A : Nat → Prop} {U : State} {H H1 : Heap} (h : Ex G A U H) (hq : ∀ a : Nat, a < H.size → ¬ A a → H1[a]? = H[a]?) : Ex G A U H1 :=
  ⟨fun t ht => (h.1 t ht).kept hq, fun q hz => (h.2.1 q hz).kept hq, h.2.2.1.kept hq, ⟨h.2.2.2.1.1.kept hq, h.2.2.2.1.2⟩, h.2.2.2.2.1.kept hq, h.2.2.2.2.2.1, h.2.2.2.2.2.2⟩
/-- the world at a state -/
def Wd (G : Gx) (σ : St) (U : State) : Prop := va_P G.2.1 vwCl (wsO G σ) U.heap ∧ va_K G.2.1 vwCl (tyl G) U ∧ (∀ σ : St, va_D (AG G) (wsO G σ)) ∧ Ex G (AG G) U U.heap
def okv : VV → Prop
  | .inr (.inr (.inl d)) => d.1 < 100 → d ∈ ids
  | _ => True
/-- what a body knows of its method and of the start -/
def Cx (G : Gx) (p : Program) (s : State) (m : MethodId) (args : Array Value) (meth : Method) (c : Code) (ret : Option FieldType) (nL : Nat) (own : String) (cc : ByteArray) : Prop :=
  p.tables.exec = Jvm.exec ∧ c.code = cc ∧ c.maxLocals = nL ∧ s.vm.findClass own = some m.cls ∧ (∀ w ∈ TB, w.before args s = true) ∧ va_K G.2.1 vwCl (tyl G) s ∧ (∀ σ : St, va_D (AG G) (wsO G σ)) ∧ Ex G (AG G) s s.heap ∧ meth.locks = false ∧ meth.sig.returnType = ret
/-- from this place on, with these locals, this stack and this store, the machine comes to Q -/
def Rt (G : Gx) (p : Program) (l : Launch) (e : Env) (R : Room) (s : State) (m : MethodId) (args : Array Value) (below : List Frame) (meth : Method) (c : Code) (cells slots : Nat) (Q : State → Prop) (nL : Nat) (pc : Nat) (ls : List (Nat × VV)) (st : List VV) (σ : St) : Prop :=
  (∀ q ∈ ls, okv q.2) → (∀ v ∈ st, okv v) → ∀ (H : Heap) (locs : List Loc) (la : Array Slot), va_P G.2.1 vwCl (wsO G σ) H → va_S (AG G) s.heap H locs → lv_has la nL (ls.map (tp G.1)) → W p l e R s m args below meth c H locs cells slots Q (F0 m pc la (st.map (tv G.1)))
theorem ok_t {v : VV} {st : List VV} (h : ∀ w ∈ v :: st, okv w) : ∀ w ∈ st, okv w := fun w hw => h w (List.mem_cons_of_mem _ hw)
theorem ok_h {v : VV} {st : List VV} (h : ∀ w ∈ v :: st, okv w) : okv v := h v List.mem_cons_self
theorem ok_c {v : VV} {st : List VV} (hv : okv v) (h : ∀ w ∈ st, okv w) : ∀ w ∈ v :: st, okv w := fun w hw => by
  rcases List.mem_cons.mp hw with rfl | hw
  · exact hv
  · exact h w hw
theorem ok_a {a b : List VV} (h : ∀ w ∈ a ++ b, okv w) : (∀ w ∈ a, okv w) ∧ ∀ w ∈ b, okv w := ⟨fun w hw => h w (List.mem_append_left _ hw), fun w hw => h w (List.mem_append_right _ hw)⟩
theorem ok_s {i : Nat} {v : VV} {ls : List (Nat × VV)} (hv : okv v) (h : ∀ q ∈ ls, okv q.2) {f : Nat × VV → Bool} : ∀ q ∈ (i, v) :: ls.filter f, okv q.2 := fun q hq => by
  rcases List.mem_cons.mp hq with rfl | hq
  · exact hv
  · exact h q (List.mem_filter.mp hq).1
theorem lk_at {G : Gx} {la : Array Slot} {nL : Nat} {ls : List (Nat × VV)} (h : lv_has la nL (ls.map (tp G.1))) {k i : Nat} {v : VV} (hk : ls[k]? = some (i, v)) : la[i]? = some (.val (tv G.1 v)) :=
  h.2.2 (i, tv G.1 v) (List.mem_map.mpr ⟨(i, v), List.mem_of_getElem? hk, rfl⟩)
theorem lk_ok {ls : List (Nat × VV)} (h : ∀ q ∈ ls, okv q.2) {k i : Nat} {v : VV} (hk : ls[k]? = some (i, v)) : okv v := h _ (List.mem_of_getElem? hk)
theorem lk_ix {ls : List (Nat × VV)} {k i : Nat} {v : VV} (ad : Id3 → Nat) (hk : ls[k]? = some (i, v)) : (ls.map (tp ad))[k]? = some (i, tv ad v) := by
  rw [List.getElem?_map, hk]
  rfl
/-- the world anew, from what a body knows -/
theorem Wd_of {G : Gx} {p : Program} {s : State} {m : MethodId} {args : Array Value} {meth : Method} {c : Code} {ret : Option FieldType} {nL : Nat} {own : String} {cc : ByteArray} (C : Cx G p s m args meth c ret nL own cc) {σ : St} {H : Heap} {locs : List Loc} (hP : va_P G.2.1 vwCl (wsO G σ) H) (hS : va_S (AG G) s.heap H locs) {U : State} (hU : U.heap = H) (hW : s.WarmedH U.vm) : Wd G σ U := by
  obtain ⟨-, -, -, -, -, hK, hD, hE, -, -⟩ := C
  subst hU
  exact ⟨hP, hK.moved hW.alike, hD, (hE.kept hS.2.1).warm hW⟩
theorem Wd_call {G : Gx} {σ : St} {U : State} {g : JFrame} {mk : MethodId} {a : Array Value} (h : Wd G σ U) : Wd G σ (U.calling g mk a) :=
  ⟨h.1, va_K.moved (u := U) (U := U.calling g mk a) (Vm.Alike.refl U.vm) h.2.1, h.2.2.1, (h.2.2.2.same (U := U.calling g mk a) rfl)⟩
def inb (i : Int32) (n : Nat) : Bool := decide (¬ (i < 0 ∨ n ≤ i.toNatClampNeg))
theorem inb_in {i : Int32} {n : Nat} (h : inb i n = true) : vp_in i n := by
  unfold vp_in
  exact of_decide_eq_true h
theorem nar_z {x : Int32} (h : x = 0 ∨ x = 1) : narrow .boolean (.int x) = .int x := by rcases h with rfl | rfl <;> rfl
theorem fit_z {x : Int32} (h : x = 0 ∨ x = 1) : fits .boolean (.int x) = true := by rcases h with rfl | rfl <;> decide
theorem fit_i {x : Int32} : fits .int (.int x) = true := rfl
/-- a copy within its rows -/
def cpk (sp dp z : Int32) (n n' : Nat) : Bool := decide (¬ sp < 0 ∧ ¬ dp < 0 ∧ ¬ z < 0 ∧ sp.toNatClampNeg + z.toNatClampNeg ≤ n ∧ dp.toNatClampNeg + z.toNatClampNeg ≤ n')
/-- the constants of the class -/
def roC (t : Nat) (j : Nat) : Int32 := match t with
  | 100 => [1, 0, 1, 1, 0, 1, 1, 1, 0].getD j 0
  | 101 => [99, 99, 60, 60, 9, 99, 50, 9, 60].getD j 0
  | _ => [60, 40, 1, 60, 0, 40, 10, 3, 0].getD j 0
section RT
variable {G : Gx} {p : Program} {l : Launch} {e : Env} {R : Room} {s : State} {m : MethodId} {args : Array Value} {below : List Frame} {meth : Method} {c : Code} {cells slots : Nat} {Q : State → Prop} {nL : Nat} {ret : Option FieldType} {own : String} {cc : ByteArray}
variable {pc : Nat} {ls : List (Nat × VV)} {st : List VV} {σ : St}
theorem r_iadd (C : Cx G p s m args meth c ret nL own cc) {x y : Int32} (hd : decode cc pc = .ok (.iadd, 1))  (k : Rt G p l e R s m args below meth c cells slots Q nL (pc + 1) ls (vI (x + y) :: st) σ) : Rt G p l e R s m args below meth c cells slots Q nL pc ls (vI y :: vI x :: st) σ := by
  intro hl hs H locs la hP hS hL
  exact lv_iadd C.1 C.2.1 hd  (k hl (ok_c (v := vI _) trivial (ok_t (ok_t hs))) H locs la hP hS hL)
theorem r_isub (C : Cx G p s m args meth c ret nL own cc) {x y : Int32} (hd : decode cc pc = .ok (.isub, 1))  (k : Rt G p l e R s m args below meth c cells slots Q nL (pc + 1) ls (vI (x - y) :: st) σ) : Rt G p l e R s m args below meth c cells slots Q nL pc ls (vI y :: vI x :: st) σ := by
  intro hl hs H locs la hP hS hL
  exact lv_isub C.1 C.2.1 hd  (k hl (ok_c (v := vI _) trivial (ok_t (ok_t hs))) H locs la hP hS hL)
theorem r_imul (C : Cx G p s m args meth c ret nL own cc) {x y : Int32} (hd : decode cc pc = .ok (.imul, 1))  (k : Rt G p l e R s m args below meth c cells slots Q nL (pc + 1) ls (vI (x * y) :: st) σ) : Rt G p l e R s m args below meth c cells slots Q nL pc ls (vI y :: vI x :: st) σ := by
  intro hl hs H locs la hP hS hL
  exact lv_imul C.1 C.2.1 hd  (k hl (ok_c (v := vI _) trivial (ok_t (ok_t hs))) H locs la hP hS hL)
theorem r_iand (C : Cx G p s m args meth c ret nL own cc) {x y : Int32} (hd : decode cc pc = .ok (.iand, 1))  (k : Rt G p l e R s m args below meth c cells slots Q nL (pc + 1) ls (vI (x &&& y) :: st) σ) : Rt G p l e R s m args below meth c cells slots Q nL pc ls (vI y :: vI x :: st) σ := by
  intro hl hs H locs la hP hS hL
  exact lv_iand C.1 C.2.1 hd  (k hl (ok_c (v := vI _) trivial (ok_t (ok_t hs))) H locs la hP hS hL)
theorem r_ior (C : Cx G p s m args meth c ret nL own cc) {x y : Int32} (hd : decode cc pc = .ok (.ior, 1))  (k : Rt G p l e R s m args below meth c cells slots Q nL (pc + 1) ls (vI (x ||| y) :: st) σ) : Rt G p l e R s m args below meth c cells slots Q nL pc ls (vI y :: vI x :: st) σ := by
  intro hl hs H locs la hP hS hL
  exact lv_ior C.1 C.2.1 hd  (k hl (ok_c (v := vI _) trivial (ok_t (ok_t hs))) H locs la hP hS hL)
theorem r_ishl (C : Cx G p s m args meth c ret nL own cc) {x y : Int32} (hd : decode cc pc = .ok (.ishl, 1))  (k : Rt G p l e R s m args below meth c cells slots Q nL (pc + 1) ls (vI (x <<< (y &&& 31)) :: st) σ) : Rt G p l e R s m args below meth c cells slots Q nL pc ls (vI y :: vI x :: st) σ := by
  intro hl hs H locs la hP hS hL
  exact lv_ishl C.1 C.2.1 hd  (k hl (ok_c (v := vI _) trivial (ok_t (ok_t hs))) H locs la hP hS hL)
theorem r_ishr (C : Cx G p s m args meth c ret nL own cc) {x y : Int32} (hd : decode cc pc = .ok (.ishr, 1))  (k : Rt G p l e R s m args below meth c cells slots Q nL (pc + 1) ls (vI (x >>> (y &&& 31)) :: st) σ) : Rt G p l e R s m args below meth c cells slots Q nL pc ls (vI y :: vI x :: st) σ := by
  intro hl hs H locs la hP hS hL
  exact lv_ishr C.1 C.2.1 hd  (k hl (ok_c (v := vI _) trivial (ok_t (ok_t hs))) H locs la hP hS hL)
theorem r_iushr (C : Cx G p s m args meth c ret nL own cc) {x y : Int32} (hd : decode cc pc = .ok (.iushr, 1))  (k : Rt G p l e R s m args below meth c cells slots Q nL (pc + 1) ls (vI ((x.toUInt32 >>> (y.toUInt32 &&& Int32.toUInt32 31)).toInt32) :: st) σ) : Rt G p l e R s m args below meth c cells slots Q nL pc ls (vI y :: vI x :: st) σ := by
  intro hl hs H locs la hP hS hL
  exact lv_iushr C.1 C.2.1 hd rfl (k hl (ok_c (v := vI _) trivial (ok_t (ok_t hs))) H locs la hP hS hL)
theorem r_idiv (C : Cx G p s m args meth c ret nL own cc) {x y : Int32} (hd : decode cc pc = .ok (.idiv, 1)) (hz : ¬ y = 0) (k : Rt G p l e R s m args below meth c cells slots Q nL (pc + 1) ls (vI (x / y) :: st) σ) : Rt G p l e R s m args below meth c cells slots Q nL pc ls (vI y :: vI x :: st) σ := by
  intro hl hs H locs la hP hS hL
  exact lv_idiv C.1 C.2.1 hd hz (k hl (ok_c (v := vI _) trivial (ok_t (ok_t hs))) H locs la hP hS hL)
theorem r_irem (C : Cx G p s m args meth c ret nL own cc) {x y : Int32} (hd : decode cc pc = .ok (.irem, 1)) (hz : ¬ y = 0) (k : Rt G p l e R s m args below meth c cells slots Q nL (pc + 1) ls (vI (x - x / y * y) :: st) σ) : Rt G p l e R s m args below meth c cells slots Q nL pc ls (vI y :: vI x :: st) σ := by
  intro hl hs H locs la hP hS hL
  exact lv_irem C.1 C.2.1 hd hz (k hl (ok_c (v := vI _) trivial (ok_t (ok_t hs))) H locs la hP hS hL)
theorem r_ladd (C : Cx G p s m args meth c ret nL own cc) {x y : Int64} (hd : decode cc pc = .ok (.ladd, 1))  (k : Rt G p l e R s m args below meth c cells slots Q nL (pc + 1) ls (vL (x + y) :: st) σ) : Rt G p l e R s m args below meth c cells slots Q nL pc ls (vL y :: vL x :: st) σ := by
  intro hl hs H locs la hP hS hL
  exact lv_ladd C.1 C.2.1 hd  (k hl (ok_c (v := vL _) trivial (ok_t (ok_t hs))) H locs la hP hS hL)
theorem r_lsub (C : Cx G p s m args meth c ret nL own cc) {x y : Int64} (hd : decode cc pc = .ok (.lsub, 1))  (k : Rt G p l e R s m args below meth c cells slots Q nL (pc + 1) ls (vL (x - y) :: st) σ) : Rt G p l e R s m args below meth c cells slots Q nL pc ls (vL y :: vL x :: st) σ := by
  intro hl hs H locs la hP hS hL
  exact lv_lsub C.1 C.2.1 hd  (k hl (ok_c (v := vL _) trivial (ok_t (ok_t hs))) H locs la hP hS hL)
theorem r_lmul (C : Cx G p s m args meth c ret nL own cc) {x y : Int64} (hd : decode cc pc = .ok (.lmul, 1))  (k : Rt G p l e R s m args below meth c cells slots Q nL (pc + 1) ls (vL (x * y) :: st) σ) : Rt G p l e R s m args below meth c cells slots Q nL pc ls (vL y :: vL x :: st) σ := by
  intro hl hs H locs la hP hS hL
  exact lv_lmul C.1 C.2.1 hd  (k hl (ok_c (v := vL _) trivial (ok_t (ok_t hs))) H locs la hP hS hL)
theorem r_land (C : Cx G p s m args meth c ret nL own cc) {x y : Int64} (hd : decode cc pc = .ok (.land, 1))  (k : Rt G p l e R s m args below meth c cells slots Q nL (pc + 1) ls (vL (x &&& y) :: st) σ) : Rt G p l e R s m args below meth c cells slots Q nL pc ls (vL y :: vL x :: st) σ := by
  intro hl hs H locs la hP hS hL
  exact lv_land C.1 C.2.1 hd  (k hl (ok_c (v := vL _) trivial (ok_t (ok_t hs))) H locs la hP hS hL)
theorem r_lor (C : Cx G p s m args meth c ret nL own cc) {x y : Int64} (hd : decode cc pc = .ok (.lor, 1))  (k : Rt G p l e R s m args below meth c cells slots Q nL (pc + 1) ls (vL (x ||| y) :: st) σ) : Rt G p l e R s m args below meth c cells slots Q nL pc ls (vL y :: vL x :: st) σ := by
  intro hl hs H locs la hP hS hL
  exact lv_lor C.1 C.2.1 hd  (k hl (ok_c (v := vL _) trivial (ok_t (ok_t hs))) H locs la hP hS hL)
theorem r_ldiv (C : Cx G p s m args meth c ret nL own cc) {x y : Int64} (hd : decode cc pc = .ok (.ldiv, 1)) (hz : ¬ y = 0) (k : Rt G p l e R s m args below meth c cells slots Q nL (pc + 1) ls (vL (x / y) :: st) σ) : Rt G p l e R s m args below meth c cells slots Q nL pc ls (vL y :: vL x :: st) σ := by
  intro hl hs H locs la hP hS hL
  exact lv_ldiv C.1 C.2.1 hd hz (k hl (ok_c (v := vL _) trivial (ok_t (ok_t hs))) H locs la hP hS hL)
theorem r_lrem (C : Cx G p s m args meth c ret nL own cc) {x y : Int64} (hd : decode cc pc = .ok (.lrem, 1)) (hz : ¬ y = 0) (k : Rt G p l e R s m args below meth c cells slots Q nL (pc + 1) ls (vL (x - x / y * y) :: st) σ) : Rt G p l e R s m args below meth c cells slots Q nL pc ls (vL y :: vL x :: st) σ := by
  intro hl hs H locs la hP hS hL
  exact lv_lrem C.1 C.2.1 hd hz (k hl (ok_c (v := vL _) trivial (ok_t (ok_t hs))) H locs la hP hS hL)
theorem r_lshl (C : Cx G p s m args meth c ret nL own cc) {x : Int64} {y : Int32} (hd : decode cc pc = .ok (.lshl, 1))  (k : Rt G p l e R s m args below meth c cells slots Q nL (pc + 1) ls (vL (x <<< (y.toInt64 &&& 63)) :: st) σ) : Rt G p l e R s m args below meth c cells slots Q nL pc ls (vI y :: vL x :: st) σ := by
  intro hl hs H locs la hP hS hL
  exact lv_lshl C.1 C.2.1 hd rfl (k hl (ok_c (v := vL _) trivial (ok_t (ok_t hs))) H locs la hP hS hL)
theorem r_lshr (C : Cx G p s m args meth c ret nL own cc) {x : Int64} {y : Int32} (hd : decode cc pc = .ok (.lshr, 1))  (k : Rt G p l e R s m args below meth c cells slots Q nL (pc + 1) ls (vL (x >>> (y.toInt64 &&& 63)) :: st) σ) : Rt G p l e R s m args below meth c cells slots Q nL pc ls (vI y :: vL x :: st) σ := by
  intro hl hs H locs la hP hS hL
  exact lv_lshr C.1 C.2.1 hd rfl (k hl (ok_c (v := vL _) trivial (ok_t (ok_t hs))) H locs la hP hS hL)
theorem r_lushr (C : Cx G p s m args meth c ret nL own cc) {x : Int64} {y : Int32} (hd : decode cc pc = .ok (.lushr, 1))  (k : Rt G p l e R s m args below meth c cells slots Q nL (pc + 1) ls (vL ((x.toUInt64 >>> (y.toInt64.toUInt64 &&& Int64.toUInt64 63)).toInt64) :: st) σ) : Rt G p l e R s m args below meth c cells slots Q nL pc ls (vI y :: vL x :: st) σ := by
  intro hl hs H locs la hP hS hL
  exact lv_lushr C.1 C.2.1 hd rfl (k hl (ok_c (v := vL _) trivial (ok_t (ok_t hs))) H locs la hP hS hL)
theorem r_lcmp (C : Cx G p s m args meth c ret nL own cc) {x y : Int64} (hd : decode cc pc = .ok (.lcmp, 1))  (k : Rt G p l e R s m args below meth c cells slots Q nL (pc + 1) ls (vI (lg_cmp x y) :: st) σ) : Rt G p l e R s m args below meth c cells slots Q nL pc ls (vL y :: vL x :: st) σ := by
  intro hl hs H locs la hP hS hL
  exact W.lcmp C.1 C.2.1 hd  (k hl (ok_c (v := vI _) trivial (ok_t (ok_t hs))) H locs la hP hS hL)
theorem r_i2b (C : Cx G p s m args meth c ret nL own cc) {x : Int32} (hd : decode cc pc = .ok (.i2b, 1))  (k : Rt G p l e R s m args below meth c cells slots Q nL (pc + 1) ls (vI (x.toInt8.toInt32) :: st) σ) : Rt G p l e R s m args below meth c cells slots Q nL pc ls (vI x :: st) σ := by
  intro hl hs H locs la hP hS hL
  exact lv_i2b C.1 C.2.1 hd rfl (k hl (ok_c (v := vI _) trivial (ok_t hs)) H locs la hP hS hL)
theorem r_i2s (C : Cx G p s m args meth c ret nL own cc) {x : Int32} (hd : decode cc pc = .ok (.i2s, 1))  (k : Rt G p l e R s m args below meth c cells slots Q nL (pc + 1) ls (vI (x.toInt16.toInt32) :: st) σ) : Rt G p l e R s m args below meth c cells slots Q nL pc ls (vI x :: st) σ := by
  intro hl hs H locs la hP hS hL
  exact lv_i2s C.1 C.2.1 hd rfl (k hl (ok_c (v := vI _) trivial (ok_t hs)) H locs la hP hS hL)
theorem r_i2c (C : Cx G p s m args meth c ret nL own cc) {x : Int32} (hd : decode cc pc = .ok (.i2c, 1))  (k : Rt G p l e R s m args below meth c cells slots Q nL (pc + 1) ls (vI ((x.toUInt32 % 65536).toInt32) :: st) σ) : Rt G p l e R s m args below meth c cells slots Q nL pc ls (vI x :: st) σ := by
  intro hl hs H locs la hP hS hL
  exact lv_i2c C.1 C.2.1 hd rfl (k hl (ok_c (v := vI _) trivial (ok_t hs)) H locs la hP hS hL)
theorem r_i2l (C : Cx G p s m args meth c ret nL own cc) {x : Int32} (hd : decode cc pc = .ok (.i2l, 1))  (k : Rt G p l e R s m args below meth c cells slots Q nL (pc + 1) ls (vL (x.toInt64) :: st) σ) : Rt G p l e R s m args below meth c cells slots Q nL pc ls (vI x :: st) σ := by
  intro hl hs H locs la hP hS hL
  exact lv_i2l C.1 C.2.1 hd rfl (k hl (ok_c (v := vL _) trivial (ok_t hs)) H locs la hP hS hL)
theorem r_l2i (C : Cx G p s m args meth c ret nL own cc) {x : Int64} (hd : decode cc pc = .ok (.l2i, 1))  (k : Rt G p l e R s m args below meth c cells slots Q nL (pc + 1) ls (vI (x.toInt32) :: st) σ) : Rt G p l e R s m args below meth c cells slots Q nL pc ls (vL x :: st) σ := by
  intro hl hs H locs la hP hS hL
  exact lv_l2i C.1 C.2.1 hd rfl (k hl (ok_c (v := vI _) trivial (ok_t hs)) H locs la hP hS hL)
theorem r_iconst (C : Cx G p s m args meth c ret nL own cc) {n : Int} {v : Int32} (hd : decode cc pc = .ok (.iconst n, 1)) (hv : Int32.ofInt n = v) (k : Rt G p l e R s m args below meth c cells slots Q nL (pc + 1) ls (vI v :: st) σ) : Rt G p l e R s m args below meth c cells slots Q nL pc ls st σ := by
  intro hl hs H locs la hP hS hL
  exact lv_iconst C.1 C.2.1 hd hv (k hl (ok_c (v := vI _) trivial hs) H locs la hP hS hL)
theorem r_bipush (C : Cx G p s m args meth c ret nL own cc) {n : Int} {v : Int32} (hd : decode cc pc = .ok (.bipush n, 2)) (hv : (Int8.ofInt n).toInt32 = v) (k : Rt G p l e R s m args below meth c cells slots Q nL (pc + 2) ls (vI v :: st) σ) : Rt G p l e R s m args below meth c cells slots Q nL pc ls st σ := by
  intro hl hs H locs la hP hS hL
  exact lv_bipush C.1 C.2.1 hd hv (k hl (ok_c (v := vI _) trivial hs) H locs la hP hS hL)
theorem r_sipush (C : Cx G p s m args meth c ret nL own cc) {n : Int} {v : Int32} (hd : decode cc pc = .ok (.sipush n, 3)) (hv : (Int16.ofInt n).toInt32 = v) (k : Rt G p l e R s m args below meth c cells slots Q nL (pc + 3) ls (vI v :: st) σ) : Rt G p l e R s m args below meth c cells slots Q nL pc ls st σ := by
  intro hl hs H locs la hP hS hL
  exact lv_sipush C.1 C.2.1 hd hv (k hl (ok_c (v := vI _) trivial hs) H locs la hP hS hL)
theorem r_lconst (C : Cx G p s m args meth c ret nL own cc) {n : Fin 2} {v : Int64} (hd : decode cc pc = .ok (.lconst n, 1)) (hv : Int64.ofNat (n : Nat) = v) (k : Rt G p l e R s m args below meth c cells slots Q nL (pc + 1) ls (vL v :: st) σ) : Rt G p l e R s m args below meth c cells slots Q nL pc ls st σ := by
  intro hl hs H locs la hP hS hL
  exact lv_lconst C.1 C.2.1 hd hv (k hl (ok_c (v := vL _) trivial hs) H locs la hP hS hL)
theorem r_ldc (C : Cx G p s m args meth c ret nL own cc) {index : Nat} {v : Int32} (hd : decode cc pc = .ok (.ldc index, 2)) (hw : Cond.constant own index v ∈ TB) (k : Rt G p l e R s m args below meth c cells slots Q nL (pc + 2) ls (vI v :: st) σ) : Rt G p l e R s m args below meth c cells slots Q nL pc ls st σ := by
  intro hl hs H locs la hP hS hL
  exact lv_ldc C.1 C.2.1 C.2.2.2.1 (C.2.2.2.2.1 _ hw) hd (k hl (ok_c (v := vI _) trivial hs) H locs la hP hS hL)
theorem r_ldc_w (C : Cx G p s m args meth c ret nL own cc) {index : Nat} {v : Int32} (hd : decode cc pc = .ok (.ldc_w index, 3)) (hw : Cond.constant own index v ∈ TB) (k : Rt G p l e R s m args below meth c cells slots Q nL (pc + 3) ls (vI v :: st) σ) : Rt G p l e R s m args below meth c cells slots Q nL pc ls st σ := by
  intro hl hs H locs la hP hS hL
  exact lv_ldcw C.1 C.2.1 C.2.2.2.1 (C.2.2.2.2.1 _ hw) hd (k hl (ok_c (v := vI _) trivial hs) H locs la hP hS hL)
theorem r_ldc2_w (C : Cx G p s m args meth c ret nL own cc) {index : Nat} {v : Int64} (hd : decode cc pc = .ok (.ldc2_w index, 3)) (hw : Cond.constantLong own index v ∈ TB) (k : Rt G p l e R s m args below meth c cells slots Q nL (pc + 3) ls (vL v :: st) σ) : Rt G p l e R s m args below meth c cells slots Q nL pc ls st σ := by
  intro hl hs H locs la hP hS hL
  exact lv_ldc2 C.1 C.2.1 C.2.2.2.1 (C.2.2.2.2.1 _ hw) hd (k hl (ok_c (v := vL _) trivial hs) H locs la hP hS hL)
theorem r_iload (C : Cx G p s m args meth c ret nL own cc) {i : Nat} {x : Int32} (kk : Nat) (hd : decode cc pc = .ok (.iload i, 2)) (hk : ls[kk]? = some (i, vI x)) (k : Rt G p l e R s m args below meth c cells slots Q nL (pc + 2) ls (vI x :: st) σ) : Rt G p l e R s m args below meth c cells slots Q nL pc ls st σ := by
  intro hl hs H locs la hP hS hL
  exact lv_iload C.1 C.2.1 hd (lk_at hL hk) (k hl (ok_c (v := vI _) trivial hs) H locs la hP hS hL)
theorem r_iload_n (C : Cx G p s m args meth c ret nL own cc) {n : Fin 4} {x : Int32} (kk i : Nat) (hd : decode cc pc = .ok (.iload_n n, 1)) (hi : (n : Nat) = i) (hk : ls[kk]? = some (i, vI x)) (k : Rt G p l e R s m args below meth c cells slots Q nL (pc + 1) ls (vI x :: st) σ) : Rt G p l e R s m args below meth c cells slots Q nL pc ls st σ := by
  intro hl hs H locs la hP hS hL
  exact lv_iload_n C.1 C.2.1 hd hi (lk_at hL hk) (k hl (ok_c (v := vI _) trivial hs) H locs la hP hS hL)
theorem r_lload (C : Cx G p s m args meth c ret nL own cc) {i : Nat} {x : Int64} (kk : Nat) (hd : decode cc pc = .ok (.lload i, 2)) (hk : ls[kk]? = some (i, vL x)) (k : Rt G p l e R s m args below meth c cells slots Q nL (pc + 2) ls (vL x :: st) σ) : Rt G p l e R s m args below meth c cells slots Q nL pc ls st σ := by
  intro hl hs H locs la hP hS hL
  exact lv_lload C.1 C.2.1 hd (lk_at hL hk) (k hl (ok_c (v := vL _) trivial hs) H locs la hP hS hL)
theorem r_lload_n (C : Cx G p s m args meth c ret nL own cc) {n : Fin 4} {x : Int64} (kk i : Nat) (hd : decode cc pc = .ok (.lload_n n, 1)) (hi : (n : Nat) = i) (hk : ls[kk]? = some (i, vL x)) (k : Rt G p l e R s m args below meth c cells slots Q nL (pc + 1) ls (vL x :: st) σ) : Rt G p l e R s m args below meth c cells slots Q nL pc ls st σ := by
  intro hl hs H locs la hP hS hL
  exact lv_lload_n C.1 C.2.1 hd hi (lk_at hL hk) (k hl (ok_c (v := vL _) trivial hs) H locs la hP hS hL)
theorem r_aload (C : Cx G p s m args meth c ret nL own cc) {i : Nat} {x : Id3} (kk : Nat) (hd : decode cc pc = .ok (.aload i, 2)) (hk : ls[kk]? = some (i, vR x)) (k : Rt G p l e R s m args below meth c cells slots Q nL (pc + 2) ls (vR x :: st) σ) : Rt G p l e R s m args below meth c cells slots Q nL pc ls st σ := by
  intro hl hs H locs la hP hS hL
  exact lv_aload C.1 C.2.1 hd (lk_at hL hk) (k hl (ok_c (lk_ok hl hk) hs) H locs la hP hS hL)
theorem r_aload_n (C : Cx G p s m args meth c ret nL own cc) {n : Fin 4} {x : Id3} (kk i : Nat) (hd : decode cc pc = .ok (.aload_n n, 1)) (hi : (n : Nat) = i) (hk : ls[kk]? = some (i, vR x)) (k : Rt G p l e R s m args below meth c cells slots Q nL (pc + 1) ls (vR x :: st) σ) : Rt G p l e R s m args below meth c cells slots Q nL pc ls st σ := by
  intro hl hs H locs la hP hS hL
  exact lv_aload_n C.1 C.2.1 hd hi (lk_at hL hk) (k hl (ok_c (lk_ok hl hk) hs) H locs la hP hS hL)
theorem r_istore (C : Cx G p s m args meth c ret nL own cc)  {i : Nat} {x : Int32} {ls2 : List (Nat × VV)} (hd : decode cc pc = .ok (.istore i, 2))  (hn : i < nL) (h2 : ds1 i (vI x) ls = ls2) (k : Rt G p l e R s m args below meth c cells slots Q nL (pc + 2) ls2 st σ) : Rt G p l e R s m args below meth c cells slots Q nL pc ls (vI x :: st) σ := by
  intro hl hs H locs la hP hS hL
  subst h2
  exact lv_istore C.1 C.2.1 hd  hL hn (ds1_map G.1 i (vI x) ls) (fun la2 hL2 => k (ok_s (ok_h hs) hl) (ok_t hs) H locs la2 hP hS hL2)
theorem r_istore_n (C : Cx G p s m args meth c ret nL own cc) {n : Fin 4}  {x : Int32} {ls2 : List (Nat × VV)} (hd : decode cc pc = .ok (.istore_n n, 1)) (i : Nat) (hi : (n : Nat) = i) (hn : i < nL) (h2 : ds1 i (vI x) ls = ls2) (k : Rt G p l e R s m args below meth c cells slots Q nL (pc + 1) ls2 st σ) : Rt G p l e R s m args below meth c cells slots Q nL pc ls (vI x :: st) σ := by
  intro hl hs H locs la hP hS hL
  subst h2
  exact lv_istore_n C.1 C.2.1 hd hi hL hn (ds1_map G.1 i (vI x) ls) (fun la2 hL2 => k (ok_s (ok_h hs) hl) (ok_t hs) H locs la2 hP hS hL2)
theorem r_lstore (C : Cx G p s m args meth c ret nL own cc)  {i : Nat} {x : Int64} {ls2 : List (Nat × VV)} (hd : decode cc pc = .ok (.lstore i, 2))  (hn : i + 1 < nL) (h2 : ds2 i (vL x) ls = ls2) (k : Rt G p l e R s m args below meth c cells slots Q nL (pc + 2) ls2 st σ) : Rt G p l e R s m args below meth c cells slots Q nL pc ls (vL x :: st) σ := by
  intro hl hs H locs la hP hS hL
  subst h2
  exact lv_lstore C.1 C.2.1 hd  hL hn (ds2_map G.1 i (vL x) ls) (fun la2 hL2 => k (ok_s (ok_h hs) hl) (ok_t hs) H locs la2 hP hS hL2)
theorem r_lstore_n (C : Cx G p s m args meth c ret nL own cc) {n : Fin 4}  {x : Int64} {ls2 : List (Nat × VV)} (hd : decode cc pc = .ok (.lstore_n n, 1)) (i : Nat) (hi : (n : Nat) = i) (hn : i + 1 < nL) (h2 : ds2 i (vL x) ls = ls2) (k : Rt G p l e R s m args below meth c cells slots Q nL (pc + 1) ls2 st σ) : Rt G p l e R s m args below meth c cells slots Q nL pc ls (vL x :: st) σ := by
  intro hl hs H locs la hP hS hL
  subst h2
  exact lv_lstore_n C.1 C.2.1 hd hi hL hn (ds2_map G.1 i (vL x) ls) (fun la2 hL2 => k (ok_s (ok_h hs) hl) (ok_t hs) H locs la2 hP hS hL2)
theorem r_astore (C : Cx G p s m args meth c ret nL own cc)  {i : Nat} {x : Id3} {ls2 : List (Nat × VV)} (hd : decode cc pc = .ok (.astore i, 2))  (hn : i < nL) (h2 : ds1 i (vR x) ls = ls2) (k : Rt G p l e R s m args below meth c cells slots Q nL (pc + 2) ls2 st σ) : Rt G p l e R s m args below meth c cells slots Q nL pc ls (vR x :: st) σ := by
  intro hl hs H locs la hP hS hL
  subst h2
  exact lv_astore C.1 C.2.1 hd  hL hn (ds1_map G.1 i (vR x) ls) (fun la2 hL2 => k (ok_s (ok_h hs) hl) (ok_t hs) H locs la2 hP hS hL2)
theorem r_astore_n (C : Cx G p s m args meth c ret nL own cc) {n : Fin 4}  {x : Id3} {ls2 : List (Nat × VV)} (hd : decode cc pc = .ok (.astore_n n, 1)) (i : Nat) (hi : (n : Nat) = i) (hn : i < nL) (h2 : ds1 i (vR x) ls = ls2) (k : Rt G p l e R s m args below meth c cells slots Q nL (pc + 1) ls2 st σ) : Rt G p l e R s m args below meth c cells slots Q nL pc ls (vR x :: st) σ := by
  intro hl hs H locs la hP hS hL
  subst h2
  exact lv_astore_n C.1 C.2.1 hd hi hL hn (ds1_map G.1 i (vR x) ls) (fun la2 hL2 => k (ok_s (ok_h hs) hl) (ok_t hs) H locs la2 hP hS hL2)
theorem r_iinc (C : Cx G p s m args meth c ret nL own cc) {i : Nat} {n : Int} {x v : Int32} {ls2 : List (Nat × VV)} (kk : Nat) (hd : decode cc pc = .ok (.iinc i n, 3)) (hk : ls[kk]? = some (i, vI x)) (hv : x + Int32.ofInt n = v) (hn : i < nL) (h2 : ds1 i (vI v) ls = ls2) (k : Rt G p l e R s m args below meth c cells slots Q nL (pc + 3) ls2 st σ) : Rt G p l e R s m args below meth c cells slots Q nL pc ls st σ := by
  intro hl hs H locs la hP hS hL
  subst h2
  exact lv_iinc (k := kk) C.1 C.2.1 hd hL (lk_ix G.1 hk) hv hn (ds1_map G.1 i (vI v) ls) (fun la2 hL2 => k (ok_s (v := vI v) trivial hl) hs H locs la2 hP hS hL2)
theorem r_dup_i (C : Cx G p s m args meth c ret nL own cc) {x : Int32} (hd : decode cc pc = .ok (.dup, 1))  (k : Rt G p l e R s m args below meth c cells slots Q nL (pc + 1) ls (vI x :: vI x :: st) σ) : Rt G p l e R s m args below meth c cells slots Q nL pc ls (vI x :: st) σ := by
  intro hl hs H locs la hP hS hL
  exact lv_dup C.1 C.2.1 hd rfl (k hl (ok_c (v := vI _) trivial hs) H locs la hP hS hL)
theorem r_dup_r (C : Cx G p s m args meth c ret nL own cc) {x : Id3} (hd : decode cc pc = .ok (.dup, 1))  (k : Rt G p l e R s m args below meth c cells slots Q nL (pc + 1) ls (vR x :: vR x :: st) σ) : Rt G p l e R s m args below meth c cells slots Q nL pc ls (vR x :: st) σ := by
  intro hl hs H locs la hP hS hL
  exact lv_dup C.1 C.2.1 hd rfl (k hl (ok_c (ok_h hs) hs) H locs la hP hS hL)
theorem r_pop_i (C : Cx G p s m args meth c ret nL own cc) {x : Int32} (hd : decode cc pc = .ok (.pop, 1))  (k : Rt G p l e R s m args below meth c cells slots Q nL (pc + 1) ls st σ) : Rt G p l e R s m args below meth c cells slots Q nL pc ls (vI x :: st) σ := by
  intro hl hs H locs la hP hS hL
  exact lv_pop C.1 C.2.1 hd rfl (k hl (ok_t hs) H locs la hP hS hL)
theorem r_dup2_ri (C : Cx G p s m args meth c ret nL own cc) {x : Int32} {d : Id3} (hd : decode cc pc = .ok (.dup2, 1))  (k : Rt G p l e R s m args below meth c cells slots Q nL (pc + 1) ls (vI x :: vR d :: vI x :: vR d :: st) σ) : Rt G p l e R s m args below meth c cells slots Q nL pc ls (vI x :: vR d :: st) σ := by
  intro hl hs H locs la hP hS hL
  exact lv_dup2_11 C.1 C.2.1 hd rfl rfl (k hl (ok_c (ok_h hs) (ok_c (ok_h (ok_t hs)) hs)) H locs la hP hS hL)
theorem r_if_eq (C : Cx G p s m args meth c ret nL own cc) {x : Int32} {off : Int} (tgt : Nat) (hd : decode cc pc = .ok (.ifCond .eq off, 3)) (ht : (pc : Int) + off = (tgt : Int)) (kt : x = 0 → Rt G p l e R s m args below meth c cells slots Q nL tgt ls st σ) (kf : ¬ x = 0 → Rt G p l e R s m args below meth c cells slots Q nL (pc + 3) ls st σ) : Rt G p l e R s m args below meth c cells slots Q nL pc ls (vI x :: st) σ := by
  intro hl hs H locs la hP hS hL
  exact lv_if_eq C.1 C.2.1 hd ht (fun h => kt h hl (ok_t hs) H locs la hP hS hL) (fun h => kf h hl (ok_t hs) H locs la hP hS hL)
theorem r_icmp_eq (C : Cx G p s m args meth c ret nL own cc) {x y : Int32} {off : Int} (tgt : Nat) (hd : decode cc pc = .ok (.if_icmp .eq off, 3)) (ht : (pc : Int) + off = (tgt : Int)) (kt : x = y → Rt G p l e R s m args below meth c cells slots Q nL tgt ls st σ) (kf : ¬ x = y → Rt G p l e R s m args below meth c cells slots Q nL (pc + 3) ls st σ) : Rt G p l e R s m args below meth c cells slots Q nL pc ls (vI y :: vI x :: st) σ := by
  intro hl hs H locs la hP hS hL
  exact lv_icmp_eq C.1 C.2.1 hd ht (fun h => kt h hl (ok_t (ok_t hs)) H locs la hP hS hL) (fun h => kf h hl (ok_t (ok_t hs)) H locs la hP hS hL)
theorem r_if_ne (C : Cx G p s m args meth c ret nL own cc) {x : Int32} {off : Int} (tgt : Nat) (hd : decode cc pc = .ok (.ifCond .ne off, 3)) (ht : (pc : Int) + off = (tgt : Int)) (kt : ¬ x = 0 → Rt G p l e R s m args below meth c cells slots Q nL tgt ls st σ) (kf : x = 0 → Rt G p l e R s m args below meth c cells slots Q nL (pc + 3) ls st σ) : Rt G p l e R s m args below meth c cells slots Q nL pc ls (vI x :: st) σ := by
  intro hl hs H locs la hP hS hL
  exact lv_if_ne C.1 C.2.1 hd ht (fun h => kt h hl (ok_t hs) H locs la hP hS hL) (fun h => kf h hl (ok_t hs) H locs la hP hS hL)
theorem r_icmp_ne (C : Cx G p s m args meth c ret nL own cc) {x y : Int32} {off : Int} (tgt : Nat) (hd : decode cc pc = .ok (.if_icmp .ne off, 3)) (ht : (pc : Int) + off = (tgt : Int)) (kt : ¬ x = y → Rt G p l e R s m args below meth c cells slots Q nL tgt ls st σ) (kf : x = y → Rt G p l e R s m args below meth c cells slots Q nL (pc + 3) ls st σ) : Rt G p l e R s m args below meth c cells slots Q nL pc ls (vI y :: vI x :: st) σ := by
  intro hl hs H locs la hP hS hL
  exact lv_icmp_ne C.1 C.2.1 hd ht (fun h => kt h hl (ok_t (ok_t hs)) H locs la hP hS hL) (fun h => kf h hl (ok_t (ok_t hs)) H locs la hP hS hL)
theorem r_if_lt (C : Cx G p s m args meth c ret nL own cc) {x : Int32} {off : Int} (tgt : Nat) (hd : decode cc pc = .ok (.ifCond .lt off, 3)) (ht : (pc : Int) + off = (tgt : Int)) (kt : x < 0 → Rt G p l e R s m args below meth c cells slots Q nL tgt ls st σ) (kf : ¬ x < 0 → Rt G p l e R s m args below meth c cells slots Q nL (pc + 3) ls st σ) : Rt G p l e R s m args below meth c cells slots Q nL pc ls (vI x :: st) σ := by
  intro hl hs H locs la hP hS hL
  exact lv_if_lt C.1 C.2.1 hd ht (fun h => kt h hl (ok_t hs) H locs la hP hS hL) (fun h => kf h hl (ok_t hs) H locs la hP hS hL)
theorem r_icmp_lt (C : Cx G p s m args meth c ret nL own cc) {x y : Int32} {off : Int} (tgt : Nat) (hd : decode cc pc = .ok (.if_icmp .lt off, 3)) (ht : (pc : Int) + off = (tgt : Int)) (kt : x < y → Rt G p l e R s m args below meth c cells slots Q nL tgt ls st σ) (kf : ¬ x < y → Rt G p l e R s m args below meth c cells slots Q nL (pc + 3) ls st σ) : Rt G p l e R s m args below meth c cells slots Q nL pc ls (vI y :: vI x :: st) σ := by
  intro hl hs H locs la hP hS hL
  exact lv_icmp_lt C.1 C.2.1 hd ht (fun h => kt h hl (ok_t (ok_t hs)) H locs la hP hS hL) (fun h => kf h hl (ok_t (ok_t hs)) H locs la hP hS hL)
theorem r_if_ge (C : Cx G p s m args meth c ret nL own cc) {x : Int32} {off : Int} (tgt : Nat) (hd : decode cc pc = .ok (.ifCond .ge off, 3)) (ht : (pc : Int) + off = (tgt : Int)) (kt : 0 ≤ x → Rt G p l e R s m args below meth c cells slots Q nL tgt ls st σ) (kf : ¬ 0 ≤ x → Rt G p l e R s m args below meth c cells slots Q nL (pc + 3) ls st σ) : Rt G p l e R s m args below meth c cells slots Q nL pc ls (vI x :: st) σ := by
  intro hl hs H locs la hP hS hL
  exact lv_if_ge C.1 C.2.1 hd ht (fun h => kt h hl (ok_t hs) H locs la hP hS hL) (fun h => kf h hl (ok_t hs) H locs la hP hS hL)
theorem r_icmp_ge (C : Cx G p s m args meth c ret nL own cc) {x y : Int32} {off : Int} (tgt : Nat) (hd : decode cc pc = .ok (.if_icmp .ge off, 3)) (ht : (pc : Int) + off = (tgt : Int)) (kt : y ≤ x → Rt G p l e R s m args below meth c cells slots Q nL tgt ls st σ) (kf : ¬ y ≤ x → Rt G p l e R s m args below meth c cells slots Q nL (pc + 3) ls st σ) : Rt G p l e R s m args below meth c cells slots Q nL pc ls (vI y :: vI x :: st) σ := by
  intro hl hs H locs la hP hS hL
  exact lv_icmp_ge C.1 C.2.1 hd ht (fun h => kt h hl (ok_t (ok_t hs)) H locs la hP hS hL) (fun h => kf h hl (ok_t (ok_t hs)) H locs la hP hS hL)
theorem r_if_gt (C : Cx G p s m args meth c ret nL own cc) {x : Int32} {off : Int} (tgt : Nat) (hd : decode cc pc = .ok (.ifCond .gt off, 3)) (ht : (pc : Int) + off = (tgt : Int)) (kt : 0 < x → Rt G p l e R s m args below meth c cells slots Q nL tgt ls st σ) (kf : ¬ 0 < x → Rt G p l e R s m args below meth c cells slots Q nL (pc + 3) ls st σ) : Rt G p l e R s m args below meth c cells slots Q nL pc ls (vI x :: st) σ := by
  intro hl hs H locs la hP hS hL
  exact lv_if_gt C.1 C.2.1 hd ht (fun h => kt h hl (ok_t hs) H locs la hP hS hL) (fun h => kf h hl (ok_t hs) H locs la hP hS hL)
theorem r_icmp_gt (C : Cx G p s m args meth c ret nL own cc) {x y : Int32} {off : Int} (tgt : Nat) (hd : decode cc pc = .ok (.if_icmp .gt off, 3)) (ht : (pc : Int) + off = (tgt : Int)) (kt : y < x → Rt G p l e R s m args below meth c cells slots Q nL tgt ls st σ) (kf : ¬ y < x → Rt G p l e R s m args below meth c cells slots Q nL (pc + 3) ls st σ) : Rt G p l e R s m args below meth c cells slots Q nL pc ls (vI y :: vI x :: st) σ := by
  intro hl hs H locs la hP hS hL
  exact lv_icmp_gt C.1 C.2.1 hd ht (fun h => kt h hl (ok_t (ok_t hs)) H locs la hP hS hL) (fun h => kf h hl (ok_t (ok_t hs)) H locs la hP hS hL)
theorem r_if_le (C : Cx G p s m args meth c ret nL own cc) {x : Int32} {off : Int} (tgt : Nat) (hd : decode cc pc = .ok (.ifCond .le off, 3)) (ht : (pc : Int) + off = (tgt : Int)) (kt : x ≤ 0 → Rt G p l e R s m args below meth c cells slots Q nL tgt ls st σ) (kf : ¬ x ≤ 0 → Rt G p l e R s m args below meth c cells slots Q nL (pc + 3) ls st σ) : Rt G p l e R s m args below meth c cells slots Q nL pc ls (vI x :: st) σ := by
  intro hl hs H locs la hP hS hL
  exact lv_if_le C.1 C.2.1 hd ht (fun h => kt h hl (ok_t hs) H locs la hP hS hL) (fun h => kf h hl (ok_t hs) H locs la hP hS hL)
theorem r_icmp_le (C : Cx G p s m args meth c ret nL own cc) {x y : Int32} {off : Int} (tgt : Nat) (hd : decode cc pc = .ok (.if_icmp .le off, 3)) (ht : (pc : Int) + off = (tgt : Int)) (kt : x ≤ y → Rt G p l e R s m args below meth c cells slots Q nL tgt ls st σ) (kf : ¬ x ≤ y → Rt G p l e R s m args below meth c cells slots Q nL (pc + 3) ls st σ) : Rt G p l e R s m args below meth c cells slots Q nL pc ls (vI y :: vI x :: st) σ := by
  intro hl hs H locs la hP hS hL
  exact lv_icmp_le C.1 C.2.1 hd ht (fun h => kt h hl (ok_t (ok_t hs)) H locs la hP hS hL) (fun h => kf h hl (ok_t (ok_t hs)) H locs la hP hS hL)
theorem r_goto (C : Cx G p s m args meth c ret nL own cc) {off : Int} (tgt : Nat) (hd : decode cc pc = .ok (.goto off, 3)) (ht : (pc : Int) + off = (tgt : Int)) (k : Rt G p l e R s m args below meth c cells slots Q nL tgt ls st σ) : Rt G p l e R s m args below meth c cells slots Q nL pc ls st σ := by
  intro hl hs H locs la hP hS hL
  exact lv_goto C.1 C.2.1 hd ht (k hl hs H locs la hP hS hL)
/-- two ids of the world lie at one address only if they are one -/
theorem ad_inj (hD : ∀ σ : St, va_D (AG G) (wsO G σ)) {d d' : Id3} (h : d ∈ ids) (h' : d' ∈ ids) (σ : St) (hq : G.1 d = G.1 d') : d = d' := by
  obtain ⟨k, h1, h2⟩ := ws_at (G := G) h σ
  obtain ⟨k', h3, h4⟩ := ws_at (G := G) h' σ
  have := (hD σ).1 k k' _ _ h2 h4 hq
  subst this
  exact Option.some.inj (h1.symm.trans h3)
theorem r_acmp_eq (C : Cx G p s m args meth c ret nL own cc) {d d' : Id3} {off : Int} (tgt : Nat) (hd : decode cc pc = .ok (.if_acmp .eq off, 3)) (ht : (pc : Int) + off = (tgt : Int)) (h0 : d.1 < 100) (h1 : d'.1 < 100) (kt : d = d' → Rt G p l e R s m args below meth c cells slots Q nL tgt ls st σ) (kf : ¬ d = d' → Rt G p l e R s m args below meth c cells slots Q nL (pc + 3) ls st σ) : Rt G p l e R s m args below meth c cells slots Q nL pc ls (vR d' :: vR d :: st) σ := by
  intro hl hs H locs la hP hS hL
  have g0 : d ∈ ids := ok_h (ok_t hs) h0
  have g1 : d' ∈ ids := ok_h hs h1
  exact lv_acmp_eq (rx := some (G.1 d)) (ry := some (G.1 d')) C.1 C.2.1 hd ht (fun h => kt (ad_inj C.2.2.2.2.2.2.1 g0 g1 σ (Option.some.inj h)) hl (ok_t (ok_t hs)) H locs la hP hS hL) (fun h => kf (fun q => h (by rw [q])) hl (ok_t (ok_t hs)) H locs la hP hS hL)
theorem r_tabIn (C : Cx G p s m args meth c ret nL own cc) {dflt lo hi : Int} {offs : Array Int} {len : Nat} {x : Int32} {off : Int} (tgt : Nat) (hd : decode cc pc = .ok (.tableswitch dflt lo hi offs, len)) (h1 : ¬ x.toInt < lo) (h2 : ¬ hi < x.toInt) (ho : offs[(x.toInt - lo).toNat]? = some off) (ht : (pc : Int) + off = (tgt : Int)) (k : Rt G p l e R s m args below meth c cells slots Q nL tgt ls st σ) : Rt G p l e R s m args below meth c cells slots Q nL pc ls (vI x :: st) σ := by
  intro hl hs H locs la hP hS hL
  exact lv_tableIn C.1 C.2.1 hd h1 h2 ho ht (k hl (ok_t hs) H locs la hP hS hL)
theorem r_tabOut (C : Cx G p s m args meth c ret nL own cc) {dflt lo hi : Int} {offs : Array Int} {len : Nat} {x : Int32} (tgt : Nat) (hd : decode cc pc = .ok (.tableswitch dflt lo hi offs, len)) (h : x.toInt < lo ∨ hi < x.toInt) (ht : (pc : Int) + dflt = (tgt : Int)) (k : Rt G p l e R s m args below meth c cells slots Q nL tgt ls st σ) : Rt G p l e R s m args below meth c cells slots Q nL pc ls (vI x :: st) σ := by
  intro hl hs H locs la hP hS hL
  exact lv_tableOut C.1 C.2.1 hd h ht (k hl (ok_t hs) H locs la hP hS hL)
theorem r_look (C : Cx G p s m args meth c ret nL own cc) {dflt : Int} {ps : Array (Int × Int)} {len : Nat} {x : Int32} {off : Int} (tgt : Nat) (hd : decode cc pc = .ok (.lookupswitch dflt ps, len)) (hp : (ps.toList.zip (ps.toList.drop 1)).all (fun (a, next) => a.1 < next.1) = true) (ho : Op.lookupswitch.offset ps.toList dflt x.toInt = off) (ht : (pc : Int) + off = (tgt : Int)) (k : Rt G p l e R s m args below meth c cells slots Q nL tgt ls st σ) : Rt G p l e R s m args below meth c cells slots Q nL pc ls (vI x :: st) σ := by
  intro hl hs H locs la hP hS hL
  exact lv_lookup C.1 C.2.1 hd hp ho ht (k hl (ok_t hs) H locs la hP hS hL)
theorem r_iaload (C : Cx G p s m args meth c ret nL own cc) {d : Id3} {n : Nat} {i : Int32} (j : Nat) (hd : decode cc pc = .ok (.iaload, 1)) (hk : dk d.1 = (1, n, 0)) (hi : inb i n = true) (hj : i.toNatClampNeg = j) (k : Rt G p l e R s m args below meth c cells slots Q nL (pc + 1) ls (vI (σ.1 d j) :: st) σ) : Rt G p l e R s m args below meth c cells slots Q nL pc ls (vI i :: vR d :: st) σ := by
  intro hl hs H locs la hP hS hL
  obtain ⟨kk, h1, h2⟩ := ws_at (G := G) (ok_h (ok_t hs) (dk_lt hk (by decide))) σ
  rw [en_I hk (by decide)] at h2
  subst hj
  exact va_iald C.1 C.2.1 C.2.2.2.2.2.1 hP kk 0 h2 rfl (inb_in hi) hd (k hl (ok_c (v := vI _) trivial (ok_t (ok_t hs))) H locs la hP hS hL)
theorem r_baload (C : Cx G p s m args meth c ret nL own cc) {d : Id3} {n : Nat} {i : Int32} (j : Nat) (hd : decode cc pc = .ok (.baload, 1)) (hk : dk d.1 = (2, n, 1)) (hi : inb i n = true) (hj : i.toNatClampNeg = j) (k : Rt G p l e R s m args below meth c cells slots Q nL (pc + 1) ls (vI (σ.1 d j) :: st) σ) : Rt G p l e R s m args below meth c cells slots Q nL pc ls (vI i :: vR d :: st) σ := by
  intro hl hs H locs la hP hS hL
  obtain ⟨kk, h1, h2⟩ := ws_at (G := G) (ok_h (ok_t hs) (dk_lt hk (by decide))) σ
  rw [en_I hk (by decide)] at h2
  subst hj
  exact va_bald C.1 C.2.1 C.2.2.2.2.2.1 hP kk 1 h2 rfl (inb_in hi) hd (k hl (ok_c (v := vI _) trivial (ok_t (ok_t hs))) H locs la hP hS hL)
theorem r_zaload (C : Cx G p s m args meth c ret nL own cc) {d : Id3} {n : Nat} {i : Int32} (j : Nat) (hd : decode cc pc = .ok (.baload, 1)) (hk : dk d.1 = (3, n, 2)) (hi : inb i n = true) (hj : i.toNatClampNeg = j) (k : Rt G p l e R s m args below meth c cells slots Q nL (pc + 1) ls (vI (σ.1 d j) :: st) σ) : Rt G p l e R s m args below meth c cells slots Q nL pc ls (vI i :: vR d :: st) σ := by
  intro hl hs H locs la hP hS hL
  obtain ⟨kk, h1, h2⟩ := ws_at (G := G) (ok_h (ok_t hs) (dk_lt hk (by decide))) σ
  rw [en_I hk (by decide)] at h2
  subst hj
  exact va_zald C.1 C.2.1 C.2.2.2.2.2.1 hP kk 2 h2 rfl (inb_in hi) hd (k hl (ok_c (v := vI _) trivial (ok_t (ok_t hs))) H locs la hP hS hL)
theorem r_laload (C : Cx G p s m args meth c ret nL own cc) {d : Id3} {n : Nat} {i : Int32} (j : Nat) (hd : decode cc pc = .ok (.laload, 1)) (hk : dk d.1 = (4, n, 3)) (hi : inb i n = true) (hj : i.toNatClampNeg = j) (k : Rt G p l e R s m args below meth c cells slots Q nL (pc + 1) ls (vL (σ.2 d j) :: st) σ) : Rt G p l e R s m args below meth c cells slots Q nL pc ls (vI i :: vR d :: st) σ := by
  intro hl hs H locs la hP hS hL
  obtain ⟨kk, h1, h2⟩ := ws_at (G := G) (ok_h (ok_t hs) (dk_lt hk (by decide))) σ
  rw [en_J hk] at h2
  subst hj
  exact va_lald C.1 C.2.1 C.2.2.2.2.2.1 hP kk 3 h2 rfl (inb_in hi) hd (k hl (ok_c (v := vL _) trivial (ok_t (ok_t hs))) H locs la hP hS hL)
theorem r_aaload (C : Cx G p s m args meth c ret nL own cc) {d : Id3} {n b : Nat} {cA : ClassId} {E : String} {i : Int32} (hd : decode cc pc = .ok (.aaload, 1)) (hk : dk d.1 = (5, n, b)) (hb : (tyl G)[b]? = some (G.2.2.1 b, .object E)) (hi : inb i n = true) {d2 : Id3} (h2 : el d i.toNatClampNeg = d2) (k : Rt G p l e R s m args below meth c cells slots Q nL (pc + 1) ls (vR d2 :: st) σ) : Rt G p l e R s m args below meth c cells slots Q nL pc ls (vI i :: vR d :: st) σ := by
  intro hl hs H locs la hP hS hL
  have hi := inb_in hi
  subst h2
  have hm : d ∈ ids := ok_h (ok_t hs) (dk_lt hk (by decide))
  obtain ⟨kk, h1, h2⟩ := ws_at (G := G) hm σ
  rw [en_Q hk] at h2
  have hlt : i.toNatClampNeg < n := Nat.not_le.mp fun q => hi (Or.inr q)
  have hm2 : el d i.toNatClampNeg ∈ ids := ids_el d hm (by rw [hk]) _ (by rw [hk]; exact hlt)
  exact va_aldq C.1 C.2.1 C.2.2.2.2.2.1 hP kk b h2 hb hi hd (k hl (ok_c (v := vR _) (fun _ => hm2) (ok_t (ok_t hs))) H locs la hP hS hL)
theorem r_iastore (C : Cx G p s m args meth c ret nL own cc) {d : Id3} {n : Nat} {i x : Int32} {σ1 : St} (j : Nat) (hd : decode cc pc = .ok (.iastore, 1)) (hk : dk d.1 = (1, n, 0)) (hi : inb i n = true) (hj : i.toNatClampNeg = j) (hσ : σ1 = uI σ d j (x)) (k : Rt G p l e R s m args below meth c cells slots Q nL (pc + 1) ls st σ1) : Rt G p l e R s m args below meth c cells slots Q nL pc ls (vI x :: vI i :: vR d :: st) σ := by
  intro hl hs H locs la hP hS hL
  subst hσ
  subst hj
  have hi := inb_in hi
  obtain ⟨kk, h1, h2⟩ := ws_at (G := G) (ok_h (ok_t (ok_t hs)) (dk_lt hk (by decide))) σ
  rw [en_I hk (by decide)] at h2
  have e1 := ws_set (G := G) (σ := σ) (σ' := uI σ d i.toNatClampNeg (x)) h1 (fun d' h => en_ne (uI_ne h) rfl) (en_I hk (by decide))
  rw [uI_self] at e1
  exact va_iast C.1 C.2.1 C.2.2.2.2.2.1 hP (C.2.2.2.2.2.2.1 σ) hS kk 0 h2 rfl hi hd (fun H1 locs1 hP1 _ hS1 => k hl (ok_t (ok_t (ok_t hs))) H1 locs1 la (by rw [← e1]; exact hP1) hS1 hL)
theorem r_bastore (C : Cx G p s m args meth c ret nL own cc) {d : Id3} {n : Nat} {i x : Int32} {σ1 : St} (j : Nat) (hd : decode cc pc = .ok (.bastore, 1)) (hk : dk d.1 = (2, n, 1)) (hi : inb i n = true) (hj : i.toNatClampNeg = j) (hσ : σ1 = uI σ d j (vp_nar .byte x)) (k : Rt G p l e R s m args below meth c cells slots Q nL (pc + 1) ls st σ1) : Rt G p l e R s m args below meth c cells slots Q nL pc ls (vI x :: vI i :: vR d :: st) σ := by
  intro hl hs H locs la hP hS hL
  subst hσ
  subst hj
  have hi := inb_in hi
  obtain ⟨kk, h1, h2⟩ := ws_at (G := G) (ok_h (ok_t (ok_t hs)) (dk_lt hk (by decide))) σ
  rw [en_I hk (by decide)] at h2
  have e1 := ws_set (G := G) (σ := σ) (σ' := uI σ d i.toNatClampNeg (vp_nar .byte x)) h1 (fun d' h => en_ne (uI_ne h) rfl) (en_I hk (by decide))
  rw [uI_self] at e1
  exact va_bast C.1 C.2.1 C.2.2.2.2.2.1 hP (C.2.2.2.2.2.2.1 σ) hS kk 1 h2 rfl hi hd (fun H1 locs1 hP1 _ hS1 => k hl (ok_t (ok_t (ok_t hs))) H1 locs1 la (by rw [← e1]; exact hP1) hS1 hL)
theorem r_zastore (C : Cx G p s m args meth c ret nL own cc) {d : Id3} {n : Nat} {i x : Int32} {σ1 : St} (j : Nat) (hd : decode cc pc = .ok (.bastore, 1)) (hk : dk d.1 = (3, n, 2)) (hi : inb i n = true) (hj : i.toNatClampNeg = j) (hσ : σ1 = uI σ d j (vp_nar .boolean x)) (k : Rt G p l e R s m args below meth c cells slots Q nL (pc + 1) ls st σ1) : Rt G p l e R s m args below meth c cells slots Q nL pc ls (vI x :: vI i :: vR d :: st) σ := by
  intro hl hs H locs la hP hS hL
  subst hσ
  subst hj
  have hi := inb_in hi
  obtain ⟨kk, h1, h2⟩ := ws_at (G := G) (ok_h (ok_t (ok_t hs)) (dk_lt hk (by decide))) σ
  rw [en_I hk (by decide)] at h2
  have e1 := ws_set (G := G) (σ := σ) (σ' := uI σ d i.toNatClampNeg (vp_nar .boolean x)) h1 (fun d' h => en_ne (uI_ne h) rfl) (en_I hk (by decide))
  rw [uI_self] at e1
  exact va_zast C.1 C.2.1 C.2.2.2.2.2.1 hP (C.2.2.2.2.2.2.1 σ) hS kk 2 h2 rfl hi hd (fun H1 locs1 hP1 _ hS1 => k hl (ok_t (ok_t (ok_t hs))) H1 locs1 la (by rw [← e1]; exact hP1) hS1 hL)
theorem r_lastore (C : Cx G p s m args meth c ret nL own cc) {d : Id3} {n : Nat} {i : Int32} {x : Int64} {σ1 : St} (j : Nat) (hd : decode cc pc = .ok (.lastore, 1)) (hk : dk d.1 = (4, n, 3)) (hi : inb i n = true) (hj : i.toNatClampNeg = j) (hσ : σ1 = uL σ d j x) (k : Rt G p l e R s m args below meth c cells slots Q nL (pc + 1) ls st σ1) : Rt G p l e R s m args below meth c cells slots Q nL pc ls (vL x :: vI i :: vR d :: st) σ := by
  intro hl hs H locs la hP hS hL
  subst hσ
  subst hj
  have hi := inb_in hi
  obtain ⟨kk, h1, h2⟩ := ws_at (G := G) (ok_h (ok_t (ok_t hs)) (dk_lt hk (by decide))) σ
  rw [en_J hk] at h2
  have e1 := ws_set (G := G) (σ := σ) (σ' := uL σ d i.toNatClampNeg x) h1 (fun d' h => en_ne rfl (uL_ne h)) (en_J hk)
  rw [uL_self] at e1
  exact va_last C.1 C.2.1 C.2.2.2.2.2.1 hP (C.2.2.2.2.2.2.1 σ) hS kk 3 h2 rfl hi hd (fun H1 locs1 hP1 _ hS1 => k hl (ok_t (ok_t (ok_t hs))) H1 locs1 la (by rw [← e1]; exact hP1) hS1 hL)
theorem r_alen (C : Cx G p s m args meth c ret nL own cc) {d : Id3} {z n b : Nat} {ty : FieldType} {v : Int32} (hd : decode cc pc = .ok (.arraylength, 1)) (hk : dk d.1 = (z, n, b)) (hz : z = 1 ∨ z = 2 ∨ z = 3) (hb : (tyl G)[b]? = some (G.2.2.1 b, ty)) (hv : Int32.ofNat n = v) (k : Rt G p l e R s m args below meth c cells slots Q nL (pc + 1) ls (vI v :: st) σ) : Rt G p l e R s m args below meth c cells slots Q nL pc ls (vR d :: st) σ := by
  intro hl hs H locs la hP hS hL
  obtain ⟨kk, h1, h2⟩ := ws_at (G := G) (ok_h hs (dk_lt hk (by rcases hz with rfl | rfl | rfl <;> decide))) σ
  rw [en_I hk hz] at h2
  exact va_alen C.1 C.2.1 C.2.2.2.2.2.1 hP kk b h2 hb hv hd (k hl (ok_c (v := vI _) trivial (ok_t hs)) H locs la hP hS hL)
theorem r_alenJ (C : Cx G p s m args meth c ret nL own cc) {d : Id3} {n : Nat} {v : Int32} (hd : decode cc pc = .ok (.arraylength, 1)) (hk : dk d.1 = (4, n, 3)) (hv : Int32.ofNat n = v) (k : Rt G p l e R s m args below meth c cells slots Q nL (pc + 1) ls (vI v :: st) σ) : Rt G p l e R s m args below meth c cells slots Q nL pc ls (vR d :: st) σ := by
  intro hl hs H locs la hP hS hL
  obtain ⟨kk, h1, h2⟩ := ws_at (G := G) (ok_h hs (dk_lt hk (by decide))) σ
  rw [en_J hk] at h2
  exact va_alen C.1 C.2.1 C.2.2.2.2.2.1 hP kk 3 h2 rfl hv hd (k hl (ok_c (v := vI _) trivial (ok_t hs)) H locs la hP hS hL)
/-- a field of a class: the words of its table are there -/
theorem r_getI (C : Cx G p s m args meth c ret nL own cc) {d : Id3} {ci N kf index : Nat} {E : String} {T : u_T} (hd : decode cc pc = .ok (.getfield index, 3)) (hk : dk d.1 = (0, ci, N)) (hc : vwCl[ci]? = some (E, T, N)) (hin : ∀ w ∈ u_ws E T N, w ∈ TB) (hkf : kf < N) (hw : Cond.fieldLink own index (T kf).1 (T kf).2.1 (T kf).2.2.1 ∈ TB) (hr : rk d.1 kf = false) (k : Rt G p l e R s m args below meth c cells slots Q nL (pc + 3) ls (vI (σ.1 d kf) :: st) σ) : Rt G p l e R s m args below meth c cells slots Q nL pc ls (vR d :: st) σ := by
  intro hl hs H locs la hP hS hL
  obtain ⟨kk, h1, h2⟩ := ws_at (G := G) (ok_h hs (dk_lt hk (by decide))) σ
  rw [en_O hk] at h2
  exact va_get C.1 C.2.1 C.2.2.2.2.1 hin C.2.2.2.1 C.2.2.2.2.2.1 hP kk h2 hc kf hkf (C.2.2.2.2.1 _ hw) (fun _ h => h) (v := .int (σ.1 d kf)) (by simp [hkf, fv, hr]) hd (k hl (ok_c (v := vI _) trivial (ok_t hs)) H locs la hP hS hL)
theorem r_getR (C : Cx G p s m args meth c ret nL own cc) {d : Id3} {ci N kf index : Nat} {E : String} {T : u_T} (hd : decode cc pc = .ok (.getfield index, 3)) (hk : dk d.1 = (0, ci, N)) (hc : vwCl[ci]? = some (E, T, N)) (hin : ∀ w ∈ u_ws E T N, w ∈ TB) (hkf : kf < N) (hw : Cond.fieldLink own index (T kf).1 (T kf).2.1 (T kf).2.2.1 ∈ TB) (hr : rk d.1 kf = true) {d2 : Id3} (h2 : rf d kf = d2) (k : Rt G p l e R s m args below meth c cells slots Q nL (pc + 3) ls (vR d2 :: st) σ) : Rt G p l e R s m args below meth c cells slots Q nL pc ls (vR d :: st) σ := by
  intro hl hs H locs la hP hS hL
  subst h2
  have hm : d ∈ ids := ok_h hs (dk_lt hk (by decide))
  obtain ⟨kk, h1, h2⟩ := ws_at (G := G) hm σ
  rw [en_O hk] at h2
  have hm2 : rf d kf ∈ ids := ids_rf d hm kf (by rw [hk]; exact hkf) (by rw [hk]) hr
  exact va_get C.1 C.2.1 C.2.2.2.2.1 hin C.2.2.2.1 C.2.2.2.2.2.1 hP kk h2 hc kf hkf (C.2.2.2.2.1 _ hw) (fun _ h => h) (v := .ref (G.1 (rf d kf))) (by simp [hkf, fv, hr]) hd (k hl (ok_c (v := vR _) (fun _ => hm2) (ok_t hs)) H locs la hP hS hL)
theorem r_put (C : Cx G p s m args meth c ret nL own cc) {d : Id3} {ci N kf index : Nat} {E : String} {T : u_T} {ty0 : Nat → FieldType} {x : Int32} {σ1 : St} (hd : decode cc pc = .ok (.putfield index, 3)) (hk : dk d.1 = (0, ci, N)) (hc : vwCl[ci]? = some (E, T, N)) (hin : ∀ w ∈ u_ws E T N, w ∈ TB) (hty : ∀ k, k < N → parseFieldDescriptor (T k).2.2.1 = some (ty0 k)) (hnm : ∀ a, a < N → ∀ b, b < N → a ≠ b → (T a).2.1 ≠ (T b).2.1) (hkf : kf < N) (hw : Cond.fieldLink own index (T kf).1 (T kf).2.1 (T kf).2.2.1 ∈ TB) (hr : rk d.1 kf = false) (hfin : (T kf).2.2.2 = false) (hn : narrow (ty0 kf) (.int x) = .int x) (hf : fits (ty0 kf) (.int x) = true) (hσ : σ1 = uI σ d kf x) (k : Rt G p l e R s m args below meth c cells slots Q nL (pc + 3) ls st σ1) : Rt G p l e R s m args below meth c cells slots Q nL pc ls (vI x :: vR d :: st) σ := by
  intro hl hs H locs la hP hS hL
  subst hσ
  obtain ⟨kk, h1, h2⟩ := ws_at (G := G) (ok_h (ok_t hs) (dk_lt hk (by decide))) σ
  rw [en_O hk] at h2
  have e1 := ws_set (G := G) (σ := σ) (σ' := uI σ d kf x) h1 (fun d' h => en_ne (uI_ne h) rfl) (en_O hk)
  rw [← fv_put hr] at e1
  exact va_put C.1 C.2.1 C.2.2.2.2.1 hin ty0 hty hnm C.2.2.2.1 C.2.2.2.2.2.1 hP (C.2.2.2.2.2.2.1 σ) hS kk h2 hc kf hkf (C.2.2.2.2.1 _ hw) (fun _ h => h) hfin (hty kf hkf) hn hf (by simpa using hkf) hd (fun H1 locs1 hP1 _ hS1 => k hl (ok_t (ok_t hs)) H1 locs1 la (by rw [← e1]; exact hP1) hS1 hL)
/-- names, fewer locals -/
theorem r_topI {x x1 : Int32} (h : x1 = x) (k : Rt G p l e R s m args below meth c cells slots Q nL pc ls (vI x1 :: st) σ) : Rt G p l e R s m args below meth c cells slots Q nL pc ls (vI x :: st) σ := by subst h; exact k
theorem r_topL {x x1 : Int64} (h : x1 = x) (k : Rt G p l e R s m args below meth c cells slots Q nL pc ls (vL x1 :: st) σ) : Rt G p l e R s m args below meth c cells slots Q nL pc ls (vL x :: st) σ := by subst h; exact k
theorem r_drop (ks : List Nat) {ls2 : List (Nat × VV)} (h : ks.filterMap (fun k => ls[k]?) = ls2) (k : Rt G p l e R s m args below meth c cells slots Q nL pc ls2 st σ) : Rt G p l e R s m args below meth c cells slots Q nL pc ls st σ := by
  intro hl hs H locs la hP hS hL
  subst h
  have hm : ∀ q, q ∈ ks.filterMap (fun k => ls[k]?) → q ∈ ls := fun q hq => by
    obtain ⟨i, -, hi⟩ := List.mem_filterMap.mp hq
    exact List.mem_of_getElem? hi
  refine k (fun q hq => hl q (hm q hq)) hs H locs la hP hS ⟨hL.1, hL.2.1, fun q hq => ?_⟩
  obtain ⟨r, hr, e⟩ := List.mem_map.mp hq
  exact hL.2.2 q (List.mem_map.mpr ⟨r, hm r hr, e⟩)
theorem r_max (C : Cx G p s m args meth c ret nL own cc) {index : Nat} {x y : Int32} (hd : decode cc pc = .ok (.invokestatic index, 3)) (hw1 : Cond.methodLink own index Lib.Math.max.name ∈ TB) (hw2 : Cond.static Lib.Math.max.name ∈ TB) (hw3 : Cond.initialized "java/lang/Math" ∈ TB) (hw4 : Cond.code Lib.Math.max.name Lib.Math.max.code 2 (some .int) ∈ TB) (hR : 1 ≤ R.frames ∧ ((st.map (tv G.1)).map fun v => v.category).sum + 13 ≤ R.locals) (hcs : cells ≤ R.cells ∧ slots ≤ R.slots) (k : Rt G p l e R s m args below meth c cells slots Q nL (pc + 3) ls (vI (if x < y then y else x) :: st) σ) : Rt G p l e R s m args below meth c cells slots Q nL pc ls (vI y :: vI x :: st) σ := by
  intro hl hs H locs la hP hS hL
  exact va_mmax C.1 C.2.1 (C.2.2.1.trans hL.1.symm) C.2.2.2.1 (C.2.2.2.2.1 _ hw1) (C.2.2.2.2.1 _ hw2) (C.2.2.2.2.1 _ hw3) (C.2.2.2.2.1 _ hw4) hR.1 hR.2 hcs.1 hcs.2 hd (k hl (ok_c (v := vI _) trivial (ok_t (ok_t hs))) H locs la hP hS hL)
theorem r_min (C : Cx G p s m args meth c ret nL own cc) {index : Nat} {x y : Int32} (hd : decode cc pc = .ok (.invokestatic index, 3)) (hw1 : Cond.methodLink own index Lib.Math.min.name ∈ TB) (hw2 : Cond.static Lib.Math.min.name ∈ TB) (hw3 : Cond.initialized "java/lang/Math" ∈ TB) (hw4 : Cond.code Lib.Math.min.name Lib.Math.min.code 2 (some .int) ∈ TB) (hR : 1 ≤ R.frames ∧ ((st.map (tv G.1)).map fun v => v.category).sum + 13 ≤ R.locals) (hcs : cells ≤ R.cells ∧ slots ≤ R.slots) (k : Rt G p l e R s m args below meth c cells slots Q nL (pc + 3) ls (vI (if y < x then y else x) :: st) σ) : Rt G p l e R s m args below meth c cells slots Q nL pc ls (vI y :: vI x :: st) σ := by
  intro hl hs H locs la hP hS hL
  exact va_mmin C.1 C.2.1 (C.2.2.1.trans hL.1.symm) C.2.2.2.1 (C.2.2.2.2.1 _ hw1) (C.2.2.2.2.1 _ hw2) (C.2.2.2.2.1 _ hw3) (C.2.2.2.2.1 _ hw4) hR.1 hR.2 hcs.1 hcs.2 hd (k hl (ok_c (v := vI _) trivial (ok_t (ok_t hs))) H locs la hP hS hL)
theorem r_copyI (C : Cx G p s m args meth c ret nL own cc) {index : Nat} {d d' : Id3} {n n' : Nat} {sp dp z : Int32} {σ1 : St} (hd : decode cc pc = .ok (.invokestatic index, 3)) (hk : dk d.1 = (1, n, 0)) (hk' : dk d'.1 = (1, n', 0)) (hw1 : Cond.methodLink own index arraycopyName ∈ TB) (hw2 : Cond.native arraycopyName ∈ TB) (hw3 : Cond.static arraycopyName ∈ TB) (hw4 : Cond.initialized "java/lang/System" ∈ TB) (hR : 1 ≤ R.frames ∧ ((st.map (tv G.1)).map fun v => v.category).sum + (nativeFrameWords "java/lang/System" "arraycopy" 5 + 11) ≤ R.locals) (hc : cpk sp dp z n n' = true) (hσ : σ1 = uR σ d' (va_cpy (σ.1 d) (σ.1 d') sp.toNatClampNeg dp.toNatClampNeg z.toNatClampNeg)) (k : Rt G p l e R s m args below meth c cells slots Q nL (pc + 3) ls st σ1) : Rt G p l e R s m args below meth c cells slots Q nL pc ls (vI z :: vI dp :: vR d' :: vI sp :: vR d :: st) σ := by
  intro hl hs H locs la hP hS hL
  subst hσ
  obtain ⟨c1, c2, c3, c4, c5⟩ := of_decide_eq_true hc
  obtain ⟨k1, g1, g2⟩ := ws_at (G := G) (ok_h (ok_t (ok_t (ok_t (ok_t hs)))) (dk_lt hk (by decide))) σ
  obtain ⟨k2, g3, g4⟩ := ws_at (G := G) (ok_h (ok_t (ok_t hs)) (dk_lt hk' (by decide))) σ
  rw [en_I hk (by decide)] at g2
  rw [en_I hk' (by decide)] at g4
  have e1 := ws_set (G := G) (σ := σ) (σ' := uR σ d' (va_cpy (σ.1 d) (σ.1 d') sp.toNatClampNeg dp.toNatClampNeg z.toNatClampNeg)) g3 (fun d'' h => en_ne (uR_ne h) rfl) (en_I hk' (by decide))
  rw [uR_self] at e1
  exact va_copyi C.1 C.2.1 (C.2.2.1.trans hL.1.symm) C.2.2.2.1 (C.2.2.2.2.1 _ hw1) (C.2.2.2.2.1 _ hw2) (C.2.2.2.2.1 _ hw3) (C.2.2.2.2.1 _ hw4) C.2.2.2.2.2.1 hP (C.2.2.2.2.2.2.1 σ) hS k1 k2 0 0 g2 g4 rfl rfl rfl c1 c2 c3 c4 c5 (fun _ _ => rfl) hR.1 hR.2 hd (fun H1 locs1 hP1 _ hS1 => k hl (ok_t (ok_t (ok_t (ok_t (ok_t hs))))) H1 locs1 la (by rw [← e1]; exact hP1) hS1 hL)
theorem r_copyJ (C : Cx G p s m args meth c ret nL own cc) {index : Nat} {d d' : Id3} {n n' : Nat} {sp dp z : Int32} {σ1 : St} (hd : decode cc pc = .ok (.invokestatic index, 3)) (hk : dk d.1 = (4, n, 3)) (hk' : dk d'.1 = (4, n', 3)) (hw1 : Cond.methodLink own index arraycopyName ∈ TB) (hw2 : Cond.native arraycopyName ∈ TB) (hw3 : Cond.static arraycopyName ∈ TB) (hw4 : Cond.initialized "java/lang/System" ∈ TB) (hR : 1 ≤ R.frames ∧ ((st.map (tv G.1)).map fun v => v.category).sum + (nativeFrameWords "java/lang/System" "arraycopy" 5 + 11) ≤ R.locals) (hc : cpk sp dp z n n' = true) (hσ : σ1 = uRL σ d' (va_cpy (σ.2 d) (σ.2 d') sp.toNatClampNeg dp.toNatClampNeg z.toNatClampNeg)) (k : Rt G p l e R s m args below meth c cells slots Q nL (pc + 3) ls st σ1) : Rt G p l e R s m args below meth c cells slots Q nL pc ls (vI z :: vI dp :: vR d' :: vI sp :: vR d :: st) σ := by
  intro hl hs H locs la hP hS hL
  subst hσ
  obtain ⟨c1, c2, c3, c4, c5⟩ := of_decide_eq_true hc
  obtain ⟨k1, g1, g2⟩ := ws_at (G := G) (ok_h (ok_t (ok_t (ok_t (ok_t hs)))) (dk_lt hk (by decide))) σ
  obtain ⟨k2, g3, g4⟩ := ws_at (G := G) (ok_h (ok_t (ok_t hs)) (dk_lt hk' (by decide))) σ
  rw [en_J hk] at g2
  rw [en_J hk'] at g4
  have e1 := ws_set (G := G) (σ := σ) (σ' := uRL σ d' (va_cpy (σ.2 d) (σ.2 d') sp.toNatClampNeg dp.toNatClampNeg z.toNatClampNeg)) g3 (fun d'' h => en_ne rfl (uRL_ne h)) (en_J hk')
  rw [uRL_self] at e1
  exact va_copyl C.1 C.2.1 (C.2.2.1.trans hL.1.symm) C.2.2.2.1 (C.2.2.2.2.1 _ hw1) (C.2.2.2.2.1 _ hw2) (C.2.2.2.2.1 _ hw3) (C.2.2.2.2.1 _ hw4) C.2.2.2.2.2.1 hP (C.2.2.2.2.2.2.1 σ) hS k1 k2 3 3 g2 g4 rfl rfl rfl c1 c2 c3 c4 c5 (fun _ _ => rfl) hR.1 hR.2 hd (fun H1 locs1 hP1 _ hS1 => k hl (ok_t (ok_t (ok_t (ok_t (ok_t hs))))) H1 locs1 la (by rw [← e1]; exact hP1) hS1 hL)
/-- RULE_LEAST and its like -/
theorem r_gets (C : Cx G p s m args meth c ret nL own cc) {index t : Nat} {nm : String} (hd : decode cc pc = .ok (.getstatic index, 3)) (hz : (nm, t) ∈ zsT) (hw : Cond.fieldLink own index "DropsDance" nm "[I" ∈ TB) (ht : 100 ≤ t) (k : Rt G p l e R s m args below meth c cells slots Q nL (pc + 3) ls (vR (t, 0, 0) :: st) σ) : Rt G p l e R s m args below meth c cells slots Q nL pc ls st σ := by
  intro hl hs H locs la hP hS hL
  exact va_gets C.1 C.2.1 (C.2.2.2.2.2.2.2.1.2.1 _ hz) hS C.2.2.2.1 (C.2.2.2.2.1 _ hw) (fun _ h => h) hd (k hl (ok_c (v := vR _) (fun h => absurd h (Nat.not_lt.mpr ht)) hs) H locs la hP hS hL)
theorem r_getsN (C : Cx G p s m args meth c ret nL own cc) {index t : Nat} {nm : String} (hd : decode cc pc = .ok (.getstatic index, 3)) (hz : (nm, t) ∈ zsT) (hw : (own, index, nm) ∈ nsF) (ht : 100 ≤ t) (k : Rt G p l e R s m args below meth c cells slots Q nL (pc + 3) ls (vR (t, 0, 0) :: st) σ) : Rt G p l e R s m args below meth c cells slots Q nL pc ls st σ := by
  intro hl hs H locs la hP hS hL
  exact va_getsN C.1 C.2.1 (C.2.2.2.2.2.2.2.1.2.1 _ hz) hS C.2.2.2.1 (va_Nw.use rfl (C.2.2.2.2.2.2.2.1.2.2.2.2.2.2.2 _ hw)) (fun _ h => h) hd (k hl (ok_c (v := vR _) (fun h => absurd h (Nat.not_lt.mpr ht)) hs) H locs la hP hS hL)
theorem r_roload (C : Cx G p s m args meth c ret nL own cc) {t : Nat} {i : Int32} (j : Nat) (hd : decode cc pc = .ok (.iaload, 1)) (ht : t ∈ roT) (hi : inb i (roN G t) = true) (hj : i.toNatClampNeg = j) {v : Int32} (hv : roV G t j = v) (k : Rt G p l e R s m args below meth c cells slots Q nL (pc + 1) ls (vI v :: st) σ) : Rt G p l e R s m args below meth c cells slots Q nL pc ls (vI i :: vR (t, 0, 0) :: st) σ := by
  intro hl hs H locs la hP hS hL
  subst hj
  subst hv
  exact va_ti C.1 C.2.1 (C.2.2.2.2.2.2.2.1.1 t ht) hS (inb_in hi) (v := .int (roV G t i.toNatClampNeg)) rfl hd (k hl (ok_c (v := vI _) trivial (ok_t (ok_t hs))) H locs la hP hS hL)
end RT
