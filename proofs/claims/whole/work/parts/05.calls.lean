/-- the locals at a method's entry -/
def lva : Nat → List VV → List (Nat × VV)
  | _, [] => []
  | i, v :: vs => (i, v) :: lva (if c2 v = true then i + 2 else i + 1) vs
theorem lva_map (ad : Id3 → Nat) : ∀ (as : List VV) (i : Nat), lv_args i (as.map (tv ad)) = (lva i as).map (tp ad)
  | [], _ => rfl
  | v :: vs, i => by
    have e : (if (tv ad v).category = 2 then i + 2 else i + 1) = (if c2 v = true then i + 2 else i + 1) := by
      rw [← c2_tv ad v]
      simp
    show (i, tv ad v) :: lv_args (if (tv ad v).category = 2 then i + 2 else i + 1) (vs.map (tv ad)) = (i, tv ad v) :: (lva (if c2 v = true then i + 2 else i + 1) vs).map (tp ad)
    rw [e, lva_map ad vs]
theorem lva_ok : ∀ {as : List VV} {i : Nat}, (∀ v ∈ as, okv v) → ∀ q ∈ lva i as, okv q.2
  | [], _, _, q, hq => by cases hq
  | v :: vs, i, h, q, hq => by
    rcases List.mem_cons.mp (show q ∈ (i, v) :: lva (if c2 v = true then i + 2 else i + 1) vs from hq) with rfl | hq
    · exact h v List.mem_cons_self
    · exact lva_ok (fun w hw => h w (List.mem_cons_of_mem _ hw)) q hq
/-- a method's contract, by ids and stores -/
def Sp (G : Gx) (l : Launch) (y : MethodName) (cc : ByteArray) (nL : Nat) (ret : Option FieldType) (rm : Room) (as : List VV) (σ : St) (Qc : Array Value → State → Outcome → State → Prop) : Prop :=
  (∀ v ∈ as, okv v) → Met l y (Cond.code y cc nL ret :: TB) rm (va_Pc (as.map (tv G.1)) (fun U => Wd G σ U)) Qc 0 0 (AG G)
theorem Sp_of {G : Gx} {l : Launch} {y : MethodName} {cc : ByteArray} {nL : Nat} {ret : Option FieldType} {rm : Room} {as : List VV} {σ : St} {Qc : Array Value → State → Outcome → State → Prop} {own : String} (hy : plainName y.cls = true) (hown : y.cls = own) (hlen : (lg_sl (as.map (tv G.1))).length ≤ nL)
    (body : ∀ (p : Program) (e : Env) (s : State) (m : MethodId) (args : Array Value) (below : List Frame) (meth : Method) (c : Code), Cx G p s m args meth c ret nL own cc → Rt G p l e rm s m args below meth c 0 0 (MQ below Qc args s 0 0 (AG G)) nL 0 (lva 0 as) [] σ) : Sp G l y cc nL ret rm as σ Qc := by
  intro hok
  refine Met.ofW (cc := cc) (maxL := nL) (ret := ret) hy rfl ?_
  intro p e s m args below meth c s₁ B hml hv
  obtain ⟨rfl, hW⟩ := hv
  have hts := atoms_spec (ws := Cond.code y cc nL ret :: TB) B.pre
  have C : Cx G p s m (as.map (tv G.1)).toArray meth c ret nL own cc := ⟨B.exec, B.bytes, hml, by rw [← hown]; exact findClass_of_methodNamed B.named, fun w h => hts w (List.mem_cons_of_mem _ h), hW.2.1, hW.2.2.1, hW.2.2.2, B.notSynchronized, B.returns⟩
  have hl := lv_entry (as.map (tv G.1)) (n := nL) hlen
  rw [lg_entry_eq]
  rw [lva_map] at hl
  exact body p e s m _ below meth c C (lva_ok hok) (fun v hv => by cases hv) s.heap [] _ hW.1 va_S.rf hl
section CALLS
variable {G : Gx} {p : Program} {l : Launch} {e : Env} {R : Room} {s : State} {m : MethodId} {args : Array Value} {below : List Frame} {meth : Method} {c : Code} {cells slots : Nat} {Q : State → Prop} {nL : Nat} {ret : Option FieldType} {own : String} {cc : ByteArray}
variable {pc : Nat} {ls : List (Nat × VV)} {st st0 : List VV} {σ σ' : St}
variable {y : MethodName} {bytes : ByteArray} {maxL : Nat} {ret' : Option FieldType} {rm : Room} {as : List VV} {index : Nat}
theorem r_ireturn (C : Cx G p s m args meth c (some .int) nL own cc) {post : Int32 → St → Prop} {x : Int32} (hd : decode cc pc = .ok (.ireturn, 1)) (hp : post x σ) : Rt G p l e R s m args below meth c cells slots (MQ below (va_Qi post (Wd G) (AG G)) args s cells slots (AG G)) nL pc ls [vI x] σ := by
  intro hl hs H locs la hP hS hL
  exact W.iret C.1 C.2.1 C.2.2.2.2.2.2.2.2.2 (fun t ht hW => ⟨⟨x, σ, rfl, hp, Wd_of C hP hS ht hW⟩, hS.F ht⟩) hS.2.2 hd (hlocks := C.2.2.2.2.2.2.2.2.1)
theorem r_zreturn {ty : FieldType} (C : Cx G p s m args meth c (some ty) nL own cc) {post : Int32 → St → Prop} {x : Int32} (hd : decode cc pc = .ok (.ireturn, 1)) (hn : narrow ty (.int x) = .int x) (hp : post x σ) : Rt G p l e R s m args below meth c cells slots (MQ below (va_Qi post (Wd G) (AG G)) args s cells slots (AG G)) nL pc ls [vI x] σ := by
  intro hl hs H locs la hP hS hL
  exact W.zret C.1 C.2.1 C.2.2.2.2.2.2.2.2.2 hn (fun t ht hW => ⟨⟨x, σ, rfl, hp, Wd_of C hP hS ht hW⟩, hS.F ht⟩) hS.2.2 hd (hlocks := C.2.2.2.2.2.2.2.2.1)
theorem r_lreturn (C : Cx G p s m args meth c (some .long) nL own cc) {post : Int64 → St → Prop} {x : Int64} (hd : decode cc pc = .ok (.lreturn, 1)) (hp : post x σ) : Rt G p l e R s m args below meth c cells slots (MQ below (va_Ql post (Wd G) (AG G)) args s cells slots (AG G)) nL pc ls [vL x] σ := by
  intro hl hs H locs la hP hS hL
  exact W.lret C.1 C.2.1 C.2.2.2.2.2.2.2.2.2 (fun t ht hW => ⟨⟨x, σ, rfl, hp, Wd_of C hP hS ht hW⟩, hS.F ht⟩) hS.2.2 hd (hlocks := C.2.2.2.2.2.2.2.2.1)
theorem r_return (C : Cx G p s m args meth c none nL own cc) {post : St → Prop} (hd : decode cc pc = .ok (.return_, 1)) (hp : post σ) : Rt G p l e R s m args below meth c cells slots (MQ below (va_Qv post (Wd G) (AG G)) args s cells slots (AG G)) nL pc ls [] σ := by
  intro hl hs H locs la hP hS hL
  exact W.vret C.1 C.2.1 C.2.2.2.2.2.2.2.2.2 (fun t ht hW => ⟨⟨σ, rfl, hp, Wd_of C hP hS ht hW⟩, hS.F ht⟩) hS.2.2 hd (hlocks := C.2.2.2.2.2.2.2.2.1)
/-- an answer that is an object -/
def WdR (G : Gx) (u : St × Id3) (a : Nat) (t : State) : Prop := Wd G u.1 t ∧ a = G.1 u.2 ∧ okv (vR u.2)
theorem r_areturn {rt : FieldType} (C : Cx G p s m args meth c (some rt) nL own cc) {post : St × Id3 → Prop} {x : Id3} (hd : decode cc pc = .ok (.areturn, 1)) (hrt : ∃ n, rt = .object n) (hp : post (σ, x)) : Rt G p l e R s m args below meth c cells slots (MQ below (va_Qr post (WdR G) (AG G)) args s cells slots (AG G)) nL pc ls [vR x] σ := by
  intro hl hs H locs la hP hS hL
  exact W.aret C.1 C.2.1 C.2.2.2.2.2.2.2.2.2 (Or.inl hrt) (Or.inr ⟨_, rfl⟩) (fun t ht hW => ⟨⟨(σ, x), G.1 x, rfl, hp, Wd_of C hP hS ht hW, rfl, ok_h hs⟩, hS.F ht⟩) hS.2.2 hd (hlocks := C.2.2.2.2.2.2.2.2.1)
theorem r_callS_i (C : Cx G p s m args meth c ret nL own cc) {r : Int32} (hd : decode cc pc = .ok (.invokestatic index, 3)) (hM : Sp G l y bytes maxL ret' rm as σ (va_Qi (fun a b => a = r ∧ b = σ') (Wd G) (AG G))) (hw1 : Cond.methodLink own index y ∈ TB) (hw2 : Cond.static y ∈ TB) (hw3 : Cond.initialized y.cls ∈ TB) (hw4 : Cond.code y bytes maxL ret' ∈ TB) (hy : y.cls ≠ "java/lang/invoke/MethodHandle" ∧ y.cls ≠ "java/lang/invoke/VarHandle" ∧ (parseMethodDescriptor y.desc).map (fun d => d.parameters.length) = some as.length) (hR : rm.frames + 1 ≤ R.frames ∧ 8 + (maxL + 11) + rm.locals ≤ R.locals) (hrm : rm.cells = 0 ∧ rm.slots = 0) (hcs : cells ≤ R.cells ∧ slots ≤ R.slots) (h0 : st0 = as.reverse ++ st) (hst : ((st.map (tv G.1)).map fun v => v.category).sum ≤ 8) (k : Rt G p l e R s m args below meth c cells slots Q nL (pc + 3) ls (vI r :: st) σ') : Rt G p l e R s m args below meth c cells slots Q nL pc ls st0 σ := by
  intro hl hs H locs la hP hS hL
  subst h0
  have HA : ∀ v ∈ as, okv v := fun v hv => (ok_a hs).1 v (List.mem_reverse.mpr hv)
  have HR : ∀ v ∈ st, okv v := (ok_a hs).2
  have hM := hM HA
  exact va_calli (va_runS (As := as.map (tv G.1)) (rest := st.map (tv G.1)) (Ts := TB) ⟨C.1, C.2.1, C.2.2.1, C.2.2.2.1, C.2.2.2.2.1⟩ hM ⟨callB_of as.length C.2.2.2.2.1 (TB_good (fun _ h => h) hw4) rfl hrm.1 hrm.2 (C.2.2.2.2.1 _ hw3) (C.2.2.2.2.1 _ hw1) hy hR, C.2.2.2.2.1 _ hw2⟩ ⟨fun a U g mk q => ⟨q.1, Wd_call q.2⟩, fun U hU hW => ⟨rfl, Wd_of C hP hS hU hW⟩⟩ rfl (by simp) hL.1 (by simp [F0]) (lv_room hst) hd hcs) hS (fun q _ h => h) (fun q h => h) (fun r1 u t H1 locs1 ht hvm hpost hB hz hk hS1 => by
    obtain ⟨rfl, rfl⟩ := hpost
    exact k hl (ok_c (v := vI _) trivial HR) H1 locs1 la (by rw [← ht]; exact hB.1) hS1 hL)
theorem r_callN_i (C : Cx G p s m args meth c ret nL own cc) {r : Int32} (hd : decode cc pc = .ok (.invokestatic index, 3)) (hM : Sp G l y bytes maxL ret' rm as σ (va_Qi (fun a b => a = r ∧ b = σ') (Wd G) (AG G))) (hw1 : (own, index, y) ∈ nsM) (hw2 : Cond.static y ∈ TB) (hw3 : Cond.initialized y.cls ∈ TB) (hw4 : Cond.code y bytes maxL ret' ∈ TB) (hy : y.cls ≠ "java/lang/invoke/MethodHandle" ∧ y.cls ≠ "java/lang/invoke/VarHandle" ∧ (parseMethodDescriptor y.desc).map (fun d => d.parameters.length) = some as.length) (hR : rm.frames + 1 ≤ R.frames ∧ 8 + (maxL + 11) + rm.locals ≤ R.locals) (hrm : rm.cells = 0 ∧ rm.slots = 0) (hcs : cells ≤ R.cells ∧ slots ≤ R.slots) (h0 : st0 = as.reverse ++ st) (hst : ((st.map (tv G.1)).map fun v => v.category).sum ≤ 8) (k : Rt G p l e R s m args below meth c cells slots Q nL (pc + 3) ls (vI r :: st) σ') : Rt G p l e R s m args below meth c cells slots Q nL pc ls st0 σ := by
  intro hl hs H locs la hP hS hL
  subst h0
  have HA : ∀ v ∈ as, okv v := fun v hv => (ok_a hs).1 v (List.mem_reverse.mpr hv)
  have HR : ∀ v ∈ st, okv v := (ok_a hs).2
  have hM := hM HA
  exact va_calli (va_runSN (As := as.map (tv G.1)) (rest := st.map (tv G.1)) (Ts := TB) (host := "DropsDance") ⟨C.1, C.2.1, C.2.2.1, C.2.2.2.1, C.2.2.2.2.1⟩ hM ⟨va_cnB as.length C.2.2.2.2.1 (TB_good (fun _ h => h) hw4) rfl hrm.1 hrm.2 (C.2.2.2.2.2.2.2.1.2.2.2.2.2.2.1 _ hw1) (C.2.2.2.2.1 _ hw3) hy hR, C.2.2.2.2.1 _ hw2, trivial⟩ ⟨fun a U g mk q => ⟨q.1, Wd_call q.2⟩, fun U hU hW => ⟨rfl, Wd_of C hP hS hU hW⟩⟩ rfl (by simp) hL.1 (by simp [F0]) (lv_room hst) hd hcs) hS (fun q _ h => h) (fun q h => h) (fun r1 u t H1 locs1 ht hvm hpost hB hz hk hS1 => by
    obtain ⟨rfl, rfl⟩ := hpost
    exact k hl (ok_c (v := vI _) trivial HR) H1 locs1 la (by rw [← ht]; exact hB.1) hS1 hL)
theorem r_callV_i (C : Cx G p s m args meth c ret nL own cc) {r : Int32} {d : Id3} {ci N : Nat} {E : String} {T : u_T} (hd : decode cc pc = .ok (.invokevirtual index, 3)) (hM : Sp G l y bytes maxL ret' rm (vR d :: as) σ (va_Qi (fun a b => a = r ∧ b = σ') (Wd G) (AG G))) (hk : dk d.1 = (0, ci, N)) (hc : vwCl[ci]? = some (E, T, N)) (hE : y.cls = E) (hw1 : Cond.methodLink own index y ∈ TB) (hw2 : Cond.instanceMethod y ∈ TB) (hw5 : Cond.selects E y y ∈ TB) (hw3 : Cond.initialized y.cls ∈ TB) (hw4 : Cond.code y bytes maxL ret' ∈ TB) (hy : y.cls ≠ "java/lang/invoke/MethodHandle" ∧ y.cls ≠ "java/lang/invoke/VarHandle" ∧ (parseMethodDescriptor y.desc).map (fun d => d.parameters.length) = some as.length) (hR : rm.frames + 1 ≤ R.frames ∧ 8 + (maxL + 11) + rm.locals ≤ R.locals) (hrm : rm.cells = 0 ∧ rm.slots = 0) (hcs : cells ≤ R.cells ∧ slots ≤ R.slots) (h0 : st0 = as.reverse ++ (vR d :: st)) (hst : ((st.map (tv G.1)).map fun v => v.category).sum ≤ 8) (k : Rt G p l e R s m args below meth c cells slots Q nL (pc + 3) ls (vI r :: st) σ') : Rt G p l e R s m args below meth c cells slots Q nL pc ls st0 σ := by
  intro hl hs H locs la hP hS hL
  subst h0
  have HD : okv (vR d) := ok_h (ok_a hs).2
  have HA : ∀ v ∈ vR d :: as, okv v := ok_c HD (fun v hv => (ok_a hs).1 v (List.mem_reverse.mpr hv))
  have HR : ∀ v ∈ st, okv v := ok_t (ok_a hs).2
  have hM := hM HA
  obtain ⟨kk, g1, g2⟩ := ws_at (G := G) (HD (dk_lt hk (by decide))) σ
  rw [en_O hk] at g2
  exact va_calli (va_runV (C := E) (b := G.1 d) (As := as.map (tv G.1)) (rest := st.map (tv G.1)) (Ts := TB) ⟨C.1, C.2.1, C.2.2.1, C.2.2.2.1, C.2.2.2.2.1⟩ hM ⟨callB_of as.length C.2.2.2.2.1 (TB_good (fun _ h => h) hw4) rfl hrm.1 hrm.2 (C.2.2.2.2.1 _ hw3) (C.2.2.2.2.1 _ hw1) hy hR, C.2.2.2.2.1 _ hw2, C.2.2.2.2.1 _ hw5⟩ ⟨fun a U g mk q => ⟨q.1, Wd_call q.2⟩, va_recv C.2.2.2.2.2.1 hP hc g2, fun U hU hW => ⟨rfl, Wd_of C hP hS hU hW⟩⟩ rfl (by simp) hL.1 (by simp [F0, tv]) (lv_room hst) hd hcs) hS (fun q _ h => h) (fun q h => h) (fun r1 u t H1 locs1 ht hvm hpost hB hz hk hS1 => by
    obtain ⟨rfl, rfl⟩ := hpost
    exact k hl (ok_c (v := vI _) trivial HR) H1 locs1 la (by rw [← ht]; exact hB.1) hS1 hL)
theorem r_callS_l (C : Cx G p s m args meth c ret nL own cc) {r : Int64} (hd : decode cc pc = .ok (.invokestatic index, 3)) (hM : Sp G l y bytes maxL ret' rm as σ (va_Ql (fun a b => a = r ∧ b = σ') (Wd G) (AG G))) (hw1 : Cond.methodLink own index y ∈ TB) (hw2 : Cond.static y ∈ TB) (hw3 : Cond.initialized y.cls ∈ TB) (hw4 : Cond.code y bytes maxL ret' ∈ TB) (hy : y.cls ≠ "java/lang/invoke/MethodHandle" ∧ y.cls ≠ "java/lang/invoke/VarHandle" ∧ (parseMethodDescriptor y.desc).map (fun d => d.parameters.length) = some as.length) (hR : rm.frames + 1 ≤ R.frames ∧ 8 + (maxL + 11) + rm.locals ≤ R.locals) (hrm : rm.cells = 0 ∧ rm.slots = 0) (hcs : cells ≤ R.cells ∧ slots ≤ R.slots) (h0 : st0 = as.reverse ++ st) (hst : ((st.map (tv G.1)).map fun v => v.category).sum ≤ 8) (k : Rt G p l e R s m args below meth c cells slots Q nL (pc + 3) ls (vL r :: st) σ') : Rt G p l e R s m args below meth c cells slots Q nL pc ls st0 σ := by
  intro hl hs H locs la hP hS hL
  subst h0
  have HA : ∀ v ∈ as, okv v := fun v hv => (ok_a hs).1 v (List.mem_reverse.mpr hv)
  have HR : ∀ v ∈ st, okv v := (ok_a hs).2
  have hM := hM HA
  exact va_calll (va_runS (As := as.map (tv G.1)) (rest := st.map (tv G.1)) (Ts := TB) ⟨C.1, C.2.1, C.2.2.1, C.2.2.2.1, C.2.2.2.2.1⟩ hM ⟨callB_of as.length C.2.2.2.2.1 (TB_good (fun _ h => h) hw4) rfl hrm.1 hrm.2 (C.2.2.2.2.1 _ hw3) (C.2.2.2.2.1 _ hw1) hy hR, C.2.2.2.2.1 _ hw2⟩ ⟨fun a U g mk q => ⟨q.1, Wd_call q.2⟩, fun U hU hW => ⟨rfl, Wd_of C hP hS hU hW⟩⟩ rfl (by simp) hL.1 (by simp [F0]) (lv_room hst) hd hcs) hS (fun q _ h => h) (fun q h => h) (fun r1 u t H1 locs1 ht hvm hpost hB hz hk hS1 => by
    obtain ⟨rfl, rfl⟩ := hpost
    exact k hl (ok_c (v := vL _) trivial HR) H1 locs1 la (by rw [← ht]; exact hB.1) hS1 hL)
theorem r_callN_l (C : Cx G p s m args meth c ret nL own cc) {r : Int64} (hd : decode cc pc = .ok (.invokestatic index, 3)) (hM : Sp G l y bytes maxL ret' rm as σ (va_Ql (fun a b => a = r ∧ b = σ') (Wd G) (AG G))) (hw1 : (own, index, y) ∈ nsM) (hw2 : Cond.static y ∈ TB) (hw3 : Cond.initialized y.cls ∈ TB) (hw4 : Cond.code y bytes maxL ret' ∈ TB) (hy : y.cls ≠ "java/lang/invoke/MethodHandle" ∧ y.cls ≠ "java/lang/invoke/VarHandle" ∧ (parseMethodDescriptor y.desc).map (fun d => d.parameters.length) = some as.length) (hR : rm.frames + 1 ≤ R.frames ∧ 8 + (maxL + 11) + rm.locals ≤ R.locals) (hrm : rm.cells = 0 ∧ rm.slots = 0) (hcs : cells ≤ R.cells ∧ slots ≤ R.slots) (h0 : st0 = as.reverse ++ st) (hst : ((st.map (tv G.1)).map fun v => v.category).sum ≤ 8) (k : Rt G p l e R s m args below meth c cells slots Q nL (pc + 3) ls (vL r :: st) σ') : Rt G p l e R s m args below meth c cells slots Q nL pc ls st0 σ := by
  intro hl hs H locs la hP hS hL
  subst h0
  have HA : ∀ v ∈ as, okv v := fun v hv => (ok_a hs).1 v (List.mem_reverse.mpr hv)
  have HR : ∀ v ∈ st, okv v := (ok_a hs).2
  have hM := hM HA
  exact va_calll (va_runSN (As := as.map (tv G.1)) (rest := st.map (tv G.1)) (Ts := TB) (host := "DropsDance") ⟨C.1, C.2.1, C.2.2.1, C.2.2.2.1, C.2.2.2.2.1⟩ hM ⟨va_cnB as.length C.2.2.2.2.1 (TB_good (fun _ h => h) hw4) rfl hrm.1 hrm.2 (C.2.2.2.2.2.2.2.1.2.2.2.2.2.2.1 _ hw1) (C.2.2.2.2.1 _ hw3) hy hR, C.2.2.2.2.1 _ hw2, trivial⟩ ⟨fun a U g mk q => ⟨q.1, Wd_call q.2⟩, fun U hU hW => ⟨rfl, Wd_of C hP hS hU hW⟩⟩ rfl (by simp) hL.1 (by simp [F0]) (lv_room hst) hd hcs) hS (fun q _ h => h) (fun q h => h) (fun r1 u t H1 locs1 ht hvm hpost hB hz hk hS1 => by
    obtain ⟨rfl, rfl⟩ := hpost
    exact k hl (ok_c (v := vL _) trivial HR) H1 locs1 la (by rw [← ht]; exact hB.1) hS1 hL)
theorem r_callV_l (C : Cx G p s m args meth c ret nL own cc) {r : Int64} {d : Id3} {ci N : Nat} {E : String} {T : u_T} (hd : decode cc pc = .ok (.invokevirtual index, 3)) (hM : Sp G l y bytes maxL ret' rm (vR d :: as) σ (va_Ql (fun a b => a = r ∧ b = σ') (Wd G) (AG G))) (hk : dk d.1 = (0, ci, N)) (hc : vwCl[ci]? = some (E, T, N)) (hE : y.cls = E) (hw1 : Cond.methodLink own index y ∈ TB) (hw2 : Cond.instanceMethod y ∈ TB) (hw5 : Cond.selects E y y ∈ TB) (hw3 : Cond.initialized y.cls ∈ TB) (hw4 : Cond.code y bytes maxL ret' ∈ TB) (hy : y.cls ≠ "java/lang/invoke/MethodHandle" ∧ y.cls ≠ "java/lang/invoke/VarHandle" ∧ (parseMethodDescriptor y.desc).map (fun d => d.parameters.length) = some as.length) (hR : rm.frames + 1 ≤ R.frames ∧ 8 + (maxL + 11) + rm.locals ≤ R.locals) (hrm : rm.cells = 0 ∧ rm.slots = 0) (hcs : cells ≤ R.cells ∧ slots ≤ R.slots) (h0 : st0 = as.reverse ++ (vR d :: st)) (hst : ((st.map (tv G.1)).map fun v => v.category).sum ≤ 8) (k : Rt G p l e R s m args below meth c cells slots Q nL (pc + 3) ls (vL r :: st) σ') : Rt G p l e R s m args below meth c cells slots Q nL pc ls st0 σ := by
  intro hl hs H locs la hP hS hL
  subst h0
  have HD : okv (vR d) := ok_h (ok_a hs).2
  have HA : ∀ v ∈ vR d :: as, okv v := ok_c HD (fun v hv => (ok_a hs).1 v (List.mem_reverse.mpr hv))
  have HR : ∀ v ∈ st, okv v := ok_t (ok_a hs).2
  have hM := hM HA
  obtain ⟨kk, g1, g2⟩ := ws_at (G := G) (HD (dk_lt hk (by decide))) σ
  rw [en_O hk] at g2
  exact va_calll (va_runV (C := E) (b := G.1 d) (As := as.map (tv G.1)) (rest := st.map (tv G.1)) (Ts := TB) ⟨C.1, C.2.1, C.2.2.1, C.2.2.2.1, C.2.2.2.2.1⟩ hM ⟨callB_of as.length C.2.2.2.2.1 (TB_good (fun _ h => h) hw4) rfl hrm.1 hrm.2 (C.2.2.2.2.1 _ hw3) (C.2.2.2.2.1 _ hw1) hy hR, C.2.2.2.2.1 _ hw2, C.2.2.2.2.1 _ hw5⟩ ⟨fun a U g mk q => ⟨q.1, Wd_call q.2⟩, va_recv C.2.2.2.2.2.1 hP hc g2, fun U hU hW => ⟨rfl, Wd_of C hP hS hU hW⟩⟩ rfl (by simp) hL.1 (by simp [F0, tv]) (lv_room hst) hd hcs) hS (fun q _ h => h) (fun q h => h) (fun r1 u t H1 locs1 ht hvm hpost hB hz hk hS1 => by
    obtain ⟨rfl, rfl⟩ := hpost
    exact k hl (ok_c (v := vL _) trivial HR) H1 locs1 la (by rw [← ht]; exact hB.1) hS1 hL)
theorem r_callS_v (C : Cx G p s m args meth c ret nL own cc)  (hd : decode cc pc = .ok (.invokestatic index, 3)) (hM : Sp G l y bytes maxL ret' rm as σ (va_Qv (fun b => b = σ') (Wd G) (AG G))) (hw1 : Cond.methodLink own index y ∈ TB) (hw2 : Cond.static y ∈ TB) (hw3 : Cond.initialized y.cls ∈ TB) (hw4 : Cond.code y bytes maxL ret' ∈ TB) (hy : y.cls ≠ "java/lang/invoke/MethodHandle" ∧ y.cls ≠ "java/lang/invoke/VarHandle" ∧ (parseMethodDescriptor y.desc).map (fun d => d.parameters.length) = some as.length) (hR : rm.frames + 1 ≤ R.frames ∧ 8 + (maxL + 11) + rm.locals ≤ R.locals) (hrm : rm.cells = 0 ∧ rm.slots = 0) (hcs : cells ≤ R.cells ∧ slots ≤ R.slots) (h0 : st0 = as.reverse ++ st) (hst : ((st.map (tv G.1)).map fun v => v.category).sum ≤ 8) (k : Rt G p l e R s m args below meth c cells slots Q nL (pc + 3) ls st σ') : Rt G p l e R s m args below meth c cells slots Q nL pc ls st0 σ := by
  intro hl hs H locs la hP hS hL
  subst h0
  have HA : ∀ v ∈ as, okv v := fun v hv => (ok_a hs).1 v (List.mem_reverse.mpr hv)
  have HR : ∀ v ∈ st, okv v := (ok_a hs).2
  have hM := hM HA
  exact va_callv (va_runS (As := as.map (tv G.1)) (rest := st.map (tv G.1)) (Ts := TB) ⟨C.1, C.2.1, C.2.2.1, C.2.2.2.1, C.2.2.2.2.1⟩ hM ⟨callB_of as.length C.2.2.2.2.1 (TB_good (fun _ h => h) hw4) rfl hrm.1 hrm.2 (C.2.2.2.2.1 _ hw3) (C.2.2.2.2.1 _ hw1) hy hR, C.2.2.2.2.1 _ hw2⟩ ⟨fun a U g mk q => ⟨q.1, Wd_call q.2⟩, fun U hU hW => ⟨rfl, Wd_of C hP hS hU hW⟩⟩ rfl (by simp) hL.1 (by simp [F0]) (lv_room hst) hd hcs) hS (fun q _ h => h) (fun q h => h) (fun u t H1 locs1 ht hvm hpost hB hz hk hS1 => by
    subst hpost
    exact k hl HR H1 locs1 la (by rw [← ht]; exact hB.1) hS1 hL)
theorem r_callN_v (C : Cx G p s m args meth c ret nL own cc)  (hd : decode cc pc = .ok (.invokestatic index, 3)) (hM : Sp G l y bytes maxL ret' rm as σ (va_Qv (fun b => b = σ') (Wd G) (AG G))) (hw1 : (own, index, y) ∈ nsM) (hw2 : Cond.static y ∈ TB) (hw3 : Cond.initialized y.cls ∈ TB) (hw4 : Cond.code y bytes maxL ret' ∈ TB) (hy : y.cls ≠ "java/lang/invoke/MethodHandle" ∧ y.cls ≠ "java/lang/invoke/VarHandle" ∧ (parseMethodDescriptor y.desc).map (fun d => d.parameters.length) = some as.length) (hR : rm.frames + 1 ≤ R.frames ∧ 8 + (maxL + 11) + rm.locals ≤ R.locals) (hrm : rm.cells = 0 ∧ rm.slots = 0) (hcs : cells ≤ R.cells ∧ slots ≤ R.slots) (h0 : st0 = as.reverse ++ st) (hst : ((st.map (tv G.1)).map fun v => v.category).sum ≤ 8) (k : Rt G p l e R s m args below meth c cells slots Q nL (pc + 3) ls st σ') : Rt G p l e R s m args below meth c cells slots Q nL pc ls st0 σ := by
  intro hl hs H locs la hP hS hL
  subst h0
  have HA : ∀ v ∈ as, okv v := fun v hv => (ok_a hs).1 v (List.mem_reverse.mpr hv)
  have HR : ∀ v ∈ st, okv v := (ok_a hs).2
  have hM := hM HA
  exact va_callv (va_runSN (As := as.map (tv G.1)) (rest := st.map (tv G.1)) (Ts := TB) (host := "DropsDance") ⟨C.1, C.2.1, C.2.2.1, C.2.2.2.1, C.2.2.2.2.1⟩ hM ⟨va_cnB as.length C.2.2.2.2.1 (TB_good (fun _ h => h) hw4) rfl hrm.1 hrm.2 (C.2.2.2.2.2.2.2.1.2.2.2.2.2.2.1 _ hw1) (C.2.2.2.2.1 _ hw3) hy hR, C.2.2.2.2.1 _ hw2, trivial⟩ ⟨fun a U g mk q => ⟨q.1, Wd_call q.2⟩, fun U hU hW => ⟨rfl, Wd_of C hP hS hU hW⟩⟩ rfl (by simp) hL.1 (by simp [F0]) (lv_room hst) hd hcs) hS (fun q _ h => h) (fun q h => h) (fun u t H1 locs1 ht hvm hpost hB hz hk hS1 => by
    subst hpost
    exact k hl HR H1 locs1 la (by rw [← ht]; exact hB.1) hS1 hL)
theorem r_callV_v (C : Cx G p s m args meth c ret nL own cc)  {d : Id3} {ci N : Nat} {E : String} {T : u_T} (hd : decode cc pc = .ok (.invokevirtual index, 3)) (hM : Sp G l y bytes maxL ret' rm (vR d :: as) σ (va_Qv (fun b => b = σ') (Wd G) (AG G))) (hk : dk d.1 = (0, ci, N)) (hc : vwCl[ci]? = some (E, T, N)) (hE : y.cls = E) (hw1 : Cond.methodLink own index y ∈ TB) (hw2 : Cond.instanceMethod y ∈ TB) (hw5 : Cond.selects E y y ∈ TB) (hw3 : Cond.initialized y.cls ∈ TB) (hw4 : Cond.code y bytes maxL ret' ∈ TB) (hy : y.cls ≠ "java/lang/invoke/MethodHandle" ∧ y.cls ≠ "java/lang/invoke/VarHandle" ∧ (parseMethodDescriptor y.desc).map (fun d => d.parameters.length) = some as.length) (hR : rm.frames + 1 ≤ R.frames ∧ 8 + (maxL + 11) + rm.locals ≤ R.locals) (hrm : rm.cells = 0 ∧ rm.slots = 0) (hcs : cells ≤ R.cells ∧ slots ≤ R.slots) (h0 : st0 = as.reverse ++ (vR d :: st)) (hst : ((st.map (tv G.1)).map fun v => v.category).sum ≤ 8) (k : Rt G p l e R s m args below meth c cells slots Q nL (pc + 3) ls st σ') : Rt G p l e R s m args below meth c cells slots Q nL pc ls st0 σ := by
  intro hl hs H locs la hP hS hL
  subst h0
  have HD : okv (vR d) := ok_h (ok_a hs).2
  have HA : ∀ v ∈ vR d :: as, okv v := ok_c HD (fun v hv => (ok_a hs).1 v (List.mem_reverse.mpr hv))
  have HR : ∀ v ∈ st, okv v := ok_t (ok_a hs).2
  have hM := hM HA
  obtain ⟨kk, g1, g2⟩ := ws_at (G := G) (HD (dk_lt hk (by decide))) σ
  rw [en_O hk] at g2
  exact va_callv (va_runV (C := E) (b := G.1 d) (As := as.map (tv G.1)) (rest := st.map (tv G.1)) (Ts := TB) ⟨C.1, C.2.1, C.2.2.1, C.2.2.2.1, C.2.2.2.2.1⟩ hM ⟨callB_of as.length C.2.2.2.2.1 (TB_good (fun _ h => h) hw4) rfl hrm.1 hrm.2 (C.2.2.2.2.1 _ hw3) (C.2.2.2.2.1 _ hw1) hy hR, C.2.2.2.2.1 _ hw2, C.2.2.2.2.1 _ hw5⟩ ⟨fun a U g mk q => ⟨q.1, Wd_call q.2⟩, va_recv C.2.2.2.2.2.1 hP hc g2, fun U hU hW => ⟨rfl, Wd_of C hP hS hU hW⟩⟩ rfl (by simp) hL.1 (by simp [F0, tv]) (lv_room hst) hd hcs) hS (fun q _ h => h) (fun q h => h) (fun u t H1 locs1 ht hvm hpost hB hz hk hS1 => by
    subst hpost
    exact k hl HR H1 locs1 la (by rw [← ht]; exact hB.1) hS1 hL)
theorem r_callS_r (C : Cx G p s m args meth c ret nL own cc) {r : Id3} (hd : decode cc pc = .ok (.invokestatic index, 3)) (hM : Sp G l y bytes maxL ret' rm as σ (va_Qr (fun b => b = (σ', r)) (WdR G) (AG G))) (hw1 : Cond.methodLink own index y ∈ TB) (hw2 : Cond.static y ∈ TB) (hw3 : Cond.initialized y.cls ∈ TB) (hw4 : Cond.code y bytes maxL ret' ∈ TB) (hy : y.cls ≠ "java/lang/invoke/MethodHandle" ∧ y.cls ≠ "java/lang/invoke/VarHandle" ∧ (parseMethodDescriptor y.desc).map (fun d => d.parameters.length) = some as.length) (hR : rm.frames + 1 ≤ R.frames ∧ 8 + (maxL + 11) + rm.locals ≤ R.locals) (hrm : rm.cells = 0 ∧ rm.slots = 0) (hcs : cells ≤ R.cells ∧ slots ≤ R.slots) (h0 : st0 = as.reverse ++ st) (hst : ((st.map (tv G.1)).map fun v => v.category).sum ≤ 8) (k : Rt G p l e R s m args below meth c cells slots Q nL (pc + 3) ls (vR r :: st) σ') : Rt G p l e R s m args below meth c cells slots Q nL pc ls st0 σ := by
  intro hl hs H locs la hP hS hL
  subst h0
  have HA : ∀ v ∈ as, okv v := fun v hv => (ok_a hs).1 v (List.mem_reverse.mpr hv)
  have HR : ∀ v ∈ st, okv v := (ok_a hs).2
  have hM := hM HA
  exact va_callr (va_runS (As := as.map (tv G.1)) (rest := st.map (tv G.1)) (Ts := TB) ⟨C.1, C.2.1, C.2.2.1, C.2.2.2.1, C.2.2.2.2.1⟩ hM ⟨callB_of as.length C.2.2.2.2.1 (TB_good (fun _ h => h) hw4) rfl hrm.1 hrm.2 (C.2.2.2.2.1 _ hw3) (C.2.2.2.2.1 _ hw1) hy hR, C.2.2.2.2.1 _ hw2⟩ ⟨fun a U g mk q => ⟨q.1, Wd_call q.2⟩, fun U hU hW => ⟨rfl, Wd_of C hP hS hU hW⟩⟩ rfl (by simp) hL.1 (by simp [F0]) (lv_room hst) hd hcs) hS (fun q _ h => h) (fun q h => h) (fun u ra t H1 locs1 ht hvm hpost hB hz hk hS1 => by
    subst hpost
    obtain ⟨hB1, rfl, hB3⟩ := hB
    exact k hl (ok_c hB3 HR) H1 locs1 la (by rw [← ht]; exact hB1.1) hS1 hL)
theorem r_callN_r (C : Cx G p s m args meth c ret nL own cc) {r : Id3} (hd : decode cc pc = .ok (.invokestatic index, 3)) (hM : Sp G l y bytes maxL ret' rm as σ (va_Qr (fun b => b = (σ', r)) (WdR G) (AG G))) (hw1 : (own, index, y) ∈ nsM) (hw2 : Cond.static y ∈ TB) (hw3 : Cond.initialized y.cls ∈ TB) (hw4 : Cond.code y bytes maxL ret' ∈ TB) (hy : y.cls ≠ "java/lang/invoke/MethodHandle" ∧ y.cls ≠ "java/lang/invoke/VarHandle" ∧ (parseMethodDescriptor y.desc).map (fun d => d.parameters.length) = some as.length) (hR : rm.frames + 1 ≤ R.frames ∧ 8 + (maxL + 11) + rm.locals ≤ R.locals) (hrm : rm.cells = 0 ∧ rm.slots = 0) (hcs : cells ≤ R.cells ∧ slots ≤ R.slots) (h0 : st0 = as.reverse ++ st) (hst : ((st.map (tv G.1)).map fun v => v.category).sum ≤ 8) (k : Rt G p l e R s m args below meth c cells slots Q nL (pc + 3) ls (vR r :: st) σ') : Rt G p l e R s m args below meth c cells slots Q nL pc ls st0 σ := by
  intro hl hs H locs la hP hS hL
  subst h0
  have HA : ∀ v ∈ as, okv v := fun v hv => (ok_a hs).1 v (List.mem_reverse.mpr hv)
  have HR : ∀ v ∈ st, okv v := (ok_a hs).2
  have hM := hM HA
  exact va_callr (va_runSN (As := as.map (tv G.1)) (rest := st.map (tv G.1)) (Ts := TB) (host := "DropsDance") ⟨C.1, C.2.1, C.2.2.1, C.2.2.2.1, C.2.2.2.2.1⟩ hM ⟨va_cnB as.length C.2.2.2.2.1 (TB_good (fun _ h => h) hw4) rfl hrm.1 hrm.2 (C.2.2.2.2.2.2.2.1.2.2.2.2.2.2.1 _ hw1) (C.2.2.2.2.1 _ hw3) hy hR, C.2.2.2.2.1 _ hw2, trivial⟩ ⟨fun a U g mk q => ⟨q.1, Wd_call q.2⟩, fun U hU hW => ⟨rfl, Wd_of C hP hS hU hW⟩⟩ rfl (by simp) hL.1 (by simp [F0]) (lv_room hst) hd hcs) hS (fun q _ h => h) (fun q h => h) (fun u ra t H1 locs1 ht hvm hpost hB hz hk hS1 => by
    subst hpost
    obtain ⟨hB1, rfl, hB3⟩ := hB
    exact k hl (ok_c hB3 HR) H1 locs1 la (by rw [← ht]; exact hB1.1) hS1 hL)
theorem r_callV_r (C : Cx G p s m args meth c ret nL own cc) {r : Id3} {d : Id3} {ci N : Nat} {E : String} {T : u_T} (hd : decode cc pc = .ok (.invokevirtual index, 3)) (hM : Sp G l y bytes maxL ret' rm (vR d :: as) σ (va_Qr (fun b => b = (σ', r)) (WdR G) (AG G))) (hk : dk d.1 = (0, ci, N)) (hc : vwCl[ci]? = some (E, T, N)) (hE : y.cls = E) (hw1 : Cond.methodLink own index y ∈ TB) (hw2 : Cond.instanceMethod y ∈ TB) (hw5 : Cond.selects E y y ∈ TB) (hw3 : Cond.initialized y.cls ∈ TB) (hw4 : Cond.code y bytes maxL ret' ∈ TB) (hy : y.cls ≠ "java/lang/invoke/MethodHandle" ∧ y.cls ≠ "java/lang/invoke/VarHandle" ∧ (parseMethodDescriptor y.desc).map (fun d => d.parameters.length) = some as.length) (hR : rm.frames + 1 ≤ R.frames ∧ 8 + (maxL + 11) + rm.locals ≤ R.locals) (hrm : rm.cells = 0 ∧ rm.slots = 0) (hcs : cells ≤ R.cells ∧ slots ≤ R.slots) (h0 : st0 = as.reverse ++ (vR d :: st)) (hst : ((st.map (tv G.1)).map fun v => v.category).sum ≤ 8) (k : Rt G p l e R s m args below meth c cells slots Q nL (pc + 3) ls (vR r :: st) σ') : Rt G p l e R s m args below meth c cells slots Q nL pc ls st0 σ := by
  intro hl hs H locs la hP hS hL
  subst h0
  have HD : okv (vR d) := ok_h (ok_a hs).2
  have HA : ∀ v ∈ vR d :: as, okv v := ok_c HD (fun v hv => (ok_a hs).1 v (List.mem_reverse.mpr hv))
  have HR : ∀ v ∈ st, okv v := ok_t (ok_a hs).2
  have hM := hM HA
  obtain ⟨kk, g1, g2⟩ := ws_at (G := G) (HD (dk_lt hk (by decide))) σ
  rw [en_O hk] at g2
  exact va_callr (va_runV (C := E) (b := G.1 d) (As := as.map (tv G.1)) (rest := st.map (tv G.1)) (Ts := TB) ⟨C.1, C.2.1, C.2.2.1, C.2.2.2.1, C.2.2.2.2.1⟩ hM ⟨callB_of as.length C.2.2.2.2.1 (TB_good (fun _ h => h) hw4) rfl hrm.1 hrm.2 (C.2.2.2.2.1 _ hw3) (C.2.2.2.2.1 _ hw1) hy hR, C.2.2.2.2.1 _ hw2, C.2.2.2.2.1 _ hw5⟩ ⟨fun a U g mk q => ⟨q.1, Wd_call q.2⟩, va_recv C.2.2.2.2.2.1 hP hc g2, fun U hU hW => ⟨rfl, Wd_of C hP hS hU hW⟩⟩ rfl (by simp) hL.1 (by simp [F0, tv]) (lv_room hst) hd hcs) hS (fun q _ h => h) (fun q h => h) (fun u ra t H1 locs1 ht hvm hpost hB hz hk hS1 => by
    subst hpost
    obtain ⟨hB1, rfl, hB3⟩ := hB
    exact k hl (ok_c hB3 HR) H1 locs1 la (by rw [← ht]; exact hB1.1) hS1 hL)
end CALLS
