theorem fvS_put {ad : Id3 → Nat} {m : Nat} {σ : St} {d : Id3} {k N : Nat} {v : Int32} (hr : rk d.1 k = false) : ((List.range N).map (fvS ad m σ d)).set k (.int v) = (List.range N).map (fvS ad m (uI σ d k v) d) := by
  apply List.ext_getElem?
  intro j
  by_cases hj : j = k
  · subst hj
    rw [List.getElem?_set]
    simp only [if_true]
    by_cases hl : j < N
    · simp [hl, fvS, hr, uI]
    · simp [hl]
  · rw [List.getElem?_set_ne (Ne.symm hj)]
    by_cases hl : j < N
    · simp [hl, hj, fvS, uI]
    · simp [hl]
theorem fvS_ref {ad : Id3 → Nat} {m : Nat} {σ : St} {d : Id3} {k N : Nat} (hr : rk d.1 k = true) (hs : aso[m]? = some (d, k)) : ((List.range N).map (fvS ad m σ d)).set k (.ref (ad (rf d k))) = (List.range N).map (fvS ad (m + 1) σ d) := by
  apply List.ext_getElem?
  intro j
  by_cases hj : j = k
  · subst hj
    rw [List.getElem?_set]
    simp only [if_true]
    by_cases hl : j < N
    · simp [hl, fvS, hr, asd_succ hs]
    · simp [hl]
  · rw [List.getElem?_set_ne (Ne.symm hj)]
    by_cases hl : j < N
    · simp [hl, hj, fvS, asd_succ hs]
    · simp [hl]
theorem rqS_up {ad : Id3 → Nat} {m : Nat} {d : Id3} {j : Nat} (hs : aso[m]? = some (d, j)) : va_up (rqS ad m d) j (some (ad (el d j))) = rqS ad (m + 1) d := by
  funext i
  by_cases hi : i = j
  · subst hi; simp [va_up, rqS, asd_succ hs]
  · simp [va_up, rqS, asd_succ hs, hi]
theorem WdS_of {G : Gx} {z n0 : Nat} {p : Program} {s : State} {m : MethodId} {args : Array Value} {meth : Method} {c : Code} {ret : Option FieldType} {nL : Nat} {own : String} {cc : ByteArray} (C : Cs G z n0 p s m args meth c ret nL own cc) {n k : Nat} {σ : St} {H : Heap} {locs : List Loc} (hsz : H.size = z + n) (hP : va_P G.2.1 vwCl (wsZ G n k σ) H) (hS : va_S (AZ z) s.heap H locs) {U : State} (hU : U.heap = H) (hW : s.WarmedH U.vm) : WdS G z n k σ U := by
  obtain ⟨-, -, -, -, -, hK, hA, hE, -, -, -⟩ := C
  subst hU
  exact ⟨hsz, hP, hK.moved hW.alike, hA, (hE.kept hS.2.1).warm hW⟩
theorem WdS_call {G : Gx} {z n k : Nat} {σ : St} {U : State} {g : JFrame} {mk : MethodId} {a : Array Value} (h : WdS G z n k σ U) : WdS G z n k σ (U.calling g mk a) :=
  ⟨h.1, h.2.1, va_K.moved (u := U) (U := U.calling g mk a) (Vm.Alike.refl U.vm) h.2.2.1, h.2.2.2.1, h.2.2.2.2.same (U := U.calling g mk a) rfl⟩
def SpS (G : Gx) (z : Nat) (l : Launch) (y : MethodName) (cc : ByteArray) (nL : Nat) (ret : Option FieldType) (rm : Room) (n0 k0 : Nat) (as : List VV) (σ : St) (Qc : Array Value → State → Outcome → State → Prop) (mc ms : Nat) : Prop :=
  Met l y (Cond.code y cc nL ret :: TB) rm (va_Pc (as.map (tv G.1)) (fun U => WdS G z n0 k0 σ U)) Qc mc ms (AZ z)
theorem SpS_of {G : Gx} {z : Nat} {l : Launch} {y : MethodName} {cc : ByteArray} {nL : Nat} {ret : Option FieldType} {rm : Room} {n0 k0 : Nat} {as : List VV} {σ : St} {Qc : Array Value → State → Outcome → State → Prop} {mc ms : Nat} {own : String} (hy : plainName y.cls = true) (hown : y.cls = own) (hlen : (lg_sl (as.map (tv G.1))).length ≤ nL)
    (body : ∀ (p : Program) (e : Env) (s : State) (m : MethodId) (args : Array Value) (below : List Frame) (meth : Method) (c : Code), Cs G z n0 p s m args meth c ret nL own cc → meth.name = y.name → Rs G z p l e rm s m args below meth c (MQ below Qc args s mc ms (AZ z)) nL 0 0 n0 k0 0 (lva 0 as) [] σ) : SpS G z l y cc nL ret rm n0 k0 as σ Qc mc ms := by
  refine Met.ofW (cc := cc) (maxL := nL) (ret := ret) hy rfl ?_
  intro p e s m args below meth c s₁ B hml hv
  obtain ⟨rfl, hW⟩ := hv
  have hts := atoms_spec (ws := Cond.code y cc nL ret :: TB) B.pre
  have C : Cs G z n0 p s m (as.map (tv G.1)).toArray meth c ret nL own cc := ⟨B.exec, B.bytes, hml, by rw [← hown]; exact findClass_of_methodNamed B.named, fun w h => hts w (List.mem_cons_of_mem _ h), hW.2.2.1, hW.2.2.2.1, hW.2.2.2.2, B.notSynchronized, B.returns, hW.1⟩
  have hl := lv_entry (as.map (tv G.1)) (n := nL) hlen
  rw [lg_entry_eq]
  rw [lva_map] at hl
  exact body p e s m _ below meth c C (name_of_methodNamed B.named B.method).1 s.heap [] _ hW.2.1 va_S.rf hl
section RS2
variable {G : Gx} {z n0 : Nat} {p : Program} {l : Launch} {e : Env} {R : Room} {s : State} {m : MethodId} {args : Array Value} {below : List Frame} {meth : Method} {c : Code} {Q : State → Prop} {nL : Nat} {ret : Option FieldType} {own : String} {cc : ByteArray}
variable {cells slots n k : Nat} {pc : Nat} {ls : List (Nat × VV)} {st st0 : List VV} {σ σ' : St}
variable {y : MethodName} {bytes : ByteArray} {maxL : Nat} {rm : Room} {as : List VV} {index : Nat}
theorem s_putI (C : Cs G z n0 p s m args meth c ret nL own cc) {d : Id3} {i ci N kf : Nat} {E : String} {T : u_T} {ty0 : Nat → FieldType} {x : Int32} (hd : decode cc pc = .ok (.putfield index, 3)) (ha : alo[i]? = some d) (hi : i < n) (hk : dk d.1 = (0, ci, N)) (hc : vwCl[ci]? = some (E, T, N)) (hin : ∀ w ∈ u_ws E T N, w ∈ TB) (hty : ∀ k, k < N → parseFieldDescriptor (T k).2.2.1 = some (ty0 k)) (hnm : ∀ a, a < N → ∀ b, b < N → a ≠ b → (T a).2.1 ≠ (T b).2.1) (hkf : kf < N) (hw : Cond.fieldLink own index (T kf).1 (T kf).2.1 (T kf).2.2.1 ∈ TB) (hr : rk d.1 kf = false) (hfin : (T kf).2.2.2 = false) (hn : narrow (ty0 kf) (.int x) = .int x) (hf : fits (ty0 kf) (.int x) = true) (kk : Rs G z p l e R s m args below meth c Q nL cells slots n k (pc + 3) ls st (uI σ d kf x)) : Rs G z p l e R s m args below meth c Q nL cells slots n k pc ls (vI x :: vR d :: st) σ := by
  intro H locs la hP hS hL
  have h2 := wsZ_at (G := G) (m := k) (σ := σ) ha hi
  rw [enS_O hk] at h2
  have e1 := wsZ_set (G := G) (m := k) (m' := k) (σ := σ) (σ' := uI σ d kf x) ha hi (fun d' h => enS_ne (uI_ne h) rfl) (enS_O hk)
  rw [← fvS_put hr] at e1
  exact va_put C.1 C.2.1 C.2.2.2.2.1 hin ty0 hty hnm C.2.2.2.1 C.2.2.2.2.2.1 hP (wsZ_D C.2.2.2.2.2.2.1) hS i h2 hc kf hkf (C.2.2.2.2.1 _ hw) (fun _ h => h) hfin (hty kf hkf) hn hf (by simpa using hkf) hd (fun H1 locs1 hP1 _ hS1 => kk H1 locs1 la (by rw [← e1]; exact hP1) hS1 hL)
theorem s_putR (C : Cs G z n0 p s m args meth c ret nL own cc) {d d2 : Id3} {i ci N kf : Nat} {E : String} {T : u_T} {ty0 : Nat → FieldType} (hI : meth.name = "<init>") (hd : decode cc pc = .ok (.putfield index, 3)) (ha : alo[i]? = some d) (hi : i < n) (hk : dk d.1 = (0, ci, N)) (hc : vwCl[ci]? = some (E, T, N)) (hin : ∀ w ∈ u_ws E T N, w ∈ TB) (hty : ∀ k, k < N → parseFieldDescriptor (T k).2.2.1 = some (ty0 k)) (hnm : ∀ a, a < N → ∀ b, b < N → a ≠ b → (T a).2.1 ≠ (T b).2.1) (hkf : kf < N) (hw : Cond.fieldLink own index (T kf).1 (T kf).2.1 (T kf).2.2.1 ∈ TB) (hr : rk d.1 kf = true) (hfin : (T kf).2.2.2 = true) (hdc : (T kf).1 = own) (hs : aso[k]? = some (d, kf)) (h2 : rf d kf = d2) (hn : ∀ a, narrow (ty0 kf) (.ref a) = .ref a) (hf : ∀ a, fits (ty0 kf) (.ref a) = true) (kk : Rs G z p l e R s m args below meth c Q nL cells slots n (k + 1) (pc + 3) ls st σ) : Rs G z p l e R s m args below meth c Q nL cells slots n k pc ls (vR d2 :: vR d :: st) σ := by
  intro H locs la hP hS hL
  subst h2
  have h2 := wsZ_at (G := G) (m := k) (σ := σ) ha hi
  rw [enS_O hk] at h2
  have e1 := wsZ_set (G := G) (m := k) (m' := k + 1) (σ := σ) (σ' := σ) ha hi (fun d' h => enS_nm hs h) (enS_O hk)
  rw [← fvS_ref hr hs] at e1
  exact va_putF C.1 C.2.1 C.2.2.2.2.1 hin ty0 hty hnm C.2.2.2.1 C.2.2.2.2.2.1 hP (wsZ_D C.2.2.2.2.2.2.1) hS i h2 hc kf hkf (C.2.2.2.2.1 _ hw) (fun _ h => h) hfin hI hdc (hty kf hkf) (hn _) (hf _) (by simpa using hkf) hd (fun H1 locs1 hP1 _ hS1 => kk H1 locs1 la (by rw [← e1]; exact hP1) hS1 hL)
theorem s_getR (C : Cs G z n0 p s m args meth c ret nL own cc) {d d2 : Id3} {i ci N kf : Nat} {E : String} {T : u_T} (hd : decode cc pc = .ok (.getfield index, 3)) (ha : alo[i]? = some d) (hi : i < n) (hk : dk d.1 = (0, ci, N)) (hc : vwCl[ci]? = some (E, T, N)) (hin : ∀ w ∈ u_ws E T N, w ∈ TB) (hkf : kf < N) (hw : Cond.fieldLink own index (T kf).1 (T kf).2.1 (T kf).2.2.1 ∈ TB) (hr : rk d.1 kf = true) (hs : asd k d kf = true) (h2 : rf d kf = d2) (kk : Rs G z p l e R s m args below meth c Q nL cells slots n k (pc + 3) ls (vR d2 :: st) σ) : Rs G z p l e R s m args below meth c Q nL cells slots n k pc ls (vR d :: st) σ := by
  intro H locs la hP hS hL
  subst h2
  have h2 := wsZ_at (G := G) (m := k) (σ := σ) ha hi
  rw [enS_O hk] at h2
  exact va_get C.1 C.2.1 C.2.2.2.2.1 hin C.2.2.2.1 C.2.2.2.2.2.1 hP i h2 hc kf hkf (C.2.2.2.2.1 _ hw) (fun _ h => h) (v := .ref (G.1 (rf d kf))) (by simp [hkf, fvS, hr, hs]) hd (kk H locs la hP hS hL)
theorem s_aast (C : Cs G z n0 p s m args meth c ret nL own cc) {d d2 : Id3} {i i2 N b ci N2 j : Nat} {E : String} {T : u_T} {x : Int32} (hd : decode cc pc = .ok (.aastore, 1)) (ha : alo[i]? = some d) (hi : i < n) (ha2 : alo[i2]? = some d2) (hi2 : i2 < n) (hk : dk d.1 = (5, N, b)) (hb : (tyl G)[b]? = some (G.2.2.1 b, .object E)) (hk2 : dk d2.1 = (0, ci, N2)) (hc : vwCl[ci]? = some (E, T, N2)) (hx : inb x N = true) (hj : x.toNatClampNeg = j) (hs : aso[k]? = some (d, j)) (h2 : el d j = d2) (kk : Rs G z p l e R s m args below meth c Q nL cells slots n (k + 1) (pc + 1) ls st σ) : Rs G z p l e R s m args below meth c Q nL cells slots n k pc ls (vR d2 :: vI x :: vR d :: st) σ := by
  intro H locs la hP hS hL
  subst h2
  subst hj
  have g1 := wsZ_at (G := G) (m := k) (σ := σ) ha hi
  have g2 := wsZ_at (G := G) (m := k) (σ := σ) ha2 hi2
  rw [enS_Q hk] at g1
  rw [enS_O hk2] at g2
  have e1 := wsZ_set (G := G) (m := k) (m' := k + 1) (σ := σ) (σ' := σ) ha hi (fun d' h => enS_nm hs h) (enS_Q hk)
  rw [← rqS_up hs] at e1
  exact va_astq C.1 C.2.1 C.2.2.2.2.2.1 hP (wsZ_D C.2.2.2.2.2.2.1) hS i b i2 ci g1 hb g2 hc (inb_in hx) hd (fun H1 locs1 hP1 _ hS1 => kk H1 locs1 la (by rw [← e1]; exact hP1) hS1 hL)
theorem s_iast (C : Cs G z n0 p s m args meth c ret nL own cc) {d : Id3} {i N j : Nat} {x v : Int32} (hd : decode cc pc = .ok (.iastore, 1)) (ha : alo[i]? = some d) (hi : i < n) (hk : dk d.1 = (1, N, 0)) (hx : inb x N = true) (hj : x.toNatClampNeg = j) (kk : Rs G z p l e R s m args below meth c Q nL cells slots n k (pc + 1) ls st (uI σ d j v)) : Rs G z p l e R s m args below meth c Q nL cells slots n k pc ls (vI v :: vI x :: vR d :: st) σ := by
  intro H locs la hP hS hL
  subst hj
  have g1 := wsZ_at (G := G) (m := k) (σ := σ) ha hi
  rw [enS_I hk (by decide)] at g1
  have e1 := wsZ_set (G := G) (m := k) (m' := k) (σ := σ) (σ' := uI σ d x.toNatClampNeg v) ha hi (fun d' h => enS_ne (uI_ne h) rfl) (enS_I hk (by decide))
  rw [uI_self] at e1
  exact va_iast C.1 C.2.1 C.2.2.2.2.2.1 hP (wsZ_D C.2.2.2.2.2.2.1) hS i 0 g1 rfl (inb_in hx) hd (fun H1 locs1 hP1 _ hS1 => kk H1 locs1 la (by rw [← e1]; exact hP1) hS1 hL)
theorem s_alen (C : Cs G z n0 p s m args meth c ret nL own cc) {d : Id3} {i N : Nat} {v : Int32} (hd : decode cc pc = .ok (.arraylength, 1)) (ha : alo[i]? = some d) (hi : i < n) (hk : dk d.1 = (1, N, 0)) (hv : Int32.ofNat N = v) (kk : Rs G z p l e R s m args below meth c Q nL cells slots n k (pc + 1) ls (vI v :: st) σ) : Rs G z p l e R s m args below meth c Q nL cells slots n k pc ls (vR d :: st) σ := by
  intro H locs la hP hS hL
  have g1 := wsZ_at (G := G) (m := k) (σ := σ) ha hi
  rw [enS_I hk (by decide)] at g1
  exact va_alen C.1 C.2.1 C.2.2.2.2.2.1 hP i 0 g1 rfl hv hd (kk H locs la hP hS hL)
theorem s_getsN (C : Cs G z n0 p s m args meth c ret nL own cc) {t : Nat} {nmn : String} (hd : decode cc pc = .ok (.getstatic index, 3)) (hz : (nmn, t) ∈ zsT) (hw : (own, index, nmn) ∈ nsF) (kk : Rs G z p l e R s m args below meth c Q nL cells slots n k (pc + 3) ls (vR (t, 0, 0) :: st) σ) : Rs G z p l e R s m args below meth c Q nL cells slots n k pc ls st σ := by
  intro H locs la hP hS hL
  exact va_getsN C.1 C.2.1 (C.2.2.2.2.2.2.2.1.1.2.1 _ hz) hS C.2.2.2.1 (va_Nw.use rfl (C.2.2.2.2.2.2.2.1.1.2.2.2.2.2.2.2 _ hw)) (fun _ h => h) hd (kk H locs la hP hS hL)
theorem s_return (C : Cs G z n0 p s m args meth c none nL own cc) {post : St → Prop} (hd : decode cc pc = .ok (.return_, 1)) (hp : post σ) (hn : n0 + cells = n) (hn2 : n ≤ 110) : Rs G z p l e R s m args below meth c (MQ below (va_Qv post (fun u => WdS G z n k u) (AZ z)) args s cells slots (AZ z)) nL cells slots n k pc ls [] σ := by
  intro H locs la hP hS hL
  refine W_sz fun hsz => ?_
  have hz : H.size = z + n := by
    have h1 := wsZ_lt C.2.2.2.2.2.2.1 hP hn2 (by have := hS.1; have := C.2.2.2.2.2.2.2.2.2.2; omega)
    have h2 := C.2.2.2.2.2.2.2.2.2.2
    omega
  exact W.vret C.1 C.2.1 C.2.2.2.2.2.2.2.2.2.1 (fun t ht hW => ⟨⟨σ, rfl, hp, WdS_of C hz hP hS ht hW⟩, hS.F ht⟩) hS.2.2 hd (hlocks := C.2.2.2.2.2.2.2.2.1)
theorem s_callI (C : Cs G z n0 p s m args meth c ret nL own cc) {mc ms n1 k1 : Nat} {d : Id3} (hd : decode cc pc = .ok (.invokespecial index, 3)) (hM : SpS G z l y bytes maxL none rm n k (vR d :: as) σ (va_Qv (fun b => b = σ') (fun u => WdS G z n1 k1 u) (AZ z)) mc ms) (hw1 : Cond.methodLink own index y ∈ TB) (hw2 : Cond.instanceMethod y ∈ TB) (hw3 : Cond.initialized y.cls ∈ TB) (hyi : y.name = "<init>") (hw4 : Cond.code y bytes maxL none ∈ TB) (hy : y.cls ≠ "java/lang/invoke/MethodHandle" ∧ y.cls ≠ "java/lang/invoke/VarHandle" ∧ (parseMethodDescriptor y.desc).map (fun d => d.parameters.length) = some as.length) (hR : rm.frames + 1 ≤ R.frames ∧ 8 + (maxL + 11) + rm.locals ≤ R.locals) (hrm : rm.cells = mc ∧ rm.slots = ms) (hcs : cells + mc ≤ R.cells ∧ slots + ms ≤ R.slots) (hn : n0 + cells = n) (hn2 : n ≤ 110) (h0 : st0 = as.reverse ++ (vR d :: st)) (hst : ((st.map (tv G.1)).map fun v => v.category).sum ≤ 8) (kk : Rs G z p l e R s m args below meth c Q nL (cells + mc) (slots + ms) n1 k1 (pc + 3) ls st σ') : Rs G z p l e R s m args below meth c Q nL cells slots n k pc ls st0 σ := by
  intro H locs la hP hS hL
  subst h0
  refine W_sz fun hsz => ?_
  have hz : H.size = z + n := by
    have h1 := wsZ_lt C.2.2.2.2.2.2.1 hP hn2 (by have := hS.1; have := C.2.2.2.2.2.2.2.2.2.2; omega)
    have h2 := C.2.2.2.2.2.2.2.2.2.2
    omega
  exact va_callv (va_runI (b := G.1 d) (As := as.map (tv G.1)) (rest := st.map (tv G.1)) (Ts := TB) ⟨C.1, C.2.1, C.2.2.1, C.2.2.2.1, C.2.2.2.2.1⟩ hM ⟨callB_of as.length C.2.2.2.2.1 (TB_good (fun _ h => h) hw4) rfl hrm.1 hrm.2 (C.2.2.2.2.1 _ hw3) (C.2.2.2.2.1 _ hw1) hy hR, hyi, C.2.2.2.2.1 _ hw2⟩ ⟨fun a U g mk q => ⟨q.1, WdS_call q.2⟩, fun U hU hW => ⟨rfl, WdS_of C hz hP hS hU hW⟩⟩ rfl (by simp) hL.1 (by simp [F0, tv]) (lv_room hst) hd hcs) hS (fun q _ h => h) (fun q h => h) (fun u t H1 locs1 ht hvm hpost hB hz1 hk1 hS1 => by
    subst hpost
    exact kk H1 locs1 la (by rw [← ht]; exact hB.2.1) hS1 hL)
theorem s_callIN (C : Cs G z n0 p s m args meth c ret nL own cc) {mc ms n1 k1 : Nat} {d : Id3} (hd : decode cc pc = .ok (.invokespecial index, 3)) (hM : SpS G z l y bytes maxL none rm n k (vR d :: as) σ (va_Qv (fun b => b = σ') (fun u => WdS G z n1 k1 u) (AZ z)) mc ms) (hw1 : (own, index, y) ∈ nsC) (hw2 : Cond.instanceMethod y ∈ TB) (hw3 : Cond.initialized y.cls ∈ TB) (hyi : y.name = "<init>") (hw4 : Cond.code y bytes maxL none ∈ TB) (hy : y.cls ≠ "java/lang/invoke/MethodHandle" ∧ y.cls ≠ "java/lang/invoke/VarHandle" ∧ (parseMethodDescriptor y.desc).map (fun d => d.parameters.length) = some as.length) (hR : rm.frames + 1 ≤ R.frames ∧ 8 + (maxL + 11) + rm.locals ≤ R.locals) (hrm : rm.cells = mc ∧ rm.slots = ms) (hcs : cells + mc ≤ R.cells ∧ slots + ms ≤ R.slots) (hn : n0 + cells = n) (hn2 : n ≤ 110) (h0 : st0 = as.reverse ++ (vR d :: st)) (hst : ((st.map (tv G.1)).map fun v => v.category).sum ≤ 8) (kk : Rs G z p l e R s m args below meth c Q nL (cells + mc) (slots + ms) n1 k1 (pc + 3) ls st σ') : Rs G z p l e R s m args below meth c Q nL cells slots n k pc ls st0 σ := by
  intro H locs la hP hS hL
  subst h0
  refine W_sz fun hsz => ?_
  have hz : H.size = z + n := by
    have h1 := wsZ_lt C.2.2.2.2.2.2.1 hP hn2 (by have := hS.1; have := C.2.2.2.2.2.2.2.2.2.2; omega)
    have h2 := C.2.2.2.2.2.2.2.2.2.2
    omega
  exact va_callv (va_runIN (host := "DropsDance") (b := G.1 d) (As := as.map (tv G.1)) (rest := st.map (tv G.1)) (Ts := TB) ⟨C.1, C.2.1, C.2.2.1, C.2.2.2.1, C.2.2.2.2.1⟩ hM ⟨va_cnB as.length C.2.2.2.2.1 (TB_good (fun _ h => h) hw4) rfl hrm.1 hrm.2 (C.2.2.2.2.2.2.2.1.2.1 _ hw1) (C.2.2.2.2.1 _ hw3) hy hR, hyi, C.2.2.2.2.1 _ hw2⟩ ⟨fun a U g mk q => ⟨q.1, WdS_call q.2⟩, fun U hU hW => ⟨rfl, WdS_of C hz hP hS hU hW⟩⟩ rfl (by simp) hL.1 (by simp [F0, tv]) (lv_room hst) hd hcs) hS (fun q _ h => h) (fun q h => h) (fun u t H1 locs1 ht hvm hpost hB hz1 hk1 hS1 => by
    subst hpost
    exact kk H1 locs1 la (by rw [← ht]; exact hB.2.1) hS1 hL)
theorem s_callV (C : Cs G z n0 p s m args meth c ret nL own cc) {mc ms n1 k1 : Nat} {d : Id3} {i ci N : Nat} {E : String} {T : u_T} (hd : decode cc pc = .ok (.invokevirtual index, 3)) (hM : SpS G z l y bytes maxL none rm n k (vR d :: as) σ (va_Qv (fun b => b = σ') (fun u => WdS G z n1 k1 u) (AZ z)) mc ms) (ha : alo[i]? = some d) (hi : i < n) (hk : dk d.1 = (0, ci, N)) (hc : vwCl[ci]? = some (E, T, N)) (hw1 : Cond.methodLink own index y ∈ TB) (hw2 : Cond.instanceMethod y ∈ TB) (hw5 : Cond.selects E y y ∈ TB) (hw3 : Cond.initialized y.cls ∈ TB) (hw4 : Cond.code y bytes maxL none ∈ TB) (hy : y.cls ≠ "java/lang/invoke/MethodHandle" ∧ y.cls ≠ "java/lang/invoke/VarHandle" ∧ (parseMethodDescriptor y.desc).map (fun d => d.parameters.length) = some as.length) (hR : rm.frames + 1 ≤ R.frames ∧ 8 + (maxL + 11) + rm.locals ≤ R.locals) (hrm : rm.cells = mc ∧ rm.slots = ms) (hcs : cells + mc ≤ R.cells ∧ slots + ms ≤ R.slots) (hn : n0 + cells = n) (hn2 : n ≤ 110) (h0 : st0 = as.reverse ++ (vR d :: st)) (hst : ((st.map (tv G.1)).map fun v => v.category).sum ≤ 8) (kk : Rs G z p l e R s m args below meth c Q nL (cells + mc) (slots + ms) n1 k1 (pc + 3) ls st σ') : Rs G z p l e R s m args below meth c Q nL cells slots n k pc ls st0 σ := by
  intro H locs la hP hS hL
  subst h0
  have g2 := wsZ_at (G := G) (m := k) (σ := σ) ha hi
  rw [enS_O hk] at g2
  refine W_sz fun hsz => ?_
  have hz : H.size = z + n := by
    have h1 := wsZ_lt C.2.2.2.2.2.2.1 hP hn2 (by have := hS.1; have := C.2.2.2.2.2.2.2.2.2.2; omega)
    have h2 := C.2.2.2.2.2.2.2.2.2.2
    omega
  exact va_callv (va_runV (C := E) (b := G.1 d) (As := as.map (tv G.1)) (rest := st.map (tv G.1)) (Ts := TB) ⟨C.1, C.2.1, C.2.2.1, C.2.2.2.1, C.2.2.2.2.1⟩ hM ⟨callB_of as.length C.2.2.2.2.1 (TB_good (fun _ h => h) hw4) rfl hrm.1 hrm.2 (C.2.2.2.2.1 _ hw3) (C.2.2.2.2.1 _ hw1) hy hR, C.2.2.2.2.1 _ hw2, C.2.2.2.2.1 _ hw5⟩ ⟨fun a U g mk q => ⟨q.1, WdS_call q.2⟩, va_recv C.2.2.2.2.2.1 hP hc g2, fun U hU hW => ⟨rfl, WdS_of C hz hP hS hU hW⟩⟩ rfl (by simp) hL.1 (by simp [F0, tv]) (lv_room hst) hd hcs) hS (fun q _ h => h) (fun q h => h) (fun u t H1 locs1 ht hvm hpost hB hz1 hk1 hS1 => by
    subst hpost
    exact kk H1 locs1 la (by rw [← ht]; exact hB.2.1) hS1 hL)
theorem s_callS (C : Cs G z n0 p s m args meth c ret nL own cc) {mc ms n1 k1 : Nat} (hd : decode cc pc = .ok (.invokestatic index, 3)) (hM : SpS G z l y bytes maxL none rm n k as σ (va_Qv (fun b => b = σ') (fun u => WdS G z n1 k1 u) (AZ z)) mc ms) (hw1 : Cond.methodLink own index y ∈ TB) (hw2 : Cond.static y ∈ TB) (hw3 : Cond.initialized y.cls ∈ TB) (hw4 : Cond.code y bytes maxL none ∈ TB) (hy : y.cls ≠ "java/lang/invoke/MethodHandle" ∧ y.cls ≠ "java/lang/invoke/VarHandle" ∧ (parseMethodDescriptor y.desc).map (fun d => d.parameters.length) = some as.length) (hR : rm.frames + 1 ≤ R.frames ∧ 8 + (maxL + 11) + rm.locals ≤ R.locals) (hrm : rm.cells = mc ∧ rm.slots = ms) (hcs : cells + mc ≤ R.cells ∧ slots + ms ≤ R.slots) (hn : n0 + cells = n) (hn2 : n ≤ 110) (h0 : st0 = as.reverse ++ st) (hst : ((st.map (tv G.1)).map fun v => v.category).sum ≤ 8) (kk : Rs G z p l e R s m args below meth c Q nL (cells + mc) (slots + ms) n1 k1 (pc + 3) ls st σ') : Rs G z p l e R s m args below meth c Q nL cells slots n k pc ls st0 σ := by
  intro H locs la hP hS hL
  subst h0
  refine W_sz fun hsz => ?_
  have hz : H.size = z + n := by
    have h1 := wsZ_lt C.2.2.2.2.2.2.1 hP hn2 (by have := hS.1; have := C.2.2.2.2.2.2.2.2.2.2; omega)
    have h2 := C.2.2.2.2.2.2.2.2.2.2
    omega
  exact va_callv (va_runS (As := as.map (tv G.1)) (rest := st.map (tv G.1)) (Ts := TB) ⟨C.1, C.2.1, C.2.2.1, C.2.2.2.1, C.2.2.2.2.1⟩ hM ⟨callB_of as.length C.2.2.2.2.1 (TB_good (fun _ h => h) hw4) rfl hrm.1 hrm.2 (C.2.2.2.2.1 _ hw3) (C.2.2.2.2.1 _ hw1) hy hR, C.2.2.2.2.1 _ hw2⟩ ⟨fun a U g mk q => ⟨q.1, WdS_call q.2⟩, fun U hU hW => ⟨rfl, WdS_of C hz hP hS hU hW⟩⟩ rfl (by simp) hL.1 (by simp [F0]) (lv_room hst) hd hcs) hS (fun q _ h => h) (fun q h => h) (fun u t H1 locs1 ht hvm hpost hB hz1 hk1 hS1 => by
    subst hpost
    exact kk H1 locs1 la (by rw [← ht]; exact hB.2.1) hS1 hL)
end RS2
section RS3
variable {G : Gx} {z n0 : Nat} {p : Program} {l : Launch} {e : Env} {R : Room} {s : State} {m : MethodId} {args : Array Value} {below : List Frame} {meth : Method} {c : Code} {Q : State → Prop} {nL : Nat} {ret : Option FieldType} {own : String} {cc : ByteArray}
variable {cells slots k : Nat} {pc : Nat} {ls : List (Nat × VV)} {st : List VV} {σ : St} {index : Nat}
theorem s_copyT (C : Cs G z n0 p s m args meth c ret nL own cc) {t n n' n0k i : Nat} {d' : Id3} {sp dp cn : Int32} {σ1 : St} (hd : decode cc pc = .ok (.invokestatic index, 3)) (ht : t ∈ roT) (hn : roN G t = n) (ha : alo[i]? = some d') (hi : i < n0k) (hk' : dk d'.1 = (1, n', 0)) (hw1 : Cond.methodLink own index arraycopyName ∈ TB) (hw2 : Cond.native arraycopyName ∈ TB) (hw3 : Cond.static arraycopyName ∈ TB) (hw4 : Cond.initialized "java/lang/System" ∈ TB) (hR : 1 ≤ R.frames ∧ ((st.map (tv G.1)).map fun v => v.category).sum + (nativeFrameWords "java/lang/System" "arraycopy" 5 + 11) ≤ R.locals) (hc : cpk sp dp cn n n' = true) {f : Nat → Int32} (hf : roV G t = f) (hσ : σ1 = uR σ d' (va_cpy f (σ.1 d') sp.toNatClampNeg dp.toNatClampNeg cn.toNatClampNeg)) (kk : Rs G z p l e R s m args below meth c Q nL cells slots n0k k (pc + 3) ls st σ1) : Rs G z p l e R s m args below meth c Q nL cells slots n0k k pc ls (vI cn :: vI dp :: vR d' :: vI sp :: vR (t, 0, 0) :: st) σ := by
  intro H locs la hP hS hL
  subst hσ
  subst hn
  subst hf
  obtain ⟨c1, c2, c3, c4, c5⟩ := of_decide_eq_true hc
  have g4 := wsZ_at (G := G) (m := k) (σ := σ) ha hi
  rw [enS_I hk' (by decide)] at g4
  have e1 := wsZ_set (G := G) (m := k) (m' := k) (σ := σ) (σ' := uR σ d' (va_cpy (roV G t) (σ.1 d') sp.toNatClampNeg dp.toNatClampNeg cn.toNatClampNeg)) ha hi (fun d'' h => enS_ne (uR_ne h) rfl) (enS_I hk' (by decide))
  rw [uR_self] at e1
  have hD := wsZ_D (G := G) (n := n0k) (m := k) (σ := σ) (C.2.2.2.2.2.2.1)
  have toN : ∀ v : Int32, ¬ v < 0 → v.toInt = (v.toNatClampNeg : Int) := by
    intro v hv
    have h0 : (0 : Int) ≤ v.toInt := by
      have := Int32.not_lt.mp hv
      simpa using Int32.le_iff_toInt_le.mp this
    show v.toInt = ((v.toInt.toNat : Nat) : Int)
    omega
  obtain ⟨src, b1, b2, b3, b4, -, b5, b6⟩ := C.2.2.2.2.2.2.2.1.1.1 t ht
  have b1H : H[G.1 (t, 0, 0)]? = some src := by rw [hS.2.1 _ (Array.getElem?_eq_some_iff.mp b1).1 b6]; exact b1
  have dH : H[G.1 d']? = some (vp_cell (G.2.2.1 0) (n', .inl (σ.1 d'))) := hP i _ g4
  obtain ⟨b7, ks, hks, cs, hcs⟩ := b2
  obtain ⟨-, kd, hkd, cd, hcd⟩ := (C.2.2.2.2.2.1.2 0 (G.2.2.1 0, .int) rfl).1 n' (fun j => .int (σ.1 d' j))
  intro T hT X
  obtain ⟨vm', X', step⟩ := X.arraycopy C.1 C.2.2.2.1 (C.2.2.2.2.1 _ hw1) (C.2.2.2.2.1 _ hw2) (C.2.2.2.2.1 _ hw3) (C.2.2.2.2.1 _ hw4) (src := G.1 (t, 0, 0)) (dst := G.1 d') (cs := src) (cd := vp_cell (G.2.2.1 0) (n', .inl (σ.1 d'))) (srcPos := sp) (destPos := dp) (n := cn) (by rw [hT]; exact b1H) (by rw [hT]; exact dH)
    b7 (fun _ h => by cases h) b3 (fun h => by cases h) hks hkd hcs hcd (by simp [refKind]) c1 c2 c3
    (by rw [toN sp c1, toN cn c3]; omega)
    (by rw [toN dp c2, toN cn c3]; show ¬ _ > ((arrV (G.2.2.1 0) n' (fun j => .int (σ.1 d' j))).slots.size : Int); rw [arrV_size]; omega)
    (fun vm₁ _ i' hi' => by
      have e2 : src.slots.getD (sp.toNatClampNeg + i') .null = .int (roV G t (sp.toNatClampNeg + i')) := by
        rw [Array.getD_eq_getD_getElem?, b5 _ (by omega)]
        rfl
      refine ⟨?_, ?_⟩
      · rw [e2]; rfl
      · rw [e2]; exact trivial)
    (g := F0 m pc la ((vI cn :: vI dp :: vR d' :: vI sp :: vR (t, 0, 0) :: st).map (tv G.1))) rfl (hL.1.trans C.2.2.1.symm) (rest := st.map (tv G.1)) rfl (by rw [C.2.1]; exact hd) hR.1 (by have := hR.2; show 2 * 0 + _ + _ ≤ _; omega)
  have e3 : copied src (vp_cell (G.2.2.1 0) (n', .inl (σ.1 d'))) sp dp cn = vp_cell (G.2.2.1 0) (n', .inl (va_cpy (roV G t) (σ.1 d') sp.toNatClampNeg dp.toNatClampNeg cn.toNatClampNeg)) := va_copiedX (fun v => .int v) src (G.2.2.1 0) (roV G t) (σ.1 d') b5 c4
  rw [e3] at X' step
  have hlt : G.1 d' < H.size := (Array.getElem?_eq_some_iff.mp dH).1
  have oq : ∀ q : Nat, q ≠ G.1 d' → (H.setIfInBounds (G.1 d') (vp_cell (G.2.2.1 0) (n', .inl (va_cpy (roV G t) (σ.1 d') sp.toNatClampNeg dp.toNatClampNeg cn.toNatClampNeg))))[q]? = H[q]? := fun q hq => by simp [Array.getElem?_setIfInBounds, Ne.symm hq]
  have hP1 := hP.set hD g4 (e := .inl (G.2.2.1 0, n', .inl (va_cpy (roV G t) (σ.1 d') sp.toNatClampNeg dp.toNatClampNeg cn.toNatClampNeg))) (H1 := H.setIfInBounds (G.1 d') (vp_cell (G.2.2.1 0) (n', .inl (va_cpy (roV G t) (σ.1 d') sp.toNatClampNeg dp.toNatClampNeg cn.toNatClampNeg)))) (show (H.setIfInBounds (G.1 d') _)[G.1 d']? = some _ by simp [Array.getElem?_setIfInBounds, hlt]) oq
  rw [e1] at hP1
  obtain ⟨t2, a1, a2⟩ := kk _ _ la hP1 ⟨by simp; exact hS.1, fun q h1 h2 => by
      rw [oq q (fun e => h2 (by rw [e]; exact hD.2 i _ g4))]
      exact hS.2.1 q h1 h2, fun q hq => by
      rcases List.mem_append.mp hq with h | h
      · exact hS.2.2 q h
      · obtain ⟨v, -, hv⟩ := List.mem_map.mp h
        rw [← hv]
        exact hD.2 i _ g4⟩ hL _ (by rw [← hT]; rfl) X'
  exact ⟨t2, step t2 a1, a2⟩
end RS3
