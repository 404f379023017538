/-! the making: the objects in the order in which they are made, the references in the order in which they are set -/
def alo : List Id3 := [(0, 0, 0), (2, 0, 0), (1, 0, 0), (3, 1, 0), (4, 1, 0), (5, 0, 0), (6, 0, 0), (3, 0, 0), (4, 0, 0), (7, 0, 0), (8, 0, 0), (9, 0, 0), (10, 0, 0), (10, 0, 1), (10, 0, 2), (10, 0, 3), (10, 0, 4), (10, 0, 5), (10, 0, 6), (10, 0, 7), (10, 0, 8), (10, 0, 9), (10, 0, 10), (10, 0, 11), (11, 0, 0), (13, 0, 0), (7, 3, 0), (8, 3, 0), (9, 3, 0), (10, 3, 0), (10, 3, 1), (10, 3, 2), (10, 3, 3), (10, 3, 4), (10, 3, 5), (10, 3, 6), (10, 3, 7), (10, 3, 8), (10, 3, 9), (10, 3, 10), (10, 3, 11), (14, 0, 0), (15, 0, 0), (16, 0, 0), (10, 4, 0), (17, 0, 0), (18, 0, 0), (19, 0, 0), (19, 1, 0), (20, 0, 0), (21, 0, 0), (22, 0, 0), (23, 0, 0), (24, 0, 0), (25, 0, 0), (12, 0, 0), (7, 1, 0), (8, 1, 0), (9, 1, 0), (10, 1, 0), (10, 1, 1), (10, 1, 2), (10, 1, 3), (10, 1, 4), (10, 1, 5), (10, 1, 6), (10, 1, 7), (10, 1, 8), (10, 1, 9), (10, 1, 10), (10, 1, 11), (12, 1, 0), (7, 2, 0), (8, 2, 0), (9, 2, 0), (10, 2, 0), (10, 2, 1), (10, 2, 2), (10, 2, 3), (10, 2, 4), (10, 2, 5), (10, 2, 6), (10, 2, 7), (10, 2, 8), (10, 2, 9), (10, 2, 10), (10, 2, 11), (26, 0, 0), (27, 0, 0), (26, 1, 0), (27, 1, 0), (26, 2, 0), (27, 2, 0), (26, 3, 0), (27, 3, 0), (40, 0, 0), (41, 0, 0), (42, 0, 0), (43, 0, 0), (44, 0, 0), (45, 0, 0), (46, 0, 0), (47, 0, 0), (48, 0, 0), (49, 0, 0), (50, 0, 0), (51, 0, 0), (52, 0, 0), (53, 0, 0), (54, 0, 0)]
def aso : List (Id3 × Nat) := [((2, 0, 0), 0), ((3, 1, 0), 0), ((2, 0, 0), 1), ((2, 0, 0), 2), ((2, 0, 0), 3), ((0, 0, 0), 0), ((3, 0, 0), 0), ((0, 0, 0), 3), ((7, 0, 0), 0), ((7, 0, 0), 1), ((9, 0, 0), 0), ((9, 0, 0), 1), ((9, 0, 0), 2), ((9, 0, 0), 3), ((9, 0, 0), 4), ((9, 0, 0), 5), ((9, 0, 0), 6), ((9, 0, 0), 7), ((9, 0, 0), 8), ((9, 0, 0), 9), ((9, 0, 0), 10), ((9, 0, 0), 11), ((0, 0, 0), 4), ((0, 0, 0), 5), ((7, 3, 0), 0), ((7, 3, 0), 1), ((9, 3, 0), 0), ((9, 3, 0), 1), ((9, 3, 0), 2), ((9, 3, 0), 3), ((9, 3, 0), 4), ((9, 3, 0), 5), ((9, 3, 0), 6), ((9, 3, 0), 7), ((9, 3, 0), 8), ((9, 3, 0), 9), ((9, 3, 0), 10), ((9, 3, 0), 11), ((13, 0, 0), 0), ((13, 0, 0), 1), ((13, 0, 0), 2), ((0, 0, 0), 6), ((16, 0, 0), 0), ((16, 0, 0), 1), ((0, 0, 0), 7), ((18, 0, 0), 0), ((18, 0, 0), 1), ((0, 0, 0), 8), ((20, 0, 0), 0), ((20, 0, 0), 1), ((20, 0, 0), 2), ((20, 0, 0), 3), ((0, 0, 0), 9), ((0, 0, 0), 10), ((7, 1, 0), 0), ((7, 1, 0), 1), ((9, 1, 0), 0), ((9, 1, 0), 1), ((9, 1, 0), 2), ((9, 1, 0), 3), ((9, 1, 0), 4), ((9, 1, 0), 5), ((9, 1, 0), 6), ((9, 1, 0), 7), ((9, 1, 0), 8), ((9, 1, 0), 9), ((9, 1, 0), 10), ((9, 1, 0), 11), ((12, 0, 0), 0), ((11, 0, 0), 0), ((7, 2, 0), 0), ((7, 2, 0), 1), ((9, 2, 0), 0), ((9, 2, 0), 1), ((9, 2, 0), 2), ((9, 2, 0), 3), ((9, 2, 0), 4), ((9, 2, 0), 5), ((9, 2, 0), 6), ((9, 2, 0), 7), ((9, 2, 0), 8), ((9, 2, 0), 9), ((9, 2, 0), 10), ((9, 2, 0), 11), ((12, 1, 0), 0), ((11, 0, 0), 1), ((26, 0, 0), 0), ((25, 0, 0), 0), ((26, 1, 0), 0), ((25, 0, 0), 1), ((26, 2, 0), 0), ((25, 0, 0), 2), ((26, 3, 0), 0), ((25, 0, 0), 3), ((40, 0, 0), 0), ((40, 0, 0), 1), ((40, 0, 0), 2), ((40, 0, 0), 3), ((40, 0, 0), 4), ((40, 0, 0), 6), ((40, 0, 0), 7), ((40, 0, 0), 20), ((40, 0, 0), 21), ((40, 0, 0), 22), ((40, 0, 0), 24), ((40, 0, 0), 25), ((40, 0, 0), 26), ((40, 0, 0), 27)]
theorem alo_nd : alo.Nodup := by decide +kernel
theorem alo_ids : ∀ d ∈ ids, d ∈ alo := by decide +kernel
def asd (m : Nat) (d : Id3) (k : Nat) : Bool := decide ((d, k) ∈ aso.take m)
theorem asd_succ {m : Nat} {d : Id3} {k : Nat} (h : aso[m]? = some (d, k)) (d' : Id3) (k' : Nat) : asd (m + 1) d' k' = (asd m d' k' || decide (d' = d ∧ k' = k)) := by
  unfold asd
  rw [List.take_add_one, h]
  simp only [Option.toList_some, List.mem_append, List.mem_singleton, Prod.mk.injEq, Bool.decide_or]
def fvS (ad : Id3 → Nat) (m : Nat) (σ : St) (d : Id3) (k : Nat) : Value := if rk d.1 k = true then (if asd m d k = true then .ref (ad (rf d k)) else .null) else .int (σ.1 d k)
def rqS (ad : Id3 → Nat) (m : Nat) (d : Id3) (j : Nat) : Option Nat := if asd m d j = true then some (ad (el d j)) else none
def enS (G : Gx) (m : Nat) (σ : St) (d : Id3) : va_E := match dk d.1 with
  | (0, ci, n) => .inr (ci, (List.range n).map (fvS G.1 m σ d))
  | (4, n, b) => .inl (G.2.2.1 b, n, .inr (.inl (σ.2 d)))
  | (5, n, b) => .inl (G.2.2.1 b, n, .inr (.inr (.inr (.inr (rqS G.1 m d)))))
  | (_, n, b) => .inl (G.2.2.1 b, n, .inl (σ.1 d))
theorem enS_I {G : Gx} {m : Nat} {σ : St} {d : Id3} {n b z : Nat} (h : dk d.1 = (z, n, b)) (h0 : z = 1 ∨ z = 2 ∨ z = 3) : enS G m σ d = .inl (G.2.2.1 b, n, .inl (σ.1 d)) := by
  rcases h0 with rfl | rfl | rfl <;> simp [enS, h]
theorem enS_J {G : Gx} {m : Nat} {σ : St} {d : Id3} {n b : Nat} (h : dk d.1 = (4, n, b)) : enS G m σ d = .inl (G.2.2.1 b, n, .inr (.inl (σ.2 d))) := by simp [enS, h]
theorem enS_Q {G : Gx} {m : Nat} {σ : St} {d : Id3} {n b : Nat} (h : dk d.1 = (5, n, b)) : enS G m σ d = .inl (G.2.2.1 b, n, .inr (.inr (.inr (.inr (rqS G.1 m d))))) := by simp [enS, h]
theorem enS_O {G : Gx} {m : Nat} {σ : St} {d : Id3} {ci n : Nat} (h : dk d.1 = (0, ci, n)) : enS G m σ d = .inr (ci, (List.range n).map (fvS G.1 m σ d)) := by simp [enS, h]
theorem enS_ne {G : Gx} {m : Nat} {σ σ' : St} {d : Id3} (h1 : σ'.1 d = σ.1 d) (h2 : σ'.2 d = σ.2 d) : enS G m σ' d = enS G m σ d := by
  have hf : fvS G.1 m σ' d = fvS G.1 m σ d := by funext k; simp [fvS, h1]
  simp only [enS, h1, h2, hf]
theorem enS_nm {G : Gx} {m : Nat} {σ : St} {d d' : Id3} {k : Nat} (h : aso[m]? = some (d, k)) (hd : d' ≠ d) : enS G (m + 1) σ d' = enS G m σ d' := by
  have ha : ∀ k', asd (m + 1) d' k' = asd m d' k' := fun k' => by rw [asd_succ h]; simp [hd]
  have hf : fvS G.1 (m + 1) σ d' = fvS G.1 m σ d' := by funext k'; simp [fvS, ha]
  have hq : rqS G.1 (m + 1) d' = rqS G.1 m d' := by funext k'; simp [rqS, ha]
  simp only [enS, hf, hq]
def wsZ (G : Gx) (n m : Nat) (σ : St) : va_W := (alo.take n).map (fun d => (G.1 d, enS G m σ d))
def AZ (z : Nat) : Nat → Prop := fun q => z ≤ q ∧ q < z + 110
/-- the addresses go up as things are made -/
def Adr (G : Gx) (z : Nat) : Prop := ∀ (k : Nat) (d : Id3), alo[k]? = some d → G.1 d = z + k
theorem tk {n i : Nat} {d : Id3} (h : alo[i]? = some d) (hn : i < n) : (alo.take n)[i]? = some d := by rw [List.getElem?_take_of_lt hn]; exact h
theorem wsZ_at {G : Gx} {n m : Nat} {σ : St} {i : Nat} {d : Id3} (h : alo[i]? = some d) (hn : i < n) : (wsZ G n m σ)[i]? = some (G.1 d, enS G m σ d) := by
  rw [wsZ, List.getElem?_map, tk h hn]
  rfl
theorem tk_inv {n i : Nat} {d : Id3} (h : (alo.take n)[i]? = some d) : alo[i]? = some d ∧ i < n := by
  rw [List.getElem?_take] at h
  split at h
  · exact ⟨h, by assumption⟩
  · cases h
theorem alo_len : alo.length = 110 := by decide +kernel
theorem wsZ_D {G : Gx} {z n m : Nat} {σ : St} (hG : Adr G z) : va_D (AZ z) (wsZ G n m σ) := by
  have key : ∀ (i : Nat) (x : Nat × va_E), (wsZ G n m σ)[i]? = some x → x.1 = z + i ∧ i < 110 := by
    intro i x hx
    rw [wsZ, List.getElem?_map] at hx
    cases hd : (alo.take n)[i]? with
    | none => rw [hd] at hx; cases hx
    | some d =>
      rw [hd] at hx
      cases hx
      have hl := (List.getElem?_eq_some_iff.mp (tk_inv hd).1).1
      rw [alo_len] at hl
      exact ⟨hG i d (tk_inv hd).1, hl⟩
  refine ⟨fun i j x y hx hy hxy => ?_, fun k q hq => ?_⟩
  · rw [(key i x hx).1, (key j y hy).1] at hxy
    omega
  · rw [(key k q hq).1]
    exact ⟨Nat.le_add_right _ _, Nat.add_lt_add_left (key k q hq).2 z⟩
theorem wsZ_set {G : Gx} {n m m' : Nat} {σ σ' : St} {i : Nat} {d : Id3} (h : alo[i]? = some d) (hn : i < n) (hne : ∀ d', d' ≠ d → enS G m' σ' d' = enS G m σ d') {e : va_E} (he : enS G m' σ' d = e) : (wsZ G n m σ).set i (G.1 d, e) = wsZ G n m' σ' := by
  subst he
  apply List.ext_getElem?
  intro j
  rw [wsZ, wsZ, List.getElem?_map]
  by_cases hj : j = i
  · subst hj
    have hk := tk h hn
    have hl : j < (alo.take n).length := (List.getElem?_eq_some_iff.mp hk).1
    rw [List.getElem?_set_self (by rw [List.length_map]; exact hl), hk]
    rfl
  · rw [List.getElem?_set_ne (Ne.symm hj), List.getElem?_map]
    cases hd : (alo.take n)[j]? with
    | none => rfl
    | some d' =>
      have hne' : d' ≠ d := by
        intro q
        subst q
        have l1 := List.getElem?_eq_some_iff.mp (tk_inv hd).1
        have l2 := List.getElem?_eq_some_iff.mp h
        exact hj ((List.getElem_inj alo_nd).mp (l1.2.trans l2.2.symm))
      rw [Option.map_some, Option.map_some, hne d' hne']
theorem wsZ_push {G : Gx} {n m : Nat} {σ σ' : St} {d : Id3} (h : alo[n]? = some d) (hne : ∀ d', d' ≠ d → enS G m σ' d' = enS G m σ d') : wsZ G (n + 1) m σ' = wsZ G n m σ ++ [(G.1 d, enS G m σ' d)] := by
  rw [wsZ, wsZ, List.take_add_one, h, List.map_append]
  congr 1
  apply List.map_congr_left
  intro d' hd'
  have hne' : d' ≠ d := by
    intro q
    subst q
    obtain ⟨j, hj⟩ := List.getElem?_of_mem hd'
    have l1 := List.getElem?_eq_some_iff.mp (tk_inv hj).1
    have l2 := List.getElem?_eq_some_iff.mp h
    have := (List.getElem_inj alo_nd).mp (l1.2.trans l2.2.symm)
    have := (tk_inv hj).2
    omega
  rw [hne d' hne']
/-- what a constructor may ask besides -/
def nsC : List (String × Nat × MethodName) := [("DropsDance$Scene", 56, yX0_init), ("DropsDance", 45, yX2_init), ("DropsDance", 52, yX3_init), ("DropsDance$Path", 11, yX0_init), ("DropsDance", 59, yX4_init), ("DropsDance", 66, yX9_init), ("DropsDance", 80, yX1_init), ("DropsDance", 81, yX7_init), ("DropsDance", 9, yX8_init)]
def aoC : List String := ["DropsDance$Drop", "DropsDance$Image", "DropsDance$Sheet"]
def ExS (G : Gx) (z : Nat) (U : State) (H : Heap) : Prop := Ex G (AZ z) U H ∧ (∀ q ∈ nsC, va_Nw (.methodLinkNest q.1 q.2.1 q.2.2 "DropsDance") U) ∧ ∀ C ∈ aoC, va_AO C U
theorem ExS.warm {G : Gx} {z : Nat} {s U : State} {H : Heap} (hW : s.WarmedH U.vm) (h : ExS G z s H) : ExS G z U H := ⟨h.1.warm hW, fun q hq => (h.2.1 q hq).warmM hW, fun C hC => (h.2.2 C hC).moved hW.alike⟩
theorem ExS.same {G : Gx} {z : Nat} {s U : State} {H : Heap} (hv : U.vm = s.vm) (h : ExS G z s H) : ExS G z U H := ⟨h.1.same hv, fun q hq => va_Nw.same rfl hv.symm (h.2.1 q hq), fun C hC => (h.2.2 C hC).moved (by rw [hv]; exact Vm.Alike.refl _)⟩
theorem ExS.kept {G : Gx} {z : Nat} {U : State} {H H1 : Heap} (h : ExS G z U H) (hq : ∀ a : Nat, a < H.size → ¬ AZ z a → H1[a]? = H[a]?) : ExS G z U H1 := ⟨h.1.kept hq, h.2.1, h.2.2⟩
def WdS (G : Gx) (z n m : Nat) (σ : St) (U : State) : Prop := U.heap.size = z + n ∧ va_P G.2.1 vwCl (wsZ G n m σ) U.heap ∧ va_K G.2.1 vwCl (tyl G) U ∧ Adr G z ∧ ExS G z U U.heap
/-- what a body knows, while things are being made; n0 were made when it began -/
def Cs (G : Gx) (z n0 : Nat) (p : Program) (s : State) (m : MethodId) (args : Array Value) (meth : Method) (c : Code) (ret : Option FieldType) (nL : Nat) (own : String) (cc : ByteArray) : Prop :=
  p.tables.exec = Jvm.exec ∧ c.code = cc ∧ c.maxLocals = nL ∧ s.vm.findClass own = some m.cls ∧ (∀ w ∈ TB, w.before args s = true) ∧ va_K G.2.1 vwCl (tyl G) s ∧ Adr G z ∧ ExS G z s s.heap ∧ meth.locks = false ∧ meth.sig.returnType = ret ∧ s.heap.size = z + n0
def okS (n : Nat) : VV → Prop
  | .inr (.inr (.inl d)) => d.1 < 100 → ∃ i, i < n ∧ alo[i]? = some d
  | _ => True
def Rs (G : Gx) (z : Nat) (p : Program) (l : Launch) (e : Env) (R : Room) (s : State) (m : MethodId) (args : Array Value) (below : List Frame) (meth : Method) (c : Code) (Q : State → Prop) (nL : Nat) (cells slots n k : Nat) (pc : Nat) (ls : List (Nat × VV)) (st : List VV) (σ : St) : Prop :=
  ∀ (H : Heap) (locs : List Loc) (la : Array Slot), va_P G.2.1 vwCl (wsZ G n k σ) H → va_S (AZ z) s.heap H locs → lv_has la nL (ls.map (tp G.1)) → W p l e R s m args below meth c H locs cells slots Q (F0 m pc la (st.map (tv G.1)))
theorem W_sz {p : Program} {l : Launch} {e : Env} {R : Room} {s : State} {m : MethodId} {args : Array Value} {below : List Frame} {meth : Method} {c : Code} {H : Heap} {locs : List Loc} {cells slots : Nat} {Q : State → Prop} {g : JFrame} (k : H.size ≤ s.heap.size + cells → W p l e R s m args below meth c H locs cells slots Q g) : W p l e R s m args below meth c H locs cells slots Q g := by
  intro T hT X
  have h := X.same.2.2.1
  exact k (by rw [← hT]; exact h) T hT X
theorem wsZ_lt {G : Gx} {z n m : Nat} {σ : St} {H : Heap} (hG : Adr G z) (hP : va_P G.2.1 vwCl (wsZ G n m σ) H) (hn : n ≤ 110) (h0 : z ≤ H.size) : z + n ≤ H.size := by
  cases n with
  | zero => exact h0
  | succ i =>
    have hl : i < alo.length := by
      have := alo_len
      omega
    have h1 : alo[i]? = some alo[i] := List.getElem?_eq_getElem hl
    have h2 := (hP i _ (wsZ_at h1 (Nat.lt_succ_self i))).lt
    have h3 := hG i _ h1
    have h4 : G.1 alo[i] < H.size := h2
    rw [h3] at h4
    omega
theorem arrV_cg {cI : ClassId} {N : Nat} {f g : Nat → Value} (h : ∀ j, j < N → f j = g j) : arrV cI N f = arrV cI N g := by
  unfold arrV
  congr 2
  funext i
  exact h i.1 i.2
section RS
variable {G : Gx} {z n0 : Nat} {p : Program} {l : Launch} {e : Env} {R : Room} {s : State} {m : MethodId} {args : Array Value} {below : List Frame} {meth : Method} {c : Code} {Q : State → Prop} {nL : Nat} {ret : Option FieldType} {own : String} {cc : ByteArray}
variable {cells slots n k : Nat} {pc : Nat} {ls : List (Nat × VV)} {st : List VV} {σ : St}
theorem s_iconst (C : Cs G z n0 p s m args meth c ret nL own cc) {i : Int} {v : Int32} (hd : decode cc pc = .ok (.iconst i, 1)) (hv : Int32.ofInt i = v) (kk : Rs G z p l e R s m args below meth c Q nL cells slots n k (pc + 1) ls (vI v :: st) σ) : Rs G z p l e R s m args below meth c Q nL cells slots n k pc ls st σ := by
  intro H locs la hP hS hL
  exact lv_iconst C.1 C.2.1 hd hv (kk H locs la hP hS hL)
theorem s_bipush (C : Cs G z n0 p s m args meth c ret nL own cc) {i : Int} {v : Int32} (hd : decode cc pc = .ok (.bipush i, 2)) (hv : (Int8.ofInt i).toInt32 = v) (kk : Rs G z p l e R s m args below meth c Q nL cells slots n k (pc + 2) ls (vI v :: st) σ) : Rs G z p l e R s m args below meth c Q nL cells slots n k pc ls st σ := by
  intro H locs la hP hS hL
  exact lv_bipush C.1 C.2.1 hd hv (kk H locs la hP hS hL)
theorem s_sipush (C : Cs G z n0 p s m args meth c ret nL own cc) {i : Int} {v : Int32} (hd : decode cc pc = .ok (.sipush i, 3)) (hv : (Int16.ofInt i).toInt32 = v) (kk : Rs G z p l e R s m args below meth c Q nL cells slots n k (pc + 3) ls (vI v :: st) σ) : Rs G z p l e R s m args below meth c Q nL cells slots n k pc ls st σ := by
  intro H locs la hP hS hL
  exact lv_sipush C.1 C.2.1 hd hv (kk H locs la hP hS hL)
theorem s_dup (C : Cs G z n0 p s m args meth c ret nL own cc) {d : Id3} (hd : decode cc pc = .ok (.dup, 1))  (kk : Rs G z p l e R s m args below meth c Q nL cells slots n k (pc + 1) ls (vR d :: vR d :: st) σ) : Rs G z p l e R s m args below meth c Q nL cells slots n k pc ls (vR d :: st) σ := by
  intro H locs la hP hS hL
  exact lv_dup C.1 C.2.1 hd rfl (kk H locs la hP hS hL)
theorem s_iload_n (C : Cs G z n0 p s m args meth c ret nL own cc) {q : Fin 4} {x : Int32} (j i : Nat) (hd : decode cc pc = .ok (.iload_n q, 1)) (hi : (q : Nat) = i) (hk : ls[j]? = some (i, vI x)) (kk : Rs G z p l e R s m args below meth c Q nL cells slots n k (pc + 1) ls (vI x :: st) σ) : Rs G z p l e R s m args below meth c Q nL cells slots n k pc ls st σ := by
  intro H locs la hP hS hL
  exact lv_iload_n C.1 C.2.1 hd hi (lk_at hL hk) (kk H locs la hP hS hL)
theorem s_aload_n (C : Cs G z n0 p s m args meth c ret nL own cc) {q : Fin 4} {x : Id3} (j i : Nat) (hd : decode cc pc = .ok (.aload_n q, 1)) (hi : (q : Nat) = i) (hk : ls[j]? = some (i, vR x)) (kk : Rs G z p l e R s m args below meth c Q nL cells slots n k (pc + 1) ls (vR x :: st) σ) : Rs G z p l e R s m args below meth c Q nL cells slots n k pc ls st σ := by
  intro H locs la hP hS hL
  exact lv_aload_n C.1 C.2.1 hd hi (lk_at hL hk) (kk H locs la hP hS hL)
theorem s_istore_n (C : Cs G z n0 p s m args meth c ret nL own cc) {q : Fin 4} {x : Int32} {ls2 : List (Nat × VV)} (hd : decode cc pc = .ok (.istore_n q, 1)) (i : Nat) (hi : (q : Nat) = i) (hn : i < nL) (h2 : ds1 i (vI x) ls = ls2) (kk : Rs G z p l e R s m args below meth c Q nL cells slots n k (pc + 1) ls2 st σ) : Rs G z p l e R s m args below meth c Q nL cells slots n k pc ls (vI x :: st) σ := by
  intro H locs la hP hS hL
  subst h2
  exact lv_istore_n C.1 C.2.1 hd hi hL hn (ds1_map G.1 i (vI x) ls) (fun la2 hL2 => kk H locs la2 hP hS hL2)
theorem s_astore_n (C : Cs G z n0 p s m args meth c ret nL own cc) {q : Fin 4} {x : Id3} {ls2 : List (Nat × VV)} (hd : decode cc pc = .ok (.astore_n q, 1)) (i : Nat) (hi : (q : Nat) = i) (hn : i < nL) (h2 : ds1 i (vR x) ls = ls2) (kk : Rs G z p l e R s m args below meth c Q nL cells slots n k (pc + 1) ls2 st σ) : Rs G z p l e R s m args below meth c Q nL cells slots n k pc ls (vR x :: st) σ := by
  intro H locs la hP hS hL
  subst h2
  exact lv_astore_n C.1 C.2.1 hd hi hL hn (ds1_map G.1 i (vR x) ls) (fun la2 hL2 => kk H locs la2 hP hS hL2)
theorem s_iinc (C : Cs G z n0 p s m args meth c ret nL own cc) {i : Nat} {a : Int} {x v : Int32} {ls2 : List (Nat × VV)} (j : Nat) (hd : decode cc pc = .ok (.iinc i a, 3)) (hk : ls[j]? = some (i, vI x)) (hv : x + Int32.ofInt a = v) (hn : i < nL) (h2 : ds1 i (vI v) ls = ls2) (kk : Rs G z p l e R s m args below meth c Q nL cells slots n k (pc + 3) ls2 st σ) : Rs G z p l e R s m args below meth c Q nL cells slots n k pc ls st σ := by
  intro H locs la hP hS hL
  subst h2
  exact lv_iinc (k := j) C.1 C.2.1 hd hL (lk_ix G.1 hk) hv hn (ds1_map G.1 i (vI v) ls) (fun la2 hL2 => kk H locs la2 hP hS hL2)
theorem s_goto (C : Cs G z n0 p s m args meth c ret nL own cc) {off : Int} (tgt : Nat) (hd : decode cc pc = .ok (.goto off, 3)) (ht : (pc : Int) + off = (tgt : Int)) (kk : Rs G z p l e R s m args below meth c Q nL cells slots n k tgt ls st σ) : Rs G z p l e R s m args below meth c Q nL cells slots n k pc ls st σ := by
  intro H locs la hP hS hL
  exact lv_goto C.1 C.2.1 hd ht (kk H locs la hP hS hL)
theorem s_geT (C : Cs G z n0 p s m args meth c ret nL own cc) {x y : Int32} {off : Int} (tgt : Nat) (hd : decode cc pc = .ok (.if_icmp .ge off, 3)) (ht : (pc : Int) + off = (tgt : Int)) (hc : y ≤ x) (kk : Rs G z p l e R s m args below meth c Q nL cells slots n k tgt ls st σ) : Rs G z p l e R s m args below meth c Q nL cells slots n k pc ls (vI y :: vI x :: st) σ := by
  intro H locs la hP hS hL
  exact lv_icmp_ge C.1 C.2.1 hd ht (fun _ => kk H locs la hP hS hL) (fun h => absurd hc h)
theorem s_geF (C : Cs G z n0 p s m args meth c ret nL own cc) {x y : Int32} {off : Int} (tgt : Nat) (hd : decode cc pc = .ok (.if_icmp .ge off, 3)) (ht : (pc : Int) + off = (tgt : Int)) (hc : ¬ y ≤ x) (kk : Rs G z p l e R s m args below meth c Q nL cells slots n k (pc + 3) ls st σ) : Rs G z p l e R s m args below meth c Q nL cells slots n k pc ls (vI y :: vI x :: st) σ := by
  intro H locs la hP hS hL
  exact lv_icmp_ge C.1 C.2.1 hd ht (fun h => absurd h hc) (fun _ => kk H locs la hP hS hL)
theorem s_objInit (C : Cs G z n0 p s m args meth c ret nL own cc) {index : Nat} {d : Id3} (hd : decode cc pc = .ok (.invokespecial index, 3)) (hw1 : Cond.methodLink own index Lib.objectInit ∈ TB) (hw2 : Cond.instanceMethod Lib.objectInit ∈ TB) (hw3 : Cond.code Lib.objectInit ⟨#[0xb1]⟩ 1 none ∈ TB) (hR : 1 ≤ R.frames ∧ ((st.map (tv G.1)).map fun v => v.category).sum + 12 ≤ R.locals) (kk : Rs G z p l e R s m args below meth c Q nL cells slots n k (pc + 3) ls st σ) : Rs G z p l e R s m args below meth c Q nL cells slots n k pc ls (vR d :: st) σ := by
  intro H locs la hP hS hL
  exact W.objInit C.1 C.2.1 C.2.2.2.1 (C.2.2.2.2.1 _ hw1) (C.2.2.2.2.1 _ hw2) (C.2.2.2.2.1 _ hw3) rfl (hL.1.trans C.2.2.1.symm) rfl hd hR.1 (by have := hR.2; show 2 * 0 + _ + 12 ≤ _; omega) (kk H locs la hP hS hL)
theorem s_new (C : Cs G z n0 p s m args meth c ret nL own cc) {index ci N : Nat} {E : String} {T : u_T} {ty : Nat → FieldType} {d : Id3} (hd : decode cc pc = .ok (.new index, 3)) (ha : alo[n]? = some d) (hk : dk d.1 = (0, ci, N)) (hc : vwCl[ci]? = some (E, T, N)) (hin : ∀ w ∈ u_ws E T N, w ∈ TB) (hty : ∀ k, k < N → parseFieldDescriptor (T k).2.2.1 = some (ty k)) (hdf : ∀ j, j < N → (rk d.1 j = true ∧ defaultValue (ty j) = .null ∧ asd k d j = false) ∨ (rk d.1 j = false ∧ defaultValue (ty j) = .int 0)) (hw1 : Cond.classLink own index E ∈ TB) (hw2 : Cond.instantiable E N ∈ TB) (hw3 : Cond.initialized E ∈ TB) (hn : n0 + cells = n) (hn2 : n ≤ 110) (hR : cells + 1 ≤ R.cells ∧ slots + N ≤ R.slots) (kk : Rs G z p l e R s m args below meth c Q nL (cells + 1) (slots + N) (n + 1) k (pc + 3) ls (vR d :: st) (uR σ d (fun _ => 0))) : Rs G z p l e R s m args below meth c Q nL cells slots n k pc ls st σ := by
  intro H locs la hP hS hL
  refine W_sz fun hsz => ?_
  have hz : H.size = z + n := by
    have h1 := wsZ_lt C.2.2.2.2.2.2.1 hP hn2 (by have := hS.1; have := C.2.2.2.2.2.2.2.2.2.2; omega)
    have h2 := C.2.2.2.2.2.2.2.2.2.2
    omega
  have hKn := C.2.2.2.2.2.1.1 ci _ hc
  have hgd : G.1 d = z + n := C.2.2.2.2.2.2.1 n d ha
  refine W.newcK C.1 C.2.1 C.2.2.2.1 (C.2.2.2.2.1 _ hw1) (C.2.2.2.2.1 _ hw2) (C.2.2.2.2.1 _ hw3) rfl hd hR.1 hR.2 hKn.2.1 hz fun H1 kC hkC e1 z1 o1 => ?_
  have hk1 : ∀ (i : Nat) (x : Nat × va_E), (wsZ G n k σ)[i]? = some x → H1[x.1]? = H[x.1]? := fun i x hx => o1 x.1 (by have := (hP i x hx).lt; omega)
  have e2 := wsZ_push (G := G) (m := k) (σ := σ) (σ' := uR σ d (fun _ => 0)) ha (fun d' h => enS_ne (uR_ne h) rfl)
  have hP1 : va_P G.2.1 vwCl (wsZ G (n + 1) k (uR σ d (fun _ => 0))) H1 := by
    rw [e2]
    refine (hP.kept hk1).app (fun i x hx => ?_)
    have hi : i < 1 := (List.getElem?_eq_some_iff.mp hx).1
    rw [show i = 0 by omega] at hx
    cases hx
    rw [enS_O hk, hgd]
    refine ⟨_, hc, (u_born ty C.2.2.2.2.1 hin hKn hkC e1 hty).to (fun j hj => ?_)⟩
    rcases hdf j hj with ⟨q1, q2, q3⟩ | ⟨q1, q2⟩
    · rw [q2]; simp [vp_V, hj, fvS, q1, q3]
    · rw [q2]; simp [vp_V, hj, fvS, q1, uR]
  have e3 : (Value.ref (z + n) :: st.map (tv G.1)) = (vR d :: st).map (tv G.1) := by simp [tv, hgd]
  rw [e3]
  exact kk H1 locs la hP1 ⟨by have := hS.1; omega, fun q h1 h2 => (o1 q (by have := hS.1; omega)).trans (hS.2.1 q h1 h2), hS.2.2⟩ hL
theorem s_newa (C : Cs G z n0 p s m args meth c ret nL own cc) {atype : ArrayType} {zc N b : Nat} {ty : FieldType} {v : Int32} {d : Id3} (hd : decode cc pc = .ok (.newarray atype, 2)) (ha : alo[n]? = some d) (hk : dk d.1 = (zc, N, b)) (hz0 : zc = 1 ∨ zc = 2 ∨ zc = 3) (hb : (tyl G)[b]? = some (G.2.2.1 b, ty)) (hty : newarray.typeOf atype = ty) (hdv : defaultValue ty = .int 0) (hnm : ∀ U : State, va_RA U (G.2.2.1 b) ty → U.vm.findClass ("[" ++ ty.toString) = some (G.2.2.1 b)) (hw : Cond.arrayClass ty ∈ TB) (hv : ¬ v < 0 ∧ v.toNatClampNeg = N ∧ N * componentBytes ty ≤ 536870912) (hn : n0 + cells = n) (hn2 : n ≤ 110) (hR : cells + 1 ≤ R.cells ∧ slots + N ≤ R.slots) (kk : Rs G z p l e R s m args below meth c Q nL (cells + 1) (slots + N) (n + 1) k (pc + 2) ls (vR d :: st) (uR σ d (fun _ => 0))) : Rs G z p l e R s m args below meth c Q nL cells slots n k pc ls (vI v :: st) σ := by
  intro H locs la hP hS hL
  subst hty
  refine W_sz fun hsz => ?_
  have hz : H.size = z + n := by
    have h1 := wsZ_lt C.2.2.2.2.2.2.1 hP hn2 (by have := hS.1; have := C.2.2.2.2.2.2.2.2.2.2; omega)
    have h2 := C.2.2.2.2.2.2.2.2.2.2
    omega
  have hgd : G.1 d = z + n := C.2.2.2.2.2.2.1 n d ha
  refine va_newaK C.1 C.2.1 (C.2.2.2.2.1 _ hw) rfl hd rfl hv.1 hv.2.1 hv.2.2 hR.1 hR.2 hz fun H1 cA e1 z1 o1 hAr hNm => ?_
  have hcA : cA = G.2.2.1 b := Option.some.inj (hNm.symm.trans (hnm s (C.2.2.2.2.2.1.2 b _ hb).2))
  subst hcA
  have hk1 : ∀ (i : Nat) (x : Nat × va_E), (wsZ G n k σ)[i]? = some x → H1[x.1]? = H[x.1]? := fun i x hx => o1 x.1 (by have := (hP i x hx).lt; omega)
  have e2 := wsZ_push (G := G) (m := k) (σ := σ) (σ' := uR σ d (fun _ => 0)) ha (fun d' h => enS_ne (uR_ne h) rfl)
  have hP1 : va_P G.2.1 vwCl (wsZ G (n + 1) k (uR σ d (fun _ => 0))) H1 := by
    rw [e2]
    refine (hP.kept hk1).app (fun i x hx => ?_)
    have hi : i < 1 := (List.getElem?_eq_some_iff.mp hx).1
    rw [show i = 0 by omega] at hx
    cases hx
    rw [enS_I hk hz0, hgd, uR_self]
    show H1[z + n]? = some (vp_cell _ _)
    rw [e1, vp_cell_i, hdv]
  have e3 : (Value.ref (z + n) :: st.map (tv G.1)) = (vR d :: st).map (tv G.1) := by simp [tv, hgd]
  show W _ _ _ _ _ _ _ _ _ _ _ _ _ _ _ (F0 m (pc + 2) la (Value.ref (z + n) :: st.map (tv G.1)))
  rw [e3]
  exact kk H1 locs la hP1 ⟨by have := hS.1; omega, fun q h1 h2 => (o1 q (by have := hS.1; omega)).trans (hS.2.1 q h1 h2), hS.2.2⟩ hL
theorem s_newJ (C : Cs G z n0 p s m args meth c ret nL own cc) {N : Nat} {v : Int32} {d : Id3} (hd : decode cc pc = .ok (.newarray .long, 2)) (ha : alo[n]? = some d) (hk : dk d.1 = (4, N, 3)) (hw : Cond.arrayClass .long ∈ TB) (hv : ¬ v < 0 ∧ v.toNatClampNeg = N ∧ N * componentBytes .long ≤ 536870912) (hn : n0 + cells = n) (hn2 : n ≤ 110) (hR : cells + 1 ≤ R.cells ∧ slots + N ≤ R.slots) (kk : Rs G z p l e R s m args below meth c Q nL (cells + 1) (slots + N) (n + 1) k (pc + 2) ls (vR d :: st) (uRL σ d (fun _ => 0))) : Rs G z p l e R s m args below meth c Q nL cells slots n k pc ls (vI v :: st) σ := by
  intro H locs la hP hS hL
  refine W_sz fun hsz => ?_
  have hz : H.size = z + n := by
    have h1 := wsZ_lt C.2.2.2.2.2.2.1 hP hn2 (by have := hS.1; have := C.2.2.2.2.2.2.2.2.2.2; omega)
    have h2 := C.2.2.2.2.2.2.2.2.2.2
    omega
  have hgd : G.1 d = z + n := C.2.2.2.2.2.2.1 n d ha
  refine va_newaK (atype := .long) C.1 C.2.1 (C.2.2.2.2.1 _ hw) rfl hd rfl hv.1 hv.2.1 hv.2.2 hR.1 hR.2 hz fun H1 cA e1 z1 o1 hAr hNm => ?_
  have hcA : cA = G.2.2.1 3 := Option.some.inj (hNm.symm.trans (C.2.2.2.2.2.1.2 3 (G.2.2.1 3, .long) rfl).2)
  subst hcA
  have hk1 : ∀ (i : Nat) (x : Nat × va_E), (wsZ G n k σ)[i]? = some x → H1[x.1]? = H[x.1]? := fun i x hx => o1 x.1 (by have := (hP i x hx).lt; omega)
  have e2 := wsZ_push (G := G) (m := k) (σ := σ) (σ' := uRL σ d (fun _ => 0)) ha (fun d' h => enS_ne rfl (uRL_ne h))
  have hP1 : va_P G.2.1 vwCl (wsZ G (n + 1) k (uRL σ d (fun _ => 0))) H1 := by
    rw [e2]
    refine (hP.kept hk1).app (fun i x hx => ?_)
    have hi : i < 1 := (List.getElem?_eq_some_iff.mp hx).1
    rw [show i = 0 by omega] at hx
    cases hx
    rw [enS_J hk, hgd, uRL_self]
    show H1[z + n]? = some (vp_cell _ _)
    rw [e1, vp_cell_l]
    rfl
  have e3 : (Value.ref (z + n) :: st.map (tv G.1)) = (vR d :: st).map (tv G.1) := by simp [tv, hgd]
  show W _ _ _ _ _ _ _ _ _ _ _ _ _ _ _ (F0 m (pc + 2) la (Value.ref (z + n) :: st.map (tv G.1)))
  rw [e3]
  exact kk H1 locs la hP1 ⟨by have := hS.1; omega, fun q h1 h2 => (o1 q (by have := hS.1; omega)).trans (hS.2.1 q h1 h2), hS.2.2⟩ hL
theorem s_newq (C : Cs G z n0 p s m args meth c ret nL own cc) {index N b : Nat} {E : String} {v : Int32} {d : Id3} (hd : decode cc pc = .ok (.anewarray index, 3)) (ha : alo[n]? = some d) (hk : dk d.1 = (5, N, b)) (hb : (tyl G)[b]? = some (G.2.2.1 b, .object E)) (hE : E ∈ aoC) (has : ∀ j, j < N → asd k d j = false) (hw1 : Cond.classLink own index E ∈ TB) (hv : ¬ v < 0 ∧ v.toNatClampNeg = N ∧ N * 4 ≤ 536870912) (hn : n0 + cells = n) (hn2 : n ≤ 110) (hR : cells + 1 ≤ R.cells ∧ slots + N ≤ R.slots) (kk : Rs G z p l e R s m args below meth c Q nL (cells + 1) (slots + N) (n + 1) k (pc + 3) ls (vR d :: st) σ) : Rs G z p l e R s m args below meth c Q nL cells slots n k pc ls (vI v :: st) σ := by
  intro H locs la hP hS hL
  obtain ⟨hv1, hv2, hv3⟩ := hv
  subst hv2
  refine W_sz fun hsz => ?_
  have hz : H.size = z + n := by
    have h1 := wsZ_lt C.2.2.2.2.2.2.1 hP hn2 (by have := hS.1; have := C.2.2.2.2.2.2.2.2.2.2; omega)
    have h2 := C.2.2.2.2.2.2.2.2.2.2
    omega
  have hgd : G.1 d = z + n := C.2.2.2.2.2.2.1 n d ha
  refine W.anew C.1 C.2.1 C.2.2.2.1 (C.2.2.2.2.1 _ hw1) (va_AO.use (C.2.2.2.2.2.2.2.1.2.2 E hE)) rfl hd rfl hv1 hv3 hR.1 hR.2 fun cA kA comp f1 f2 f3 f4 => ?_
  generalize hH1 : H.push ({ cls := cA, slots := Array.replicate v.toNatClampNeg .null, vm := .none } : Cell) = H1
  have z1 : H1.size = H.size + 1 := by rw [← hH1, Array.size_push]
  have e1 : H1[H.size]? = some (arrV cA v.toNatClampNeg (fun _ => .null)) := by rw [← hH1, Array.getElem?_push_size, ← arrV_new]
  have o1 : ∀ q : Nat, q < H.size → H1[q]? = H[q]? := fun q hq => by rw [← hH1, Array.getElem?_push, if_neg (Nat.ne_of_lt hq)]
  obtain ⟨-, -, -, -, -, hNm⟩ := (C.2.2.2.2.2.1.2 b _ hb).2
  have hcA : cA = G.2.2.1 b := Option.some.inj (f1.symm.trans hNm)
  subst hcA
  have hk1 : ∀ (i : Nat) (x : Nat × va_E), (wsZ G n k σ)[i]? = some x → H1[x.1]? = H[x.1]? := fun i x hx => o1 x.1 ((hP i x hx).lt)
  have e2 := wsZ_push (G := G) (m := k) (σ := σ) (σ' := σ) ha (fun d' h => rfl)
  have hP1 : va_P G.2.1 vwCl (wsZ G (n + 1) k σ) H1 := by
    rw [e2]
    refine (hP.kept hk1).app (fun i x hx => ?_)
    have hi : i < 1 := (List.getElem?_eq_some_iff.mp hx).1
    rw [show i = 0 by omega] at hx
    cases hx
    rw [enS_Q hk, hgd]
    show H1[z + n]? = some (vp_cell _ _)
    rw [← hz, e1, vp_cell_q]
    exact congrArg some (arrV_cg (fun j hj => by simp [rqS, has j hj, va_rf]))
  have e3 : (Value.ref H.size :: st.map (tv G.1)) = (vR d :: st).map (tv G.1) := by simp [tv, hgd, hz]
  show W _ _ _ _ _ _ _ _ _ _ _ _ _ _ _ (F0 m (pc + 3) la (Value.ref H.size :: st.map (tv G.1)))
  rw [e3]
  exact kk H1 locs la hP1 ⟨by have := hS.1; omega, fun q h1 h2 => (o1 q (by have := hS.1; omega)).trans (hS.2.1 q h1 h2), hS.2.2⟩ hL
end RS
